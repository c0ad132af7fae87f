def mvL60 : List (Nat × Instr × Nat) := [(902, .invokevirtual 121, 3), (905, .if_icmp .eq 121, 3), (908, .iconst 0, 1), (909, .ireturn, 1), (910, .aload_n 1, 1), (911, .aload_n 0, 1), (912, .iload_n 3, 1), (913, .iconst 1, 1), (914, .iadd, 1), (915, .iaload, 1)]
theorem mvDL60 : ∀ x ∈ mvL60, decode code x.1 = .ok (x.2.1, x.2.2) := by decide +kernel
def mvL61 : List (Nat × Instr × Nat) := [(916, .invokevirtual 122, 3), (919, .aload_n 2, 1), (920, .aload_n 0, 1), (921, .iload_n 3, 1), (922, .iconst 1, 1), (923, .iadd, 1), (924, .iaload, 1), (925, .invokevirtual 125, 3), (928, .if_icmp .eq 98, 3), (931, .iconst 0, 1)]
theorem mvDL61 : ∀ x ∈ mvL61, decode code x.1 = .ok (x.2.1, x.2.2) := by decide +kernel
def mvL62 : List (Nat × Instr × Nat) := [(932, .ireturn, 1), (933, .aload_n 1, 1), (934, .aload_n 0, 1), (935, .iload_n 3, 1), (936, .iconst 1, 1), (937, .iadd, 1), (938, .iaload, 1), (939, .aload_n 0, 1), (940, .iload_n 3, 1), (941, .iconst 2, 1)]
theorem mvDL62 : ∀ x ∈ mvL62, decode code x.1 = .ok (x.2.1, x.2.2) := by decide +kernel
def mvL63 : List (Nat × Instr × Nat) := [(942, .iadd, 1), (943, .iaload, 1), (944, .invokevirtual 126, 3), (947, .aload_n 2, 1), (948, .aload_n 0, 1), (949, .iload_n 3, 1), (950, .iconst 1, 1), (951, .iadd, 1), (952, .iaload, 1), (953, .aload_n 0, 1)]
theorem mvDL63 : ∀ x ∈ mvL63, decode code x.1 = .ok (x.2.1, x.2.2) := by decide +kernel
def mvL64 : List (Nat × Instr × Nat) := [(954, .iload_n 3, 1), (955, .iconst 2, 1), (956, .iadd, 1), (957, .iaload, 1), (958, .invokevirtual 129, 3), (961, .if_icmp .eq 65, 3), (964, .iconst 0, 1), (965, .ireturn, 1), (966, .aload_n 1, 1), (967, .aload_n 0, 1)]
theorem mvDL64 : ∀ x ∈ mvL64, decode code x.1 = .ok (x.2.1, x.2.2) := by decide +kernel
def mvL65 : List (Nat × Instr × Nat) := [(968, .iload_n 3, 1), (969, .iconst 1, 1), (970, .iadd, 1), (971, .iaload, 1), (972, .invokevirtual 130, 3), (975, .aload_n 2, 1), (976, .aload_n 0, 1), (977, .iload_n 3, 1), (978, .iconst 1, 1), (979, .iadd, 1)]
theorem mvDL65 : ∀ x ∈ mvL65, decode code x.1 = .ok (x.2.1, x.2.2) := by decide +kernel
def mvL66 : List (Nat × Instr × Nat) := [(980, .iaload, 1), (981, .invokevirtual 133, 3), (984, .if_icmp .eq 42, 3), (987, .iconst 0, 1), (988, .ireturn, 1), (989, .aload_n 1, 1), (990, .aload_n 0, 1), (991, .iload_n 3, 1), (992, .iconst 1, 1), (993, .iadd, 1)]
theorem mvDL66 : ∀ x ∈ mvL66, decode code x.1 = .ok (x.2.1, x.2.2) := by decide +kernel
def mvL67 : List (Nat × Instr × Nat) := [(994, .iaload, 1), (995, .invokevirtual 134, 3), (998, .aload_n 2, 1), (999, .aload_n 0, 1), (1000, .iload_n 3, 1), (1001, .iconst 1, 1), (1002, .iadd, 1), (1003, .iaload, 1), (1004, .invokevirtual 137, 3), (1007, .if_icmp .eq 19, 3)]
theorem mvDL67 : ∀ x ∈ mvL67, decode code x.1 = .ok (x.2.1, x.2.2) := by decide +kernel
def mvL68 : List (Nat × Instr × Nat) := [(1010, .iconst 0, 1), (1011, .ireturn, 1), (1012, .aload_n 1, 1), (1013, .invokevirtual 138, 3), (1016, .aload_n 2, 1), (1017, .invokevirtual 142, 3), (1020, .lcmp, 1), (1021, .ifCond .eq 5, 3), (1024, .iconst 0, 1), (1025, .ireturn, 1)]
theorem mvDL68 : ∀ x ∈ mvL68, decode code x.1 = .ok (x.2.1, x.2.2) := by decide +kernel
def mvL69 : List (Nat × Instr × Nat) := [(1026, .iinc 3 5, 3), (1029, .goto (-1011), 3), (1032, .iconst 1, 1), (1033, .ireturn, 1)]
theorem mvDL69 : ∀ x ∈ mvL69, decode code x.1 = .ok (x.2.1, x.2.2) := by decide +kernel
