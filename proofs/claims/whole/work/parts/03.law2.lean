def mvL40 : List (Nat × Instr × Nat) := [(642, .invokevirtual 81, 3), (645, .if_icmp .eq 381, 3), (648, .iconst 0, 1), (649, .ireturn, 1), (650, .aload_n 1, 1), (651, .aload_n 0, 1), (652, .iload_n 3, 1), (653, .iconst 1, 1), (654, .iadd, 1), (655, .iaload, 1)]
theorem mvDL40 : ∀ x ∈ mvL40, decode code x.1 = .ok (x.2.1, x.2.2) := by decide +kernel
def mvL41 : List (Nat × Instr × Nat) := [(656, .aload_n 0, 1), (657, .iload_n 3, 1), (658, .iconst 2, 1), (659, .iadd, 1), (660, .iaload, 1), (661, .invokevirtual 82, 3), (664, .aload_n 2, 1), (665, .aload_n 0, 1), (666, .iload_n 3, 1), (667, .iconst 1, 1)]
theorem mvDL41 : ∀ x ∈ mvL41, decode code x.1 = .ok (x.2.1, x.2.2) := by decide +kernel
def mvL42 : List (Nat × Instr × Nat) := [(668, .iadd, 1), (669, .iaload, 1), (670, .aload_n 0, 1), (671, .iload_n 3, 1), (672, .iconst 2, 1), (673, .iadd, 1), (674, .iaload, 1), (675, .invokevirtual 85, 3), (678, .if_icmp .eq 348, 3), (681, .iconst 0, 1)]
theorem mvDL42 : ∀ x ∈ mvL42, decode code x.1 = .ok (x.2.1, x.2.2) := by decide +kernel
def mvL43 : List (Nat × Instr × Nat) := [(682, .ireturn, 1), (683, .aload_n 1, 1), (684, .aload_n 0, 1), (685, .iload_n 3, 1), (686, .iconst 1, 1), (687, .iadd, 1), (688, .iaload, 1), (689, .aload_n 0, 1), (690, .iload_n 3, 1), (691, .iconst 2, 1)]
theorem mvDL43 : ∀ x ∈ mvL43, decode code x.1 = .ok (x.2.1, x.2.2) := by decide +kernel
def mvL44 : List (Nat × Instr × Nat) := [(692, .iadd, 1), (693, .iaload, 1), (694, .invokevirtual 86, 3), (697, .aload_n 2, 1), (698, .aload_n 0, 1), (699, .iload_n 3, 1), (700, .iconst 1, 1), (701, .iadd, 1), (702, .iaload, 1), (703, .aload_n 0, 1)]
theorem mvDL44 : ∀ x ∈ mvL44, decode code x.1 = .ok (x.2.1, x.2.2) := by decide +kernel
def mvL45 : List (Nat × Instr × Nat) := [(704, .iload_n 3, 1), (705, .iconst 2, 1), (706, .iadd, 1), (707, .iaload, 1), (708, .invokevirtual 89, 3), (711, .if_icmp .eq 315, 3), (714, .iconst 0, 1), (715, .ireturn, 1), (716, .aload_n 1, 1), (717, .aload_n 0, 1)]
theorem mvDL45 : ∀ x ∈ mvL45, decode code x.1 = .ok (x.2.1, x.2.2) := by decide +kernel
def mvL46 : List (Nat × Instr × Nat) := [(718, .iload_n 3, 1), (719, .iconst 1, 1), (720, .iadd, 1), (721, .iaload, 1), (722, .aload_n 0, 1), (723, .iload_n 3, 1), (724, .iconst 2, 1), (725, .iadd, 1), (726, .iaload, 1), (727, .invokevirtual 90, 3)]
theorem mvDL46 : ∀ x ∈ mvL46, decode code x.1 = .ok (x.2.1, x.2.2) := by decide +kernel
def mvL47 : List (Nat × Instr × Nat) := [(730, .aload_n 2, 1), (731, .aload_n 0, 1), (732, .iload_n 3, 1), (733, .iconst 1, 1), (734, .iadd, 1), (735, .iaload, 1), (736, .aload_n 0, 1), (737, .iload_n 3, 1), (738, .iconst 2, 1), (739, .iadd, 1)]
theorem mvDL47 : ∀ x ∈ mvL47, decode code x.1 = .ok (x.2.1, x.2.2) := by decide +kernel
def mvL48 : List (Nat × Instr × Nat) := [(740, .iaload, 1), (741, .invokevirtual 93, 3), (744, .if_icmp .eq 282, 3), (747, .iconst 0, 1), (748, .ireturn, 1), (749, .aload_n 1, 1), (750, .aload_n 0, 1), (751, .iload_n 3, 1), (752, .iconst 1, 1), (753, .iadd, 1)]
theorem mvDL48 : ∀ x ∈ mvL48, decode code x.1 = .ok (x.2.1, x.2.2) := by decide +kernel
def mvL49 : List (Nat × Instr × Nat) := [(754, .iaload, 1), (755, .invokevirtual 94, 3), (758, .aload_n 2, 1), (759, .aload_n 0, 1), (760, .iload_n 3, 1), (761, .iconst 1, 1), (762, .iadd, 1), (763, .iaload, 1), (764, .invokevirtual 97, 3), (767, .if_icmp .eq 259, 3)]
theorem mvDL49 : ∀ x ∈ mvL49, decode code x.1 = .ok (x.2.1, x.2.2) := by decide +kernel
def mvL50 : List (Nat × Instr × Nat) := [(770, .iconst 0, 1), (771, .ireturn, 1), (772, .aload_n 1, 1), (773, .aload_n 0, 1), (774, .iload_n 3, 1), (775, .iconst 1, 1), (776, .iadd, 1), (777, .iaload, 1), (778, .invokevirtual 98, 3), (781, .aload_n 2, 1)]
theorem mvDL50 : ∀ x ∈ mvL50, decode code x.1 = .ok (x.2.1, x.2.2) := by decide +kernel
def mvL51 : List (Nat × Instr × Nat) := [(782, .aload_n 0, 1), (783, .iload_n 3, 1), (784, .iconst 1, 1), (785, .iadd, 1), (786, .iaload, 1), (787, .invokevirtual 101, 3), (790, .if_icmp .eq 236, 3), (793, .iconst 0, 1), (794, .ireturn, 1), (795, .aload_n 1, 1)]
theorem mvDL51 : ∀ x ∈ mvL51, decode code x.1 = .ok (x.2.1, x.2.2) := by decide +kernel
def mvL52 : List (Nat × Instr × Nat) := [(796, .invokevirtual 102, 3), (799, .aload_n 2, 1), (800, .invokevirtual 105, 3), (803, .if_icmp .eq 223, 3), (806, .iconst 0, 1), (807, .ireturn, 1), (808, .aload_n 1, 1), (809, .invokevirtual 106, 3), (812, .aload_n 2, 1), (813, .invokevirtual 109, 3)]
theorem mvDL52 : ∀ x ∈ mvL52, decode code x.1 = .ok (x.2.1, x.2.2) := by decide +kernel
def mvL53 : List (Nat × Instr × Nat) := [(816, .if_icmp .eq 210, 3), (819, .iconst 0, 1), (820, .ireturn, 1), (821, .aload_n 1, 1), (822, .aload_n 0, 1), (823, .iload_n 3, 1), (824, .iconst 1, 1), (825, .iadd, 1), (826, .iaload, 1), (827, .aload_n 0, 1)]
theorem mvDL53 : ∀ x ∈ mvL53, decode code x.1 = .ok (x.2.1, x.2.2) := by decide +kernel
def mvL54 : List (Nat × Instr × Nat) := [(828, .iload_n 3, 1), (829, .iconst 2, 1), (830, .iadd, 1), (831, .iaload, 1), (832, .aload_n 0, 1), (833, .iload_n 3, 1), (834, .iconst 3, 1), (835, .iadd, 1), (836, .iaload, 1), (837, .invokevirtual 110, 3)]
theorem mvDL54 : ∀ x ∈ mvL54, decode code x.1 = .ok (x.2.1, x.2.2) := by decide +kernel
def mvL55 : List (Nat × Instr × Nat) := [(840, .aload_n 2, 1), (841, .aload_n 0, 1), (842, .iload_n 3, 1), (843, .iconst 1, 1), (844, .iadd, 1), (845, .iaload, 1), (846, .aload_n 0, 1), (847, .iload_n 3, 1), (848, .iconst 2, 1), (849, .iadd, 1)]
theorem mvDL55 : ∀ x ∈ mvL55, decode code x.1 = .ok (x.2.1, x.2.2) := by decide +kernel
def mvL56 : List (Nat × Instr × Nat) := [(850, .iaload, 1), (851, .aload_n 0, 1), (852, .iload_n 3, 1), (853, .iconst 3, 1), (854, .iadd, 1), (855, .iaload, 1), (856, .invokevirtual 113, 3), (859, .if_icmp .eq 167, 3), (862, .iconst 0, 1), (863, .ireturn, 1)]
theorem mvDL56 : ∀ x ∈ mvL56, decode code x.1 = .ok (x.2.1, x.2.2) := by decide +kernel
def mvL57 : List (Nat × Instr × Nat) := [(864, .aload_n 1, 1), (865, .aload_n 0, 1), (866, .iload_n 3, 1), (867, .iconst 1, 1), (868, .iadd, 1), (869, .iaload, 1), (870, .invokevirtual 114, 3), (873, .aload_n 2, 1), (874, .aload_n 0, 1), (875, .iload_n 3, 1)]
theorem mvDL57 : ∀ x ∈ mvL57, decode code x.1 = .ok (x.2.1, x.2.2) := by decide +kernel
def mvL58 : List (Nat × Instr × Nat) := [(876, .iconst 1, 1), (877, .iadd, 1), (878, .iaload, 1), (879, .invokevirtual 117, 3), (882, .if_icmp .eq 144, 3), (885, .iconst 0, 1), (886, .ireturn, 1), (887, .aload_n 1, 1), (888, .aload_n 0, 1), (889, .iload_n 3, 1)]
theorem mvDL58 : ∀ x ∈ mvL58, decode code x.1 = .ok (x.2.1, x.2.2) := by decide +kernel
def mvL59 : List (Nat × Instr × Nat) := [(890, .iconst 1, 1), (891, .iadd, 1), (892, .iaload, 1), (893, .invokevirtual 118, 3), (896, .aload_n 2, 1), (897, .aload_n 0, 1), (898, .iload_n 3, 1), (899, .iconst 1, 1), (900, .iadd, 1), (901, .iaload, 1)]
theorem mvDL59 : ∀ x ∈ mvL59, decode code x.1 = .ok (x.2.1, x.2.2) := by decide +kernel
