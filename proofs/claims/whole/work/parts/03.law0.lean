def mvL0 : List (Nat × Instr × Nat) := [(0, .new 7, 3), (3, .dup, 1), (4, .invokespecial 9, 3), (7, .astore_n 1, 1), (8, .new 10, 3), (11, .dup, 1), (12, .invokespecial 12, 3), (15, .astore_n 2, 1), (16, .iconst 0, 1), (17, .istore_n 3, 1)]
theorem mvDL0 : ∀ x ∈ mvL0, decode code x.1 = .ok (x.2.1, x.2.2) := by decide +kernel
def mvL1 : List (Nat × Instr × Nat) := [(18, .iload_n 3, 1), (19, .aload_n 0, 1), (20, .arraylength, 1), (21, .iconst 5, 1), (22, .isub, 1), (23, .if_icmp .gt 1009, 3), (26, .aload_n 0, 1), (27, .iload_n 3, 1), (28, .iaload, 1), (29, .bipush 31, 2)]
theorem mvDL1 : ∀ x ∈ mvL1, decode code x.1 = .ok (x.2.1, x.2.2) := by decide +kernel
def mvL2 : List (Nat × Instr × Nat) := [(31, .iand, 1), (32, .tableswitch 994 0 30 #[140, 163, 176, 189, 202, 235, 268, 301, 324, 367, 420, 453, 486, 529, 562, 595, 618, 651, 684, 717, 740, 763, 776, 789, 832, 855, 878, 901, 934, 957, 980], 140), (172, .aload_n 1, 1), (173, .aload_n 0, 1), (174, .iload_n 3, 1), (175, .iconst 1, 1), (176, .iadd, 1), (177, .iaload, 1), (178, .invokevirtual 13, 3), (181, .aload_n 2, 1)]
theorem mvDL2 : ∀ x ∈ mvL2, decode code x.1 = .ok (x.2.1, x.2.2) := by decide +kernel
def mvL3 : List (Nat × Instr × Nat) := [(182, .aload_n 0, 1), (183, .iload_n 3, 1), (184, .iconst 1, 1), (185, .iadd, 1), (186, .iaload, 1), (187, .invokevirtual 17, 3), (190, .if_icmp .eq 836, 3), (193, .iconst 0, 1), (194, .ireturn, 1), (195, .aload_n 1, 1)]
theorem mvDL3 : ∀ x ∈ mvL3, decode code x.1 = .ok (x.2.1, x.2.2) := by decide +kernel
def mvL4 : List (Nat × Instr × Nat) := [(196, .invokevirtual 18, 3), (199, .aload_n 2, 1), (200, .invokevirtual 22, 3), (203, .if_icmp .eq 823, 3), (206, .iconst 0, 1), (207, .ireturn, 1), (208, .aload_n 1, 1), (209, .invokevirtual 23, 3), (212, .aload_n 2, 1), (213, .invokevirtual 26, 3)]
theorem mvDL4 : ∀ x ∈ mvL4, decode code x.1 = .ok (x.2.1, x.2.2) := by decide +kernel
def mvL5 : List (Nat × Instr × Nat) := [(216, .if_icmp .eq 810, 3), (219, .iconst 0, 1), (220, .ireturn, 1), (221, .aload_n 1, 1), (222, .invokevirtual 27, 3), (225, .aload_n 2, 1), (226, .invokevirtual 30, 3), (229, .if_icmp .eq 797, 3), (232, .iconst 0, 1), (233, .ireturn, 1)]
theorem mvDL5 : ∀ x ∈ mvL5, decode code x.1 = .ok (x.2.1, x.2.2) := by decide +kernel
def mvL6 : List (Nat × Instr × Nat) := [(234, .aload_n 1, 1), (235, .aload_n 0, 1), (236, .iload_n 3, 1), (237, .iconst 1, 1), (238, .iadd, 1), (239, .iaload, 1), (240, .aload_n 0, 1), (241, .iload_n 3, 1), (242, .iconst 2, 1), (243, .iadd, 1)]
theorem mvDL6 : ∀ x ∈ mvL6, decode code x.1 = .ok (x.2.1, x.2.2) := by decide +kernel
def mvL7 : List (Nat × Instr × Nat) := [(244, .iaload, 1), (245, .invokevirtual 31, 3), (248, .aload_n 2, 1), (249, .aload_n 0, 1), (250, .iload_n 3, 1), (251, .iconst 1, 1), (252, .iadd, 1), (253, .iaload, 1), (254, .aload_n 0, 1), (255, .iload_n 3, 1)]
theorem mvDL7 : ∀ x ∈ mvL7, decode code x.1 = .ok (x.2.1, x.2.2) := by decide +kernel
def mvL8 : List (Nat × Instr × Nat) := [(256, .iconst 2, 1), (257, .iadd, 1), (258, .iaload, 1), (259, .invokevirtual 35, 3), (262, .if_icmp .eq 764, 3), (265, .iconst 0, 1), (266, .ireturn, 1), (267, .aload_n 1, 1), (268, .aload_n 0, 1), (269, .iload_n 3, 1)]
theorem mvDL8 : ∀ x ∈ mvL8, decode code x.1 = .ok (x.2.1, x.2.2) := by decide +kernel
def mvL9 : List (Nat × Instr × Nat) := [(270, .iconst 1, 1), (271, .iadd, 1), (272, .iaload, 1), (273, .aload_n 0, 1), (274, .iload_n 3, 1), (275, .iconst 2, 1), (276, .iadd, 1), (277, .iaload, 1), (278, .invokevirtual 36, 3), (281, .aload_n 2, 1)]
theorem mvDL9 : ∀ x ∈ mvL9, decode code x.1 = .ok (x.2.1, x.2.2) := by decide +kernel
def mvL10 : List (Nat × Instr × Nat) := [(282, .aload_n 0, 1), (283, .iload_n 3, 1), (284, .iconst 1, 1), (285, .iadd, 1), (286, .iaload, 1), (287, .aload_n 0, 1), (288, .iload_n 3, 1), (289, .iconst 2, 1), (290, .iadd, 1), (291, .iaload, 1)]
theorem mvDL10 : ∀ x ∈ mvL10, decode code x.1 = .ok (x.2.1, x.2.2) := by decide +kernel
def mvL11 : List (Nat × Instr × Nat) := [(292, .invokevirtual 39, 3), (295, .if_icmp .eq 731, 3), (298, .iconst 0, 1), (299, .ireturn, 1), (300, .aload_n 1, 1), (301, .aload_n 0, 1), (302, .iload_n 3, 1), (303, .iconst 1, 1), (304, .iadd, 1), (305, .iaload, 1)]
theorem mvDL11 : ∀ x ∈ mvL11, decode code x.1 = .ok (x.2.1, x.2.2) := by decide +kernel
def mvL12 : List (Nat × Instr × Nat) := [(306, .aload_n 0, 1), (307, .iload_n 3, 1), (308, .iconst 2, 1), (309, .iadd, 1), (310, .iaload, 1), (311, .invokevirtual 40, 3), (314, .aload_n 2, 1), (315, .aload_n 0, 1), (316, .iload_n 3, 1), (317, .iconst 1, 1)]
theorem mvDL12 : ∀ x ∈ mvL12, decode code x.1 = .ok (x.2.1, x.2.2) := by decide +kernel
def mvL13 : List (Nat × Instr × Nat) := [(318, .iadd, 1), (319, .iaload, 1), (320, .aload_n 0, 1), (321, .iload_n 3, 1), (322, .iconst 2, 1), (323, .iadd, 1), (324, .iaload, 1), (325, .invokevirtual 43, 3), (328, .if_icmp .eq 698, 3), (331, .iconst 0, 1)]
theorem mvDL13 : ∀ x ∈ mvL13, decode code x.1 = .ok (x.2.1, x.2.2) := by decide +kernel
def mvL14 : List (Nat × Instr × Nat) := [(332, .ireturn, 1), (333, .aload_n 1, 1), (334, .aload_n 0, 1), (335, .iload_n 3, 1), (336, .iconst 1, 1), (337, .iadd, 1), (338, .iaload, 1), (339, .invokevirtual 44, 3), (342, .aload_n 2, 1), (343, .aload_n 0, 1)]
theorem mvDL14 : ∀ x ∈ mvL14, decode code x.1 = .ok (x.2.1, x.2.2) := by decide +kernel
def mvL15 : List (Nat × Instr × Nat) := [(344, .iload_n 3, 1), (345, .iconst 1, 1), (346, .iadd, 1), (347, .iaload, 1), (348, .invokevirtual 47, 3), (351, .if_icmp .eq 675, 3), (354, .iconst 0, 1), (355, .ireturn, 1), (356, .aload_n 1, 1), (357, .aload_n 0, 1)]
theorem mvDL15 : ∀ x ∈ mvL15, decode code x.1 = .ok (x.2.1, x.2.2) := by decide +kernel
def mvL16 : List (Nat × Instr × Nat) := [(358, .iload_n 3, 1), (359, .iconst 1, 1), (360, .iadd, 1), (361, .iaload, 1), (362, .aload_n 0, 1), (363, .iload_n 3, 1), (364, .iconst 2, 1), (365, .iadd, 1), (366, .iaload, 1), (367, .aload_n 0, 1)]
theorem mvDL16 : ∀ x ∈ mvL16, decode code x.1 = .ok (x.2.1, x.2.2) := by decide +kernel
def mvL17 : List (Nat × Instr × Nat) := [(368, .iload_n 3, 1), (369, .iconst 3, 1), (370, .iadd, 1), (371, .iaload, 1), (372, .invokevirtual 48, 3), (375, .aload_n 2, 1), (376, .aload_n 0, 1), (377, .iload_n 3, 1), (378, .iconst 1, 1), (379, .iadd, 1)]
theorem mvDL17 : ∀ x ∈ mvL17, decode code x.1 = .ok (x.2.1, x.2.2) := by decide +kernel
def mvL18 : List (Nat × Instr × Nat) := [(380, .iaload, 1), (381, .aload_n 0, 1), (382, .iload_n 3, 1), (383, .iconst 2, 1), (384, .iadd, 1), (385, .iaload, 1), (386, .aload_n 0, 1), (387, .iload_n 3, 1), (388, .iconst 3, 1), (389, .iadd, 1)]
theorem mvDL18 : ∀ x ∈ mvL18, decode code x.1 = .ok (x.2.1, x.2.2) := by decide +kernel
def mvL19 : List (Nat × Instr × Nat) := [(390, .iaload, 1), (391, .invokevirtual 52, 3), (394, .if_icmp .eq 632, 3), (397, .iconst 0, 1), (398, .ireturn, 1), (399, .aload_n 1, 1), (400, .aload_n 0, 1), (401, .iload_n 3, 1), (402, .iconst 1, 1), (403, .iadd, 1)]
theorem mvDL19 : ∀ x ∈ mvL19, decode code x.1 = .ok (x.2.1, x.2.2) := by decide +kernel
