def mvL20 : List (Nat × Instr × Nat) := [(404, .iaload, 1), (405, .aload_n 0, 1), (406, .iload_n 3, 1), (407, .iconst 2, 1), (408, .iadd, 1), (409, .iaload, 1), (410, .aload_n 0, 1), (411, .iload_n 3, 1), (412, .iconst 3, 1), (413, .iadd, 1)]
theorem mvDL20 : ∀ x ∈ mvL20, decode code x.1 = .ok (x.2.1, x.2.2) := by decide +kernel
def mvL21 : List (Nat × Instr × Nat) := [(414, .iaload, 1), (415, .aload_n 0, 1), (416, .iload_n 3, 1), (417, .iconst 4, 1), (418, .iadd, 1), (419, .iaload, 1), (420, .invokevirtual 53, 3), (423, .aload_n 2, 1), (424, .aload_n 0, 1), (425, .iload_n 3, 1)]
theorem mvDL21 : ∀ x ∈ mvL21, decode code x.1 = .ok (x.2.1, x.2.2) := by decide +kernel
def mvL22 : List (Nat × Instr × Nat) := [(426, .iconst 1, 1), (427, .iadd, 1), (428, .iaload, 1), (429, .aload_n 0, 1), (430, .iload_n 3, 1), (431, .iconst 2, 1), (432, .iadd, 1), (433, .iaload, 1), (434, .aload_n 0, 1), (435, .iload_n 3, 1)]
theorem mvDL22 : ∀ x ∈ mvL22, decode code x.1 = .ok (x.2.1, x.2.2) := by decide +kernel
def mvL23 : List (Nat × Instr × Nat) := [(436, .iconst 3, 1), (437, .iadd, 1), (438, .iaload, 1), (439, .aload_n 0, 1), (440, .iload_n 3, 1), (441, .iconst 4, 1), (442, .iadd, 1), (443, .iaload, 1), (444, .invokevirtual 57, 3), (447, .if_icmp .eq 579, 3)]
theorem mvDL23 : ∀ x ∈ mvL23, decode code x.1 = .ok (x.2.1, x.2.2) := by decide +kernel
def mvL24 : List (Nat × Instr × Nat) := [(450, .iconst 0, 1), (451, .ireturn, 1), (452, .aload_n 1, 1), (453, .aload_n 0, 1), (454, .iload_n 3, 1), (455, .iconst 1, 1), (456, .iadd, 1), (457, .iaload, 1), (458, .aload_n 0, 1), (459, .iload_n 3, 1)]
theorem mvDL24 : ∀ x ∈ mvL24, decode code x.1 = .ok (x.2.1, x.2.2) := by decide +kernel
def mvL25 : List (Nat × Instr × Nat) := [(460, .iconst 2, 1), (461, .iadd, 1), (462, .iaload, 1), (463, .invokevirtual 58, 3), (466, .aload_n 2, 1), (467, .aload_n 0, 1), (468, .iload_n 3, 1), (469, .iconst 1, 1), (470, .iadd, 1), (471, .iaload, 1)]
theorem mvDL25 : ∀ x ∈ mvL25, decode code x.1 = .ok (x.2.1, x.2.2) := by decide +kernel
def mvL26 : List (Nat × Instr × Nat) := [(472, .aload_n 0, 1), (473, .iload_n 3, 1), (474, .iconst 2, 1), (475, .iadd, 1), (476, .iaload, 1), (477, .invokevirtual 61, 3), (480, .if_icmp .eq 546, 3), (483, .iconst 0, 1), (484, .ireturn, 1), (485, .aload_n 1, 1)]
theorem mvDL26 : ∀ x ∈ mvL26, decode code x.1 = .ok (x.2.1, x.2.2) := by decide +kernel
def mvL27 : List (Nat × Instr × Nat) := [(486, .aload_n 0, 1), (487, .iload_n 3, 1), (488, .iconst 1, 1), (489, .iadd, 1), (490, .iaload, 1), (491, .aload_n 0, 1), (492, .iload_n 3, 1), (493, .iconst 2, 1), (494, .iadd, 1), (495, .iaload, 1)]
theorem mvDL27 : ∀ x ∈ mvL27, decode code x.1 = .ok (x.2.1, x.2.2) := by decide +kernel
def mvL28 : List (Nat × Instr × Nat) := [(496, .invokevirtual 62, 3), (499, .aload_n 2, 1), (500, .aload_n 0, 1), (501, .iload_n 3, 1), (502, .iconst 1, 1), (503, .iadd, 1), (504, .iaload, 1), (505, .aload_n 0, 1), (506, .iload_n 3, 1), (507, .iconst 2, 1)]
theorem mvDL28 : ∀ x ∈ mvL28, decode code x.1 = .ok (x.2.1, x.2.2) := by decide +kernel
def mvL29 : List (Nat × Instr × Nat) := [(508, .iadd, 1), (509, .iaload, 1), (510, .invokevirtual 65, 3), (513, .if_icmp .eq 513, 3), (516, .iconst 0, 1), (517, .ireturn, 1), (518, .aload_n 1, 1), (519, .aload_n 0, 1), (520, .iload_n 3, 1), (521, .iconst 1, 1)]
theorem mvDL29 : ∀ x ∈ mvL29, decode code x.1 = .ok (x.2.1, x.2.2) := by decide +kernel
def mvL30 : List (Nat × Instr × Nat) := [(522, .iadd, 1), (523, .iaload, 1), (524, .aload_n 0, 1), (525, .iload_n 3, 1), (526, .iconst 2, 1), (527, .iadd, 1), (528, .iaload, 1), (529, .aload_n 0, 1), (530, .iload_n 3, 1), (531, .iconst 3, 1)]
theorem mvDL30 : ∀ x ∈ mvL30, decode code x.1 = .ok (x.2.1, x.2.2) := by decide +kernel
def mvL31 : List (Nat × Instr × Nat) := [(532, .iadd, 1), (533, .iaload, 1), (534, .invokevirtual 66, 3), (537, .aload_n 2, 1), (538, .aload_n 0, 1), (539, .iload_n 3, 1), (540, .iconst 1, 1), (541, .iadd, 1), (542, .iaload, 1), (543, .aload_n 0, 1)]
theorem mvDL31 : ∀ x ∈ mvL31, decode code x.1 = .ok (x.2.1, x.2.2) := by decide +kernel
def mvL32 : List (Nat × Instr × Nat) := [(544, .iload_n 3, 1), (545, .iconst 2, 1), (546, .iadd, 1), (547, .iaload, 1), (548, .aload_n 0, 1), (549, .iload_n 3, 1), (550, .iconst 3, 1), (551, .iadd, 1), (552, .iaload, 1), (553, .invokevirtual 69, 3)]
theorem mvDL32 : ∀ x ∈ mvL32, decode code x.1 = .ok (x.2.1, x.2.2) := by decide +kernel
def mvL33 : List (Nat × Instr × Nat) := [(556, .if_icmp .eq 470, 3), (559, .iconst 0, 1), (560, .ireturn, 1), (561, .aload_n 1, 1), (562, .aload_n 0, 1), (563, .iload_n 3, 1), (564, .iconst 1, 1), (565, .iadd, 1), (566, .iaload, 1), (567, .aload_n 0, 1)]
theorem mvDL33 : ∀ x ∈ mvL33, decode code x.1 = .ok (x.2.1, x.2.2) := by decide +kernel
def mvL34 : List (Nat × Instr × Nat) := [(568, .iload_n 3, 1), (569, .iconst 2, 1), (570, .iadd, 1), (571, .iaload, 1), (572, .invokevirtual 70, 3), (575, .aload_n 2, 1), (576, .aload_n 0, 1), (577, .iload_n 3, 1), (578, .iconst 1, 1), (579, .iadd, 1)]
theorem mvDL34 : ∀ x ∈ mvL34, decode code x.1 = .ok (x.2.1, x.2.2) := by decide +kernel
def mvL35 : List (Nat × Instr × Nat) := [(580, .iaload, 1), (581, .aload_n 0, 1), (582, .iload_n 3, 1), (583, .iconst 2, 1), (584, .iadd, 1), (585, .iaload, 1), (586, .invokevirtual 73, 3), (589, .if_icmp .eq 437, 3), (592, .iconst 0, 1), (593, .ireturn, 1)]
theorem mvDL35 : ∀ x ∈ mvL35, decode code x.1 = .ok (x.2.1, x.2.2) := by decide +kernel
def mvL36 : List (Nat × Instr × Nat) := [(594, .aload_n 1, 1), (595, .aload_n 0, 1), (596, .iload_n 3, 1), (597, .iconst 1, 1), (598, .iadd, 1), (599, .iaload, 1), (600, .aload_n 0, 1), (601, .iload_n 3, 1), (602, .iconst 2, 1), (603, .iadd, 1)]
theorem mvDL36 : ∀ x ∈ mvL36, decode code x.1 = .ok (x.2.1, x.2.2) := by decide +kernel
def mvL37 : List (Nat × Instr × Nat) := [(604, .iaload, 1), (605, .invokevirtual 74, 3), (608, .aload_n 2, 1), (609, .aload_n 0, 1), (610, .iload_n 3, 1), (611, .iconst 1, 1), (612, .iadd, 1), (613, .iaload, 1), (614, .aload_n 0, 1), (615, .iload_n 3, 1)]
theorem mvDL37 : ∀ x ∈ mvL37, decode code x.1 = .ok (x.2.1, x.2.2) := by decide +kernel
def mvL38 : List (Nat × Instr × Nat) := [(616, .iconst 2, 1), (617, .iadd, 1), (618, .iaload, 1), (619, .invokevirtual 77, 3), (622, .if_icmp .eq 404, 3), (625, .iconst 0, 1), (626, .ireturn, 1), (627, .aload_n 1, 1), (628, .aload_n 0, 1), (629, .iload_n 3, 1)]
theorem mvDL38 : ∀ x ∈ mvL38, decode code x.1 = .ok (x.2.1, x.2.2) := by decide +kernel
def mvL39 : List (Nat × Instr × Nat) := [(630, .iconst 1, 1), (631, .iadd, 1), (632, .iaload, 1), (633, .invokevirtual 78, 3), (636, .aload_n 2, 1), (637, .aload_n 0, 1), (638, .iload_n 3, 1), (639, .iconst 1, 1), (640, .iadd, 1), (641, .iaload, 1)]
theorem mvDL39 : ∀ x ∈ mvL39, decode code x.1 = .ok (x.2.1, x.2.2) := by decide +kernel
