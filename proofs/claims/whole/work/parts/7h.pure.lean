/-! the law's code: what it decodes to, what its constant pool says -/
def dl_L_0 : List (Nat × Instr × Nat) := [(0, .new 7, 3), (3, .dup, 1), (4, .invokespecial 9, 3), (7, .astore_n 1, 1), (8, .new 10, 3), (11, .dup, 1), (12, .invokespecial 12, 3), (15, .astore_n 2, 1), (16, .iconst 0, 1), (17, .istore_n 3, 1), (18, .iload_n 3, 1), (19, .aload_n 0, 1), (20, .arraylength, 1), (21, .bipush 6, 2), (23, .isub, 1), (24, .if_icmp .gt 1161, 3), (27, .aload_n 0, 1), (28, .iload_n 3, 1), (29, .iaload, 1), (30, .bipush 63, 2), (32, .iand, 1), (33, .tableswitch 1146 0 34 #[155, 178, 211, 254, 297, 320, 383, 406, 429, 452, 485, 508, 541, 574, 597, 630, 643, 666, 679, 702, 725, 758, 811, 844, 877, 900, 923, 956, 979, 992, 1025, 1048, 1071, 1084, 1123], 155), (188, .aload_n 1, 1), (189, .aload_n 0, 1), (190, .iload_n 3, 1)]
set_option maxRecDepth 20000 in
theorem dk_L_0 : ∀ q ∈ dl_L_0, decode code q.1 = .ok q.2 := by decide +kernel
def dl_L_1 : List (Nat × Instr × Nat) := [(191, .iconst 1, 1), (192, .iadd, 1), (193, .iaload, 1), (194, .invokevirtual 13, 3), (197, .aload_n 2, 1), (198, .aload_n 0, 1), (199, .iload_n 3, 1), (200, .iconst 1, 1), (201, .iadd, 1), (202, .iaload, 1), (203, .invokevirtual 17, 3), (206, .if_icmp .eq 973, 3), (209, .iconst 0, 1), (210, .ireturn, 1), (211, .aload_n 1, 1), (212, .aload_n 0, 1), (213, .iload_n 3, 1), (214, .iconst 1, 1), (215, .iadd, 1), (216, .iaload, 1), (217, .aload_n 0, 1), (218, .iload_n 3, 1), (219, .iconst 2, 1), (220, .iadd, 1), (221, .iaload, 1)]
set_option maxRecDepth 20000 in
theorem dk_L_1 : ∀ q ∈ dl_L_1, decode code q.1 = .ok q.2 := by decide +kernel
def dl_L_2 : List (Nat × Instr × Nat) := [(222, .invokevirtual 18, 3), (225, .aload_n 2, 1), (226, .aload_n 0, 1), (227, .iload_n 3, 1), (228, .iconst 1, 1), (229, .iadd, 1), (230, .iaload, 1), (231, .aload_n 0, 1), (232, .iload_n 3, 1), (233, .iconst 2, 1), (234, .iadd, 1), (235, .iaload, 1), (236, .invokevirtual 22, 3), (239, .if_icmp .eq 940, 3), (242, .iconst 0, 1), (243, .ireturn, 1), (244, .aload_n 1, 1), (245, .aload_n 0, 1), (246, .iload_n 3, 1), (247, .iconst 1, 1), (248, .iadd, 1), (249, .iaload, 1), (250, .aload_n 0, 1), (251, .iload_n 3, 1), (252, .iconst 2, 1)]
set_option maxRecDepth 20000 in
theorem dk_L_2 : ∀ q ∈ dl_L_2, decode code q.1 = .ok q.2 := by decide +kernel
def dl_L_3 : List (Nat × Instr × Nat) := [(253, .iadd, 1), (254, .iaload, 1), (255, .aload_n 0, 1), (256, .iload_n 3, 1), (257, .iconst 3, 1), (258, .iadd, 1), (259, .iaload, 1), (260, .invokevirtual 23, 3), (263, .aload_n 2, 1), (264, .aload_n 0, 1), (265, .iload_n 3, 1), (266, .iconst 1, 1), (267, .iadd, 1), (268, .iaload, 1), (269, .aload_n 0, 1), (270, .iload_n 3, 1), (271, .iconst 2, 1), (272, .iadd, 1), (273, .iaload, 1), (274, .aload_n 0, 1), (275, .iload_n 3, 1), (276, .iconst 3, 1), (277, .iadd, 1), (278, .iaload, 1), (279, .invokevirtual 27, 3)]
set_option maxRecDepth 20000 in
theorem dk_L_3 : ∀ q ∈ dl_L_3, decode code q.1 = .ok q.2 := by decide +kernel
def dl_L_4 : List (Nat × Instr × Nat) := [(282, .if_icmp .eq 897, 3), (285, .iconst 0, 1), (286, .ireturn, 1), (287, .aload_n 1, 1), (288, .aload_n 0, 1), (289, .iload_n 3, 1), (290, .iconst 1, 1), (291, .iadd, 1), (292, .iaload, 1), (293, .aload_n 0, 1), (294, .iload_n 3, 1), (295, .iconst 2, 1), (296, .iadd, 1), (297, .iaload, 1), (298, .aload_n 0, 1), (299, .iload_n 3, 1), (300, .iconst 3, 1), (301, .iadd, 1), (302, .iaload, 1), (303, .invokevirtual 28, 3), (306, .aload_n 2, 1), (307, .aload_n 0, 1), (308, .iload_n 3, 1), (309, .iconst 1, 1), (310, .iadd, 1)]
set_option maxRecDepth 20000 in
theorem dk_L_4 : ∀ q ∈ dl_L_4, decode code q.1 = .ok q.2 := by decide +kernel
def dl_L_5 : List (Nat × Instr × Nat) := [(311, .iaload, 1), (312, .aload_n 0, 1), (313, .iload_n 3, 1), (314, .iconst 2, 1), (315, .iadd, 1), (316, .iaload, 1), (317, .aload_n 0, 1), (318, .iload_n 3, 1), (319, .iconst 3, 1), (320, .iadd, 1), (321, .iaload, 1), (322, .invokevirtual 31, 3), (325, .if_icmp .eq 854, 3), (328, .iconst 0, 1), (329, .ireturn, 1), (330, .aload_n 1, 1), (331, .aload_n 0, 1), (332, .iload_n 3, 1), (333, .iconst 1, 1), (334, .iadd, 1), (335, .iaload, 1), (336, .invokevirtual 32, 3), (339, .aload_n 2, 1), (340, .aload_n 0, 1), (341, .iload_n 3, 1)]
set_option maxRecDepth 20000 in
theorem dk_L_5 : ∀ q ∈ dl_L_5, decode code q.1 = .ok q.2 := by decide +kernel
def dl_L_6 : List (Nat × Instr × Nat) := [(342, .iconst 1, 1), (343, .iadd, 1), (344, .iaload, 1), (345, .invokevirtual 35, 3), (348, .if_icmp .eq 831, 3), (351, .iconst 0, 1), (352, .ireturn, 1), (353, .aload_n 1, 1), (354, .aload_n 0, 1), (355, .iload_n 3, 1), (356, .iconst 1, 1), (357, .iadd, 1), (358, .iaload, 1), (359, .aload_n 0, 1), (360, .iload_n 3, 1), (361, .iconst 2, 1), (362, .iadd, 1), (363, .iaload, 1), (364, .aload_n 0, 1), (365, .iload_n 3, 1), (366, .iconst 3, 1), (367, .iadd, 1), (368, .iaload, 1), (369, .aload_n 0, 1), (370, .iload_n 3, 1)]
set_option maxRecDepth 20000 in
theorem dk_L_6 : ∀ q ∈ dl_L_6, decode code q.1 = .ok q.2 := by decide +kernel
def dl_L_7 : List (Nat × Instr × Nat) := [(371, .iconst 4, 1), (372, .iadd, 1), (373, .iaload, 1), (374, .aload_n 0, 1), (375, .iload_n 3, 1), (376, .iconst 5, 1), (377, .iadd, 1), (378, .iaload, 1), (379, .invokevirtual 36, 3), (382, .aload_n 2, 1), (383, .aload_n 0, 1), (384, .iload_n 3, 1), (385, .iconst 1, 1), (386, .iadd, 1), (387, .iaload, 1), (388, .aload_n 0, 1), (389, .iload_n 3, 1), (390, .iconst 2, 1), (391, .iadd, 1), (392, .iaload, 1), (393, .aload_n 0, 1), (394, .iload_n 3, 1), (395, .iconst 3, 1), (396, .iadd, 1), (397, .iaload, 1)]
set_option maxRecDepth 20000 in
theorem dk_L_7 : ∀ q ∈ dl_L_7, decode code q.1 = .ok q.2 := by decide +kernel
def dl_L_8 : List (Nat × Instr × Nat) := [(398, .aload_n 0, 1), (399, .iload_n 3, 1), (400, .iconst 4, 1), (401, .iadd, 1), (402, .iaload, 1), (403, .aload_n 0, 1), (404, .iload_n 3, 1), (405, .iconst 5, 1), (406, .iadd, 1), (407, .iaload, 1), (408, .invokevirtual 40, 3), (411, .if_icmp .eq 768, 3), (414, .iconst 0, 1), (415, .ireturn, 1), (416, .aload_n 1, 1), (417, .aload_n 0, 1), (418, .iload_n 3, 1), (419, .iconst 1, 1), (420, .iadd, 1), (421, .iaload, 1), (422, .invokevirtual 41, 3), (425, .aload_n 2, 1), (426, .aload_n 0, 1), (427, .iload_n 3, 1), (428, .iconst 1, 1)]
set_option maxRecDepth 20000 in
theorem dk_L_8 : ∀ q ∈ dl_L_8, decode code q.1 = .ok q.2 := by decide +kernel
def dl_L_9 : List (Nat × Instr × Nat) := [(429, .iadd, 1), (430, .iaload, 1), (431, .invokevirtual 45, 3), (434, .if_icmp .eq 745, 3), (437, .iconst 0, 1), (438, .ireturn, 1), (439, .aload_n 1, 1), (440, .aload_n 0, 1), (441, .iload_n 3, 1), (442, .iconst 1, 1), (443, .iadd, 1), (444, .iaload, 1), (445, .invokevirtual 46, 3), (448, .aload_n 2, 1), (449, .aload_n 0, 1), (450, .iload_n 3, 1), (451, .iconst 1, 1), (452, .iadd, 1), (453, .iaload, 1), (454, .invokevirtual 49, 3), (457, .if_icmp .eq 722, 3), (460, .iconst 0, 1), (461, .ireturn, 1), (462, .aload_n 1, 1), (463, .aload_n 0, 1)]
set_option maxRecDepth 20000 in
theorem dk_L_9 : ∀ q ∈ dl_L_9, decode code q.1 = .ok q.2 := by decide +kernel
def dl_L_10 : List (Nat × Instr × Nat) := [(464, .iload_n 3, 1), (465, .iconst 1, 1), (466, .iadd, 1), (467, .iaload, 1), (468, .invokevirtual 50, 3), (471, .aload_n 2, 1), (472, .aload_n 0, 1), (473, .iload_n 3, 1), (474, .iconst 1, 1), (475, .iadd, 1), (476, .iaload, 1), (477, .invokevirtual 53, 3), (480, .if_icmp .eq 699, 3), (483, .iconst 0, 1), (484, .ireturn, 1), (485, .aload_n 1, 1), (486, .aload_n 0, 1), (487, .iload_n 3, 1), (488, .iconst 1, 1), (489, .iadd, 1), (490, .iaload, 1), (491, .aload_n 0, 1), (492, .iload_n 3, 1), (493, .iconst 2, 1), (494, .iadd, 1)]
set_option maxRecDepth 20000 in
theorem dk_L_10 : ∀ q ∈ dl_L_10, decode code q.1 = .ok q.2 := by decide +kernel
def dl_L_11 : List (Nat × Instr × Nat) := [(495, .iaload, 1), (496, .invokevirtual 54, 3), (499, .aload_n 2, 1), (500, .aload_n 0, 1), (501, .iload_n 3, 1), (502, .iconst 1, 1), (503, .iadd, 1), (504, .iaload, 1), (505, .aload_n 0, 1), (506, .iload_n 3, 1), (507, .iconst 2, 1), (508, .iadd, 1), (509, .iaload, 1), (510, .invokevirtual 57, 3), (513, .if_icmp .eq 666, 3), (516, .iconst 0, 1), (517, .ireturn, 1), (518, .aload_n 1, 1), (519, .aload_n 0, 1), (520, .iload_n 3, 1), (521, .iconst 1, 1), (522, .iadd, 1), (523, .iaload, 1), (524, .invokevirtual 58, 3), (527, .aload_n 2, 1)]
set_option maxRecDepth 20000 in
theorem dk_L_11 : ∀ q ∈ dl_L_11, decode code q.1 = .ok q.2 := by decide +kernel
def dl_L_12 : List (Nat × Instr × Nat) := [(528, .aload_n 0, 1), (529, .iload_n 3, 1), (530, .iconst 1, 1), (531, .iadd, 1), (532, .iaload, 1), (533, .invokevirtual 61, 3), (536, .if_icmp .eq 643, 3), (539, .iconst 0, 1), (540, .ireturn, 1), (541, .aload_n 1, 1), (542, .aload_n 0, 1), (543, .iload_n 3, 1), (544, .iconst 1, 1), (545, .iadd, 1), (546, .iaload, 1), (547, .aload_n 0, 1), (548, .iload_n 3, 1), (549, .iconst 2, 1), (550, .iadd, 1), (551, .iaload, 1), (552, .invokevirtual 62, 3), (555, .aload_n 2, 1), (556, .aload_n 0, 1), (557, .iload_n 3, 1), (558, .iconst 1, 1)]
set_option maxRecDepth 20000 in
theorem dk_L_12 : ∀ q ∈ dl_L_12, decode code q.1 = .ok q.2 := by decide +kernel
def dl_L_13 : List (Nat × Instr × Nat) := [(559, .iadd, 1), (560, .iaload, 1), (561, .aload_n 0, 1), (562, .iload_n 3, 1), (563, .iconst 2, 1), (564, .iadd, 1), (565, .iaload, 1), (566, .invokevirtual 65, 3), (569, .if_icmp .eq 610, 3), (572, .iconst 0, 1), (573, .ireturn, 1), (574, .aload_n 1, 1), (575, .aload_n 0, 1), (576, .iload_n 3, 1), (577, .iconst 1, 1), (578, .iadd, 1), (579, .iaload, 1), (580, .aload_n 0, 1), (581, .iload_n 3, 1), (582, .iconst 2, 1), (583, .iadd, 1), (584, .iaload, 1), (585, .invokevirtual 66, 3), (588, .aload_n 2, 1), (589, .aload_n 0, 1)]
set_option maxRecDepth 20000 in
theorem dk_L_13 : ∀ q ∈ dl_L_13, decode code q.1 = .ok q.2 := by decide +kernel
def dl_L_14 : List (Nat × Instr × Nat) := [(590, .iload_n 3, 1), (591, .iconst 1, 1), (592, .iadd, 1), (593, .iaload, 1), (594, .aload_n 0, 1), (595, .iload_n 3, 1), (596, .iconst 2, 1), (597, .iadd, 1), (598, .iaload, 1), (599, .invokevirtual 69, 3), (602, .if_icmp .eq 577, 3), (605, .iconst 0, 1), (606, .ireturn, 1), (607, .aload_n 1, 1), (608, .aload_n 0, 1), (609, .iload_n 3, 1), (610, .iconst 1, 1), (611, .iadd, 1), (612, .iaload, 1), (613, .invokevirtual 70, 3), (616, .aload_n 2, 1), (617, .aload_n 0, 1), (618, .iload_n 3, 1), (619, .iconst 1, 1), (620, .iadd, 1)]
set_option maxRecDepth 20000 in
theorem dk_L_14 : ∀ q ∈ dl_L_14, decode code q.1 = .ok q.2 := by decide +kernel
def dl_L_15 : List (Nat × Instr × Nat) := [(621, .iaload, 1), (622, .invokevirtual 73, 3), (625, .if_icmp .eq 554, 3), (628, .iconst 0, 1), (629, .ireturn, 1), (630, .aload_n 1, 1), (631, .aload_n 0, 1), (632, .iload_n 3, 1), (633, .iconst 1, 1), (634, .iadd, 1), (635, .iaload, 1), (636, .aload_n 0, 1), (637, .iload_n 3, 1), (638, .iconst 2, 1), (639, .iadd, 1), (640, .iaload, 1), (641, .invokevirtual 74, 3), (644, .aload_n 2, 1), (645, .aload_n 0, 1), (646, .iload_n 3, 1), (647, .iconst 1, 1), (648, .iadd, 1), (649, .iaload, 1), (650, .aload_n 0, 1), (651, .iload_n 3, 1)]
set_option maxRecDepth 20000 in
theorem dk_L_15 : ∀ q ∈ dl_L_15, decode code q.1 = .ok q.2 := by decide +kernel
def dl_L_16 : List (Nat × Instr × Nat) := [(652, .iconst 2, 1), (653, .iadd, 1), (654, .iaload, 1), (655, .invokevirtual 77, 3), (658, .if_icmp .eq 521, 3), (661, .iconst 0, 1), (662, .ireturn, 1), (663, .aload_n 1, 1), (664, .invokevirtual 78, 3), (667, .aload_n 2, 1), (668, .invokevirtual 82, 3), (671, .if_icmp .eq 508, 3), (674, .iconst 0, 1), (675, .ireturn, 1), (676, .aload_n 1, 1), (677, .aload_n 0, 1), (678, .iload_n 3, 1), (679, .iconst 1, 1), (680, .iadd, 1), (681, .iaload, 1), (682, .invokevirtual 83, 3), (685, .aload_n 2, 1), (686, .aload_n 0, 1), (687, .iload_n 3, 1), (688, .iconst 1, 1)]
set_option maxRecDepth 20000 in
theorem dk_L_16 : ∀ q ∈ dl_L_16, decode code q.1 = .ok q.2 := by decide +kernel
def dl_L_17 : List (Nat × Instr × Nat) := [(689, .iadd, 1), (690, .iaload, 1), (691, .invokevirtual 86, 3), (694, .if_icmp .eq 485, 3), (697, .iconst 0, 1), (698, .ireturn, 1), (699, .aload_n 1, 1), (700, .invokevirtual 87, 3), (703, .aload_n 2, 1), (704, .invokevirtual 90, 3), (707, .if_icmp .eq 472, 3), (710, .iconst 0, 1), (711, .ireturn, 1), (712, .aload_n 1, 1), (713, .aload_n 0, 1), (714, .iload_n 3, 1), (715, .iconst 1, 1), (716, .iadd, 1), (717, .iaload, 1), (718, .invokevirtual 91, 3), (721, .aload_n 2, 1), (722, .aload_n 0, 1), (723, .iload_n 3, 1), (724, .iconst 1, 1), (725, .iadd, 1)]
set_option maxRecDepth 20000 in
theorem dk_L_17 : ∀ q ∈ dl_L_17, decode code q.1 = .ok q.2 := by decide +kernel
def dl_L_18 : List (Nat × Instr × Nat) := [(726, .iaload, 1), (727, .invokevirtual 94, 3), (730, .if_icmp .eq 449, 3), (733, .iconst 0, 1), (734, .ireturn, 1), (735, .aload_n 1, 1), (736, .aload_n 0, 1), (737, .iload_n 3, 1), (738, .iconst 1, 1), (739, .iadd, 1), (740, .iaload, 1), (741, .invokevirtual 95, 3), (744, .aload_n 2, 1), (745, .aload_n 0, 1), (746, .iload_n 3, 1), (747, .iconst 1, 1), (748, .iadd, 1), (749, .iaload, 1), (750, .invokevirtual 98, 3), (753, .if_icmp .eq 426, 3), (756, .iconst 0, 1), (757, .ireturn, 1), (758, .aload_n 1, 1), (759, .aload_n 0, 1), (760, .iload_n 3, 1)]
set_option maxRecDepth 20000 in
theorem dk_L_18 : ∀ q ∈ dl_L_18, decode code q.1 = .ok q.2 := by decide +kernel
def dl_L_19 : List (Nat × Instr × Nat) := [(761, .iconst 1, 1), (762, .iadd, 1), (763, .iaload, 1), (764, .aload_n 0, 1), (765, .iload_n 3, 1), (766, .iconst 2, 1), (767, .iadd, 1), (768, .iaload, 1), (769, .invokevirtual 99, 3), (772, .aload_n 2, 1), (773, .aload_n 0, 1), (774, .iload_n 3, 1), (775, .iconst 1, 1), (776, .iadd, 1), (777, .iaload, 1), (778, .aload_n 0, 1), (779, .iload_n 3, 1), (780, .iconst 2, 1), (781, .iadd, 1), (782, .iaload, 1), (783, .invokevirtual 102, 3), (786, .if_icmp .eq 393, 3), (789, .iconst 0, 1), (790, .ireturn, 1), (791, .aload_n 1, 1)]
set_option maxRecDepth 20000 in
theorem dk_L_19 : ∀ q ∈ dl_L_19, decode code q.1 = .ok q.2 := by decide +kernel
def dl_L_20 : List (Nat × Instr × Nat) := [(792, .aload_n 0, 1), (793, .iload_n 3, 1), (794, .iconst 1, 1), (795, .iadd, 1), (796, .iaload, 1), (797, .aload_n 0, 1), (798, .iload_n 3, 1), (799, .iconst 2, 1), (800, .iadd, 1), (801, .iaload, 1), (802, .aload_n 0, 1), (803, .iload_n 3, 1), (804, .iconst 3, 1), (805, .iadd, 1), (806, .iaload, 1), (807, .aload_n 0, 1), (808, .iload_n 3, 1), (809, .iconst 4, 1), (810, .iadd, 1), (811, .iaload, 1), (812, .invokevirtual 103, 3), (815, .aload_n 2, 1), (816, .aload_n 0, 1), (817, .iload_n 3, 1), (818, .iconst 1, 1)]
set_option maxRecDepth 20000 in
theorem dk_L_20 : ∀ q ∈ dl_L_20, decode code q.1 = .ok q.2 := by decide +kernel
def dl_L_21 : List (Nat × Instr × Nat) := [(819, .iadd, 1), (820, .iaload, 1), (821, .aload_n 0, 1), (822, .iload_n 3, 1), (823, .iconst 2, 1), (824, .iadd, 1), (825, .iaload, 1), (826, .aload_n 0, 1), (827, .iload_n 3, 1), (828, .iconst 3, 1), (829, .iadd, 1), (830, .iaload, 1), (831, .aload_n 0, 1), (832, .iload_n 3, 1), (833, .iconst 4, 1), (834, .iadd, 1), (835, .iaload, 1), (836, .invokevirtual 107, 3), (839, .if_icmp .eq 340, 3), (842, .iconst 0, 1), (843, .ireturn, 1), (844, .aload_n 1, 1), (845, .aload_n 0, 1), (846, .iload_n 3, 1), (847, .iconst 1, 1)]
set_option maxRecDepth 20000 in
theorem dk_L_21 : ∀ q ∈ dl_L_21, decode code q.1 = .ok q.2 := by decide +kernel
def dl_L_22 : List (Nat × Instr × Nat) := [(848, .iadd, 1), (849, .iaload, 1), (850, .aload_n 0, 1), (851, .iload_n 3, 1), (852, .iconst 2, 1), (853, .iadd, 1), (854, .iaload, 1), (855, .invokevirtual 108, 3), (858, .aload_n 2, 1), (859, .aload_n 0, 1), (860, .iload_n 3, 1), (861, .iconst 1, 1), (862, .iadd, 1), (863, .iaload, 1), (864, .aload_n 0, 1), (865, .iload_n 3, 1), (866, .iconst 2, 1), (867, .iadd, 1), (868, .iaload, 1), (869, .invokevirtual 111, 3), (872, .if_icmp .eq 307, 3), (875, .iconst 0, 1), (876, .ireturn, 1), (877, .aload_n 1, 1), (878, .aload_n 0, 1)]
set_option maxRecDepth 20000 in
theorem dk_L_22 : ∀ q ∈ dl_L_22, decode code q.1 = .ok q.2 := by decide +kernel
def dl_L_23 : List (Nat × Instr × Nat) := [(879, .iload_n 3, 1), (880, .iconst 1, 1), (881, .iadd, 1), (882, .iaload, 1), (883, .aload_n 0, 1), (884, .iload_n 3, 1), (885, .iconst 2, 1), (886, .iadd, 1), (887, .iaload, 1), (888, .invokevirtual 112, 3), (891, .aload_n 2, 1), (892, .aload_n 0, 1), (893, .iload_n 3, 1), (894, .iconst 1, 1), (895, .iadd, 1), (896, .iaload, 1), (897, .aload_n 0, 1), (898, .iload_n 3, 1), (899, .iconst 2, 1), (900, .iadd, 1), (901, .iaload, 1), (902, .invokevirtual 115, 3), (905, .if_icmp .eq 274, 3), (908, .iconst 0, 1), (909, .ireturn, 1)]
set_option maxRecDepth 20000 in
theorem dk_L_23 : ∀ q ∈ dl_L_23, decode code q.1 = .ok q.2 := by decide +kernel
def dl_L_24 : List (Nat × Instr × Nat) := [(910, .aload_n 1, 1), (911, .aload_n 0, 1), (912, .iload_n 3, 1), (913, .iconst 1, 1), (914, .iadd, 1), (915, .iaload, 1), (916, .invokevirtual 116, 3), (919, .aload_n 2, 1), (920, .aload_n 0, 1), (921, .iload_n 3, 1), (922, .iconst 1, 1), (923, .iadd, 1), (924, .iaload, 1), (925, .invokevirtual 119, 3), (928, .if_icmp .eq 251, 3), (931, .iconst 0, 1), (932, .ireturn, 1), (933, .aload_n 1, 1), (934, .aload_n 0, 1), (935, .iload_n 3, 1), (936, .iconst 1, 1), (937, .iadd, 1), (938, .iaload, 1), (939, .invokevirtual 120, 3), (942, .aload_n 2, 1)]
set_option maxRecDepth 20000 in
theorem dk_L_24 : ∀ q ∈ dl_L_24, decode code q.1 = .ok q.2 := by decide +kernel
def dl_L_25 : List (Nat × Instr × Nat) := [(943, .aload_n 0, 1), (944, .iload_n 3, 1), (945, .iconst 1, 1), (946, .iadd, 1), (947, .iaload, 1), (948, .invokevirtual 123, 3), (951, .if_icmp .eq 228, 3), (954, .iconst 0, 1), (955, .ireturn, 1), (956, .aload_n 1, 1), (957, .aload_n 0, 1), (958, .iload_n 3, 1), (959, .iconst 1, 1), (960, .iadd, 1), (961, .iaload, 1), (962, .aload_n 0, 1), (963, .iload_n 3, 1), (964, .iconst 2, 1), (965, .iadd, 1), (966, .iaload, 1), (967, .invokevirtual 124, 3), (970, .aload_n 2, 1), (971, .aload_n 0, 1), (972, .iload_n 3, 1), (973, .iconst 1, 1)]
set_option maxRecDepth 20000 in
theorem dk_L_25 : ∀ q ∈ dl_L_25, decode code q.1 = .ok q.2 := by decide +kernel
def dl_L_26 : List (Nat × Instr × Nat) := [(974, .iadd, 1), (975, .iaload, 1), (976, .aload_n 0, 1), (977, .iload_n 3, 1), (978, .iconst 2, 1), (979, .iadd, 1), (980, .iaload, 1), (981, .invokevirtual 127, 3), (984, .if_icmp .eq 195, 3), (987, .iconst 0, 1), (988, .ireturn, 1), (989, .aload_n 1, 1), (990, .aload_n 0, 1), (991, .iload_n 3, 1), (992, .iconst 1, 1), (993, .iadd, 1), (994, .iaload, 1), (995, .invokevirtual 128, 3), (998, .aload_n 2, 1), (999, .aload_n 0, 1), (1000, .iload_n 3, 1), (1001, .iconst 1, 1), (1002, .iadd, 1), (1003, .iaload, 1), (1004, .invokevirtual 131, 3)]
set_option maxRecDepth 20000 in
theorem dk_L_26 : ∀ q ∈ dl_L_26, decode code q.1 = .ok q.2 := by decide +kernel
def dl_L_27 : List (Nat × Instr × Nat) := [(1007, .if_icmp .eq 172, 3), (1010, .iconst 0, 1), (1011, .ireturn, 1), (1012, .aload_n 1, 1), (1013, .invokevirtual 132, 3), (1016, .aload_n 2, 1), (1017, .invokevirtual 135, 3), (1020, .if_icmp .eq 159, 3), (1023, .iconst 0, 1), (1024, .ireturn, 1), (1025, .aload_n 1, 1), (1026, .aload_n 0, 1), (1027, .iload_n 3, 1), (1028, .iconst 1, 1), (1029, .iadd, 1), (1030, .iaload, 1), (1031, .aload_n 0, 1), (1032, .iload_n 3, 1), (1033, .iconst 2, 1), (1034, .iadd, 1), (1035, .iaload, 1), (1036, .invokevirtual 136, 3), (1039, .aload_n 2, 1), (1040, .aload_n 0, 1), (1041, .iload_n 3, 1)]
set_option maxRecDepth 20000 in
theorem dk_L_27 : ∀ q ∈ dl_L_27, decode code q.1 = .ok q.2 := by decide +kernel
def dl_L_28 : List (Nat × Instr × Nat) := [(1042, .iconst 1, 1), (1043, .iadd, 1), (1044, .iaload, 1), (1045, .aload_n 0, 1), (1046, .iload_n 3, 1), (1047, .iconst 2, 1), (1048, .iadd, 1), (1049, .iaload, 1), (1050, .invokevirtual 140, 3), (1053, .if_icmp .eq 126, 3), (1056, .iconst 0, 1), (1057, .ireturn, 1), (1058, .aload_n 1, 1), (1059, .aload_n 0, 1), (1060, .iload_n 3, 1), (1061, .iconst 1, 1), (1062, .iadd, 1), (1063, .iaload, 1), (1064, .invokevirtual 141, 3), (1067, .aload_n 2, 1), (1068, .aload_n 0, 1), (1069, .iload_n 3, 1), (1070, .iconst 1, 1), (1071, .iadd, 1), (1072, .iaload, 1)]
set_option maxRecDepth 20000 in
theorem dk_L_28 : ∀ q ∈ dl_L_28, decode code q.1 = .ok q.2 := by decide +kernel
def dl_L_29 : List (Nat × Instr × Nat) := [(1073, .invokevirtual 144, 3), (1076, .if_icmp .eq 103, 3), (1079, .iconst 0, 1), (1080, .ireturn, 1), (1081, .aload_n 1, 1), (1082, .aload_n 0, 1), (1083, .iload_n 3, 1), (1084, .iconst 1, 1), (1085, .iadd, 1), (1086, .iaload, 1), (1087, .invokevirtual 145, 3), (1090, .aload_n 2, 1), (1091, .aload_n 0, 1), (1092, .iload_n 3, 1), (1093, .iconst 1, 1), (1094, .iadd, 1), (1095, .iaload, 1), (1096, .invokevirtual 148, 3), (1099, .if_icmp .eq 80, 3), (1102, .iconst 0, 1), (1103, .ireturn, 1), (1104, .aload_n 1, 1), (1105, .invokevirtual 149, 3), (1108, .aload_n 2, 1), (1109, .invokevirtual 153, 3)]
set_option maxRecDepth 20000 in
theorem dk_L_29 : ∀ q ∈ dl_L_29, decode code q.1 = .ok q.2 := by decide +kernel
def dl_L_30 : List (Nat × Instr × Nat) := [(1112, .if_icmp .eq 67, 3), (1115, .iconst 0, 1), (1116, .ireturn, 1), (1117, .aload_n 1, 1), (1118, .aload_n 0, 1), (1119, .iload_n 3, 1), (1120, .iconst 1, 1), (1121, .iadd, 1), (1122, .iaload, 1), (1123, .ifCond .eq 7, 3), (1126, .iconst 1, 1), (1127, .goto 4, 3), (1130, .iconst 0, 1), (1131, .invokevirtual 154, 3), (1134, .aload_n 2, 1), (1135, .aload_n 0, 1), (1136, .iload_n 3, 1), (1137, .iconst 1, 1), (1138, .iadd, 1), (1139, .iaload, 1), (1140, .ifCond .eq 7, 3), (1143, .iconst 1, 1), (1144, .goto 4, 3), (1147, .iconst 0, 1), (1148, .invokevirtual 158, 3)]
set_option maxRecDepth 20000 in
theorem dk_L_30 : ∀ q ∈ dl_L_30, decode code q.1 = .ok q.2 := by decide +kernel
def dl_L_31 : List (Nat × Instr × Nat) := [(1151, .if_icmp .eq 28, 3), (1154, .iconst 0, 1), (1155, .ireturn, 1), (1156, .aload_n 1, 1), (1157, .aload_n 0, 1), (1158, .iload_n 3, 1), (1159, .iconst 1, 1), (1160, .iadd, 1), (1161, .iaload, 1), (1162, .invokevirtual 159, 3), (1165, .aload_n 2, 1), (1166, .aload_n 0, 1), (1167, .iload_n 3, 1), (1168, .iconst 1, 1), (1169, .iadd, 1), (1170, .iaload, 1), (1171, .invokevirtual 162, 3), (1174, .if_icmp .eq 5, 3), (1177, .iconst 0, 1), (1178, .ireturn, 1), (1179, .iinc 3 6, 3), (1182, .goto (-1164), 3), (1185, .iconst 1, 1), (1186, .ireturn, 1)]
set_option maxRecDepth 20000 in
theorem dk_L_31 : ∀ q ∈ dl_L_31, decode code q.1 = .ok q.2 := by decide +kernel
theorem ccL_7 : Cond.classLink R_law 7 (zcl 11).1 ∈ zG := zGt1 22 (by decide +kernel) rfl
theorem ci_11 : Cond.instantiable (zcl 11).1 (zcl 11).2.2 ∈ zG := zGt1 23 (by decide +kernel) rfl
theorem cn_11 : Cond.initialized (zcl 11).1 ∈ zG := zGt1 1 (by decide +kernel) rfl
theorem lmL_9 : zMl R_law 9 yX11_init := zGt1 24 (by decide +kernel) rfl
theorem ccL_10 : Cond.classLink R_law 10 (zcl 12).1 ∈ zG := zGt5 236 (by decide +kernel) rfl
theorem ci_12 : Cond.instantiable (zcl 12).1 (zcl 12).2.2 ∈ zG := zGt5 237 (by decide +kernel) rfl
theorem cn_12 : Cond.initialized (zcl 12).1 ∈ zG := zGt1 12 (by decide +kernel) rfl
theorem lmL_12 : zMl R_law 12 yX12_init := zGt5 238 (by decide +kernel) rfl
theorem lmL_13 : zMl R_law 13 yX11_state := zGt2 145 (by decide +kernel) rfl
theorem lmL_17 : zMl R_law 17 yX12_state := zGt6 178 (by decide +kernel) rfl
theorem lmL_18 : zMl R_law 18 yX11_teller := zGt2 153 (by decide +kernel) rfl
theorem lmL_22 : zMl R_law 22 yX12_teller := zGt6 182 (by decide +kernel) rfl
theorem lmL_23 : zMl R_law 23 yX11_set := zGt2 173 (by decide +kernel) rfl
theorem lmL_27 : zMl R_law 27 yX12_set := zGt6 190 (by decide +kernel) rfl
theorem lmL_28 : zMl R_law 28 yX11_act := zGt2 179 (by decide +kernel) rfl
theorem lmL_31 : zMl R_law 31 yX12_act := zGt7 110 (by decide +kernel) rfl
theorem lmL_32 : zMl R_law 32 yX11_days := zGt2 219 (by decide +kernel) rfl
theorem lmL_35 : zMl R_law 35 yX12_days := zGt7 134 (by decide +kernel) rfl
theorem lmL_36 : zMl R_law 36 yX11_feed := zGt3 98 (by decide +kernel) rfl
theorem lmL_40 : zMl R_law 40 yX12_feed := zGt6 206 (by decide +kernel) rfl
theorem lmL_41 : zMl R_law 41 yX11_end := zGt3 110 (by decide +kernel) rfl
theorem lmL_45 : zMl R_law 45 yX12_end := zGt6 214 (by decide +kernel) rfl
theorem lmL_46 : zMl R_law 46 yX11_text := zGt3 118 (by decide +kernel) rfl
theorem lmL_49 : zMl R_law 49 yX12_text := zGt6 218 (by decide +kernel) rfl
theorem lmL_50 : zMl R_law 50 yX11_fault := zGt4 128 (by decide +kernel) rfl
theorem lmL_53 : zMl R_law 53 yX12_fault := zGt7 106 (by decide +kernel) rfl
theorem lmL_54 : zMl R_law 54 yX11_of := zGt4 132 (by decide +kernel) rfl
theorem lmL_57 : zMl R_law 57 yX12_of := zGt8 12 (by decide +kernel) rfl
theorem lmL_58 : zMl R_law 58 yX11_moves := zGt4 140 (by decide +kernel) rfl
theorem lmL_61 : zMl R_law 61 yX12_moves := zGt8 16 (by decide +kernel) rfl
theorem lmL_62 : zMl R_law 62 yX11_book := zGt4 145 (by decide +kernel) rfl
theorem lmL_65 : zMl R_law 65 yX12_book := zGt8 20 (by decide +kernel) rfl
theorem lmL_66 : zMl R_law 66 yX11_goes := zGt4 153 (by decide +kernel) rfl
theorem lmL_69 : zMl R_law 69 yX12_goes := zGt8 24 (by decide +kernel) rfl
theorem lmL_70 : zMl R_law 70 yX11_ahead := zGt4 159 (by decide +kernel) rfl
theorem lmL_73 : zMl R_law 73 yX12_ahead := zGt8 37 (by decide +kernel) rfl
theorem lmL_74 : zMl R_law 74 yX11_right := zGt4 167 (by decide +kernel) rfl
theorem lmL_77 : zMl R_law 77 yX12_right := zGt8 45 (by decide +kernel) rfl
theorem lmL_78 : zMl R_law 78 yX11_surest := zGt4 191 (by decide +kernel) rfl
theorem lmL_82 : zMl R_law 82 yX12_surest := zGt8 65 (by decide +kernel) rfl
theorem lmL_83 : zMl R_law 83 yX11_likely := zGt4 196 (by decide +kernel) rfl
theorem lmL_86 : zMl R_law 86 yX12_likely := zGt8 69 (by decide +kernel) rfl
theorem lmL_87 : zMl R_law 87 yX11_glued := zGt4 219 (by decide +kernel) rfl
theorem lmL_90 : zMl R_law 90 yX12_glued := zGt8 86 (by decide +kernel) rfl
theorem lmL_91 : zMl R_law 91 yX11_seen := zGt4 227 (by decide +kernel) rfl
theorem lmL_94 : zMl R_law 94 yX12_seen := zGt8 94 (by decide +kernel) rfl
theorem lmL_95 : zMl R_law 95 yX11_round := zGt4 236 (by decide +kernel) rfl
theorem lmL_98 : zMl R_law 98 yX12_round := zGt8 98 (by decide +kernel) rfl
theorem lmL_99 : zMl R_law 99 yX11_safe := zGt5 14 (by decide +kernel) rfl
theorem lmL_102 : zMl R_law 102 yX12_safe := zGt8 106 (by decide +kernel) rfl
theorem lmL_103 : zMl R_law 103 yX11_works := zGt5 22 (by decide +kernel) rfl
theorem lmL_107 : zMl R_law 107 yX12_works := zGt8 119 (by decide +kernel) rfl
theorem lmL_108 : zMl R_law 108 yX11_umbrella := zGt5 26 (by decide +kernel) rfl
theorem lmL_111 : zMl R_law 111 yX12_umbrella := zGt8 123 (by decide +kernel) rfl
theorem lmL_112 : zMl R_law 112 yX11_leaks := zGt5 34 (by decide +kernel) rfl
theorem mw_X11_leaks : zMV yX11_leaks cX11_leaks 4 (some .int) 2 := ⟨zGt5 35 (by decide +kernel) rfl, zGt5 36 (by decide +kernel) rfl, zGt1 1 (by decide +kernel) rfl, zGt5 37 (by decide +kernel) rfl, by decide +kernel, by decide +kernel, by decide +kernel⟩
theorem lmL_115 : zMl R_law 115 yX12_leaks := zGt8 127 (by decide +kernel) rfl
theorem lmL_116 : zMl R_law 116 yX11_wins := zGt5 80 (by decide +kernel) rfl
theorem mw_X11_wins : zMV yX11_wins cX11_wins 3 (some .int) 1 := ⟨zGt5 81 (by decide +kernel) rfl, zGt5 82 (by decide +kernel) rfl, zGt1 1 (by decide +kernel) rfl, zGt5 83 (by decide +kernel) rfl, by decide +kernel, by decide +kernel, by decide +kernel⟩
theorem lmL_119 : zMl R_law 119 yX12_wins := zGt8 151 (by decide +kernel) rfl
theorem lmL_120 : zMl R_law 120 yX11_weighs := zGt5 97 (by decide +kernel) rfl
theorem mw_X11_weighs : zMV yX11_weighs cX11_weighs 2 (some .int) 1 := ⟨zGt5 98 (by decide +kernel) rfl, zGt5 99 (by decide +kernel) rfl, zGt1 1 (by decide +kernel) rfl, zGt5 100 (by decide +kernel) rfl, by decide +kernel, by decide +kernel, by decide +kernel⟩
theorem lmL_123 : zMl R_law 123 yX12_weighs := zGt8 167 (by decide +kernel) rfl
theorem lmL_124 : zMl R_law 124 yX11_post := zGt5 109 (by decide +kernel) rfl
theorem lmL_127 : zMl R_law 127 yX12_post := zGt8 171 (by decide +kernel) rfl
theorem lmL_128 : zMl R_law 128 yX11_serves := zGt5 117 (by decide +kernel) rfl
theorem mw_X11_serves : zMV yX11_serves cX11_serves 2 (some .int) 1 := ⟨zGt5 118 (by decide +kernel) rfl, zGt5 119 (by decide +kernel) rfl, zGt1 1 (by decide +kernel) rfl, zGt5 120 (by decide +kernel) rfl, by decide +kernel, by decide +kernel, by decide +kernel⟩
theorem lmL_131 : zMl R_law 131 yX12_serves := zGt8 175 (by decide +kernel) rfl
theorem lmL_132 : zMl R_law 132 yX11_hats := zGt5 147 (by decide +kernel) rfl
theorem mw_X11_hats : zMV yX11_hats cX11_hats 1 (some .int) 0 := ⟨zGt5 148 (by decide +kernel) rfl, zGt5 149 (by decide +kernel) rfl, zGt1 1 (by decide +kernel) rfl, zGt5 150 (by decide +kernel) rfl, by decide +kernel, by decide +kernel, by decide +kernel⟩
theorem lmL_135 : zMl R_law 135 yX12_hats := zGt8 187 (by decide +kernel) rfl
theorem lmL_136 : zMl R_law 136 yX11_mix := zGt5 166 (by decide +kernel) rfl
theorem lmL_140 : zMl R_law 140 yX12_mix := zGt8 191 (by decide +kernel) rfl
theorem lmL_141 : zMl R_law 141 yX11_mixes := zGt5 174 (by decide +kernel) rfl
theorem lmL_144 : zMl R_law 144 yX12_mixes := zGt8 195 (by decide +kernel) rfl
theorem lmL_145 : zMl R_law 145 yX11_game := zGt5 188 (by decide +kernel) rfl
theorem lmL_148 : zMl R_law 148 yX12_game := zGt8 203 (by decide +kernel) rfl
theorem lmL_149 : zMl R_law 149 yX11_undo := zGt5 195 (by decide +kernel) rfl
theorem lmL_153 : zMl R_law 153 yX12_undo := zGt6 174 (by decide +kernel) rfl
theorem lmL_154 : zMl R_law 154 yX11_image := zGt5 203 (by decide +kernel) rfl
theorem mw_X11_image : zMV yX11_image cX11_image 2 (some .boolean) 1 := ⟨zGt5 204 (by decide +kernel) rfl, zGt5 205 (by decide +kernel) rfl, zGt1 1 (by decide +kernel) rfl, zGt5 206 (by decide +kernel) rfl, by decide +kernel, by decide +kernel, by decide +kernel⟩
theorem lmL_158 : zMl R_law 158 yX12_image := zGt8 207 (by decide +kernel) rfl
theorem lmL_159 : zMl R_law 159 yX11_look := zGt5 230 (by decide +kernel) rfl
theorem lmL_162 : zMl R_law 162 yX12_look := zGt8 223 (by decide +kernel) rfl
