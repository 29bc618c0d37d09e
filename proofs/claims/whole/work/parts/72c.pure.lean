/-! the reference is made, printed by mk72.py -/
def dl_X12_init_0 : List (Nat × Instr × Nat) := [(0, .aload_n 0, 1), (1, .invokespecial 1, 3), (4, .aload_n 0, 1), (5, .sipush 148, 3), (8, .newarray .int, 2), (10, .putfield 7, 3), (13, .aload_n 0, 1), (14, .sipush 888, 3), (17, .newarray .int, 2), (19, .putfield 13, 3), (22, .aload_n 0, 1), (23, .sipush 148, 3), (26, .newarray .int, 2), (28, .putfield 16, 3), (31, .aload_n 0, 1), (32, .bipush 10, 2), (34, .newarray .int, 2), (36, .putfield 19, 3), (39, .aload_n 0, 1), (40, .bipush 10, 2), (42, .newarray .int, 2), (44, .putfield 22, 3), (47, .aload_n 0, 1), (48, .sipush 600, 3), (51, .newarray .int, 2)]
set_option maxRecDepth 20000 in
theorem dk_X12_init_0 : ∀ q ∈ dl_X12_init_0, decode cX12_init q.1 = .ok q.2 := by decide +kernel
def dl_X12_init_1 : List (Nat × Instr × Nat) := [(53, .putfield 25, 3), (56, .aload_n 0, 1), (57, .sipush 400, 3), (60, .newarray .int, 2), (62, .putfield 28, 3), (65, .aload_n 0, 1), (66, .bipush 125, 2), (68, .newarray .int, 2), (70, .dup, 1), (71, .iconst 0, 1), (72, .bipush 32, 2), (74, .iastore, 1), (75, .dup, 1), (76, .iconst 1, 1), (77, .bipush 116, 2), (79, .iastore, 1), (80, .dup, 1), (81, .iconst 2, 1), (82, .bipush 101, 2), (84, .iastore, 1), (85, .dup, 1), (86, .iconst 3, 1), (87, .bipush 108, 2), (89, .iastore, 1), (90, .dup, 1)]
set_option maxRecDepth 20000 in
theorem dk_X12_init_1 : ∀ q ∈ dl_X12_init_1, decode cX12_init q.1 = .ok q.2 := by decide +kernel
def dl_X12_init_2 : List (Nat × Instr × Nat) := [(91, .iconst 4, 1), (92, .bipush 108, 2), (94, .iastore, 1), (95, .dup, 1), (96, .iconst 5, 1), (97, .bipush 32, 2), (99, .iastore, 1), (100, .dup, 1), (101, .bipush 6, 2), (103, .bipush 101, 2), (105, .iastore, 1), (106, .dup, 1), (107, .bipush 7, 2), (109, .bipush 114, 2), (111, .iastore, 1), (112, .dup, 1), (113, .bipush 8, 2), (115, .bipush 114, 2), (117, .iastore, 1), (118, .dup, 1), (119, .bipush 9, 2), (121, .bipush 32, 2), (123, .iastore, 1), (124, .dup, 1), (125, .bipush 10, 2)]
set_option maxRecDepth 20000 in
theorem dk_X12_init_2 : ∀ q ∈ dl_X12_init_2, decode cX12_init q.1 = .ok q.2 := by decide +kernel
def dl_X12_init_3 : List (Nat × Instr × Nat) := [(127, .bipush 98, 2), (129, .iastore, 1), (130, .dup, 1), (131, .bipush 11, 2), (133, .bipush 108, 2), (135, .iastore, 1), (136, .dup, 1), (137, .bipush 12, 2), (139, .bipush 97, 2), (141, .iastore, 1), (142, .dup, 1), (143, .bipush 13, 2), (145, .bipush 109, 2), (147, .iastore, 1), (148, .dup, 1), (149, .bipush 14, 2), (151, .bipush 101, 2), (153, .iastore, 1), (154, .dup, 1), (155, .bipush 15, 2), (157, .bipush 32, 2), (159, .iastore, 1), (160, .dup, 1), (161, .bipush 16, 2), (163, .bipush 119, 2)]
set_option maxRecDepth 20000 in
theorem dk_X12_init_3 : ∀ q ∈ dl_X12_init_3, decode cX12_init q.1 = .ok q.2 := by decide +kernel
def dl_X12_init_4 : List (Nat × Instr × Nat) := [(165, .iastore, 1), (166, .dup, 1), (167, .bipush 17, 2), (169, .bipush 104, 2), (171, .iastore, 1), (172, .dup, 1), (173, .bipush 18, 2), (175, .bipush 101, 2), (177, .iastore, 1), (178, .dup, 1), (179, .bipush 19, 2), (181, .bipush 110, 2), (183, .iastore, 1), (184, .dup, 1), (185, .bipush 20, 2), (187, .bipush 32, 2), (189, .iastore, 1), (190, .dup, 1), (191, .bipush 21, 2), (193, .bipush 111, 2), (195, .iastore, 1), (196, .dup, 1), (197, .bipush 22, 2), (199, .bipush 114, 2), (201, .iastore, 1)]
set_option maxRecDepth 20000 in
theorem dk_X12_init_4 : ∀ q ∈ dl_X12_init_4, decode cX12_init q.1 = .ok q.2 := by decide +kernel
def dl_X12_init_5 : List (Nat × Instr × Nat) := [(202, .dup, 1), (203, .bipush 23, 2), (205, .bipush 32, 2), (207, .iastore, 1), (208, .dup, 1), (209, .bipush 24, 2), (211, .bipush 97, 2), (213, .iastore, 1), (214, .dup, 1), (215, .bipush 25, 2), (217, .bipush 110, 2), (219, .iastore, 1), (220, .dup, 1), (221, .bipush 26, 2), (223, .bipush 100, 2), (225, .iastore, 1), (226, .dup, 1), (227, .bipush 27, 2), (229, .bipush 32, 2), (231, .iastore, 1), (232, .dup, 1), (233, .bipush 28, 2), (235, .bipush 110, 2), (237, .iastore, 1), (238, .dup, 1)]
set_option maxRecDepth 20000 in
theorem dk_X12_init_5 : ∀ q ∈ dl_X12_init_5, decode cX12_init q.1 = .ok q.2 := by decide +kernel
def dl_X12_init_6 : List (Nat × Instr × Nat) := [(239, .bipush 29, 2), (241, .bipush 111, 2), (243, .iastore, 1), (244, .dup, 1), (245, .bipush 30, 2), (247, .bipush 116, 2), (249, .iastore, 1), (250, .dup, 1), (251, .bipush 31, 2), (253, .bipush 32, 2), (255, .iastore, 1), (256, .dup, 1), (257, .bipush 32, 2), (259, .bipush 115, 2), (261, .iastore, 1), (262, .dup, 1), (263, .bipush 33, 2), (265, .bipush 111, 2), (267, .iastore, 1), (268, .dup, 1), (269, .bipush 34, 2), (271, .bipush 114, 2), (273, .iastore, 1), (274, .dup, 1), (275, .bipush 35, 2)]
set_option maxRecDepth 20000 in
theorem dk_X12_init_6 : ∀ q ∈ dl_X12_init_6, decode cX12_init q.1 = .ok q.2 := by decide +kernel
def dl_X12_init_7 : List (Nat × Instr × Nat) := [(277, .bipush 116, 2), (279, .iastore, 1), (280, .dup, 1), (281, .bipush 36, 2), (283, .bipush 32, 2), (285, .iastore, 1), (286, .dup, 1), (287, .bipush 37, 2), (289, .bipush 102, 2), (291, .iastore, 1), (292, .dup, 1), (293, .bipush 38, 2), (295, .bipush 101, 2), (297, .iastore, 1), (298, .dup, 1), (299, .bipush 39, 2), (301, .bipush 97, 2), (303, .iastore, 1), (304, .dup, 1), (305, .bipush 40, 2), (307, .bipush 114, 2), (309, .iastore, 1), (310, .dup, 1), (311, .bipush 41, 2), (313, .bipush 32, 2)]
set_option maxRecDepth 20000 in
theorem dk_X12_init_7 : ∀ q ∈ dl_X12_init_7, decode cX12_init q.1 = .ok q.2 := by decide +kernel
def dl_X12_init_8 : List (Nat × Instr × Nat) := [(315, .iastore, 1), (316, .dup, 1), (317, .bipush 42, 2), (319, .bipush 98, 2), (321, .iastore, 1), (322, .dup, 1), (323, .bipush 43, 2), (325, .bipush 114, 2), (327, .iastore, 1), (328, .dup, 1), (329, .bipush 44, 2), (331, .bipush 105, 2), (333, .iastore, 1), (334, .dup, 1), (335, .bipush 45, 2), (337, .bipush 98, 2), (339, .iastore, 1), (340, .dup, 1), (341, .bipush 46, 2), (343, .bipush 101, 2), (345, .iastore, 1), (346, .dup, 1), (347, .bipush 47, 2), (349, .bipush 32, 2), (351, .iastore, 1)]
set_option maxRecDepth 20000 in
theorem dk_X12_init_8 : ∀ q ∈ dl_X12_init_8, decode cX12_init q.1 = .ok q.2 := by decide +kernel
def dl_X12_init_9 : List (Nat × Instr × Nat) := [(352, .dup, 1), (353, .bipush 48, 2), (355, .bipush 103, 2), (357, .iastore, 1), (358, .dup, 1), (359, .bipush 49, 2), (361, .bipush 108, 2), (363, .iastore, 1), (364, .dup, 1), (365, .bipush 50, 2), (367, .bipush 97, 2), (369, .iastore, 1), (370, .dup, 1), (371, .bipush 51, 2), (373, .bipush 115, 2), (375, .iastore, 1), (376, .dup, 1), (377, .bipush 52, 2), (379, .bipush 115, 2), (381, .iastore, 1), (382, .dup, 1), (383, .bipush 53, 2), (385, .bipush 32, 2), (387, .iastore, 1), (388, .dup, 1)]
set_option maxRecDepth 20000 in
theorem dk_X12_init_9 : ∀ q ∈ dl_X12_init_9, decode cX12_init q.1 = .ok q.2 := by decide +kernel
def dl_X12_init_10 : List (Nat × Instr × Nat) := [(389, .bipush 54, 2), (391, .bipush 107, 2), (393, .iastore, 1), (394, .dup, 1), (395, .bipush 55, 2), (397, .bipush 105, 2), (399, .iastore, 1), (400, .dup, 1), (401, .bipush 56, 2), (403, .bipush 110, 2), (405, .iastore, 1), (406, .dup, 1), (407, .bipush 57, 2), (409, .bipush 100, 2), (411, .iastore, 1), (412, .dup, 1), (413, .bipush 58, 2), (415, .bipush 32, 2), (417, .iastore, 1), (418, .dup, 1), (419, .bipush 59, 2), (421, .bipush 115, 2), (423, .iastore, 1), (424, .dup, 1), (425, .bipush 60, 2)]
set_option maxRecDepth 20000 in
theorem dk_X12_init_10 : ∀ q ∈ dl_X12_init_10, decode cX12_init q.1 = .ok q.2 := by decide +kernel
def dl_X12_init_11 : List (Nat × Instr × Nat) := [(427, .bipush 116, 2), (429, .iastore, 1), (430, .dup, 1), (431, .bipush 61, 2), (433, .bipush 97, 2), (435, .iastore, 1), (436, .dup, 1), (437, .bipush 62, 2), (439, .bipush 110, 2), (441, .iastore, 1), (442, .dup, 1), (443, .bipush 63, 2), (445, .bipush 100, 2), (447, .iastore, 1), (448, .dup, 1), (449, .bipush 64, 2), (451, .bipush 32, 2), (453, .iastore, 1), (454, .dup, 1), (455, .bipush 65, 2), (457, .bipush 100, 2), (459, .iastore, 1), (460, .dup, 1), (461, .bipush 66, 2), (463, .bipush 97, 2)]
set_option maxRecDepth 20000 in
theorem dk_X12_init_11 : ∀ q ∈ dl_X12_init_11, decode cX12_init q.1 = .ok q.2 := by decide +kernel
def dl_X12_init_12 : List (Nat × Instr × Nat) := [(465, .iastore, 1), (466, .dup, 1), (467, .bipush 67, 2), (469, .bipush 121, 2), (471, .iastore, 1), (472, .dup, 1), (473, .bipush 68, 2), (475, .bipush 32, 2), (477, .iastore, 1), (478, .dup, 1), (479, .bipush 69, 2), (481, .bipush 109, 2), (483, .iastore, 1), (484, .dup, 1), (485, .bipush 70, 2), (487, .bipush 105, 2), (489, .iastore, 1), (490, .dup, 1), (491, .bipush 71, 2), (493, .bipush 110, 2), (495, .iastore, 1), (496, .dup, 1), (497, .bipush 72, 2), (499, .bipush 105, 2), (501, .iastore, 1)]
set_option maxRecDepth 20000 in
theorem dk_X12_init_12 : ∀ q ∈ dl_X12_init_12, decode cX12_init q.1 = .ok q.2 := by decide +kernel
def dl_X12_init_13 : List (Nat × Instr × Nat) := [(502, .dup, 1), (503, .bipush 73, 2), (505, .bipush 115, 2), (507, .iastore, 1), (508, .dup, 1), (509, .bipush 74, 2), (511, .bipush 116, 2), (513, .iastore, 1), (514, .dup, 1), (515, .bipush 75, 2), (517, .bipush 101, 2), (519, .iastore, 1), (520, .dup, 1), (521, .bipush 76, 2), (523, .bipush 114, 2), (525, .iastore, 1), (526, .dup, 1), (527, .bipush 77, 2), (529, .bipush 32, 2), (531, .iastore, 1), (532, .dup, 1), (533, .bipush 78, 2), (535, .bipush 111, 2), (537, .iastore, 1), (538, .dup, 1)]
set_option maxRecDepth 20000 in
theorem dk_X12_init_13 : ∀ q ∈ dl_X12_init_13, decode cX12_init q.1 = .ok q.2 := by decide +kernel
def dl_X12_init_14 : List (Nat × Instr × Nat) := [(539, .bipush 79, 2), (541, .bipush 102, 2), (543, .iastore, 1), (544, .dup, 1), (545, .bipush 80, 2), (547, .bipush 102, 2), (549, .iastore, 1), (550, .dup, 1), (551, .bipush 81, 2), (553, .bipush 32, 2), (555, .iastore, 1), (556, .dup, 1), (557, .bipush 82, 2), (559, .bipush 102, 2), (561, .iastore, 1), (562, .dup, 1), (563, .bipush 83, 2), (565, .bipush 111, 2), (567, .iastore, 1), (568, .dup, 1), (569, .bipush 84, 2), (571, .bipush 114, 2), (573, .iastore, 1), (574, .dup, 1), (575, .bipush 85, 2)]
set_option maxRecDepth 20000 in
theorem dk_X12_init_14 : ∀ q ∈ dl_X12_init_14, decode cX12_init q.1 = .ok q.2 := by decide +kernel
def dl_X12_init_15 : List (Nat × Instr × Nat) := [(577, .bipush 32, 2), (579, .iastore, 1), (580, .dup, 1), (581, .bipush 86, 2), (583, .bipush 114, 2), (585, .iastore, 1), (586, .dup, 1), (587, .bipush 87, 2), (589, .bipush 105, 2), (591, .iastore, 1), (592, .dup, 1), (593, .bipush 88, 2), (595, .bipush 115, 2), (597, .iastore, 1), (598, .dup, 1), (599, .bipush 89, 2), (601, .bipush 101, 2), (603, .iastore, 1), (604, .dup, 1), (605, .bipush 90, 2), (607, .bipush 32, 2), (609, .iastore, 1), (610, .dup, 1), (611, .bipush 91, 2), (613, .bipush 102, 2)]
set_option maxRecDepth 20000 in
theorem dk_X12_init_15 : ∀ q ∈ dl_X12_init_15, decode cX12_init q.1 = .ok q.2 := by decide +kernel
def dl_X12_init_16 : List (Nat × Instr × Nat) := [(615, .iastore, 1), (616, .dup, 1), (617, .bipush 92, 2), (619, .bipush 97, 2), (621, .iastore, 1), (622, .dup, 1), (623, .bipush 93, 2), (625, .bipush 108, 2), (627, .iastore, 1), (628, .dup, 1), (629, .bipush 94, 2), (631, .bipush 108, 2), (633, .iastore, 1), (634, .dup, 1), (635, .bipush 95, 2), (637, .bipush 32, 2), (639, .iastore, 1), (640, .dup, 1), (641, .bipush 96, 2), (643, .bipush 111, 2), (645, .iastore, 1), (646, .dup, 1), (647, .bipush 97, 2), (649, .bipush 110, 2), (651, .iastore, 1)]
set_option maxRecDepth 20000 in
theorem dk_X12_init_16 : ∀ q ∈ dl_X12_init_16, decode cX12_init q.1 = .ok q.2 := by decide +kernel
def dl_X12_init_17 : List (Nat × Instr × Nat) := [(652, .dup, 1), (653, .bipush 98, 2), (655, .bipush 32, 2), (657, .iastore, 1), (658, .dup, 1), (659, .bipush 99, 2), (661, .bipush 110, 2), (663, .iastore, 1), (664, .dup, 1), (665, .bipush 100, 2), (667, .bipush 97, 2), (669, .iastore, 1), (670, .dup, 1), (671, .bipush 101, 2), (673, .bipush 109, 2), (675, .iastore, 1), (676, .dup, 1), (677, .bipush 102, 2), (679, .bipush 101, 2), (681, .iastore, 1), (682, .dup, 1), (683, .bipush 103, 2), (685, .bipush 32, 2), (687, .iastore, 1), (688, .dup, 1)]
set_option maxRecDepth 20000 in
theorem dk_X12_init_17 : ∀ q ∈ dl_X12_init_17, decode cX12_init q.1 = .ok q.2 := by decide +kernel
def dl_X12_init_18 : List (Nat × Instr × Nat) := [(689, .bipush 104, 2), (691, .bipush 103, 2), (693, .iastore, 1), (694, .dup, 1), (695, .bipush 105, 2), (697, .bipush 108, 2), (699, .iastore, 1), (700, .dup, 1), (701, .bipush 106, 2), (703, .bipush 117, 2), (705, .iastore, 1), (706, .dup, 1), (707, .bipush 107, 2), (709, .bipush 101, 2), (711, .iastore, 1), (712, .dup, 1), (713, .bipush 108, 2), (715, .bipush 32, 2), (717, .iastore, 1), (718, .dup, 1), (719, .bipush 109, 2), (721, .bipush 102, 2), (723, .iastore, 1), (724, .dup, 1), (725, .bipush 110, 2)]
set_option maxRecDepth 20000 in
theorem dk_X12_init_18 : ∀ q ∈ dl_X12_init_18, decode cX12_init q.1 = .ok q.2 := by decide +kernel
def dl_X12_init_19 : List (Nat × Instr × Nat) := [(727, .bipush 114, 2), (729, .iastore, 1), (730, .dup, 1), (731, .bipush 111, 2), (733, .bipush 101, 2), (735, .iastore, 1), (736, .dup, 1), (737, .bipush 112, 2), (739, .bipush 101, 2), (741, .iastore, 1), (742, .dup, 1), (743, .bipush 113, 2), (745, .bipush 32, 2), (747, .iastore, 1), (748, .dup, 1), (749, .bipush 114, 2), (751, .bipush 114, 2), (753, .iastore, 1), (754, .dup, 1), (755, .bipush 115, 2), (757, .bipush 101, 2), (759, .iastore, 1), (760, .dup, 1), (761, .bipush 116, 2), (763, .bipush 99, 2)]
set_option maxRecDepth 20000 in
theorem dk_X12_init_19 : ∀ q ∈ dl_X12_init_19, decode cX12_init q.1 = .ok q.2 := by decide +kernel
def dl_X12_init_20 : List (Nat × Instr × Nat) := [(765, .iastore, 1), (766, .dup, 1), (767, .bipush 117, 2), (769, .bipush 97, 2), (771, .iastore, 1), (772, .dup, 1), (773, .bipush 118, 2), (775, .bipush 108, 2), (777, .iastore, 1), (778, .dup, 1), (779, .bipush 119, 2), (781, .bipush 108, 2), (783, .iastore, 1), (784, .dup, 1), (785, .bipush 120, 2), (787, .bipush 32, 2), (789, .iastore, 1), (790, .dup, 1), (791, .bipush 121, 2), (793, .bipush 116, 2), (795, .iastore, 1), (796, .dup, 1), (797, .bipush 122, 2), (799, .bipush 97, 2), (801, .iastore, 1)]
set_option maxRecDepth 20000 in
theorem dk_X12_init_20 : ∀ q ∈ dl_X12_init_20, decode cX12_init q.1 = .ok q.2 := by decide +kernel
def dl_X12_init_21 : List (Nat × Instr × Nat) := [(802, .dup, 1), (803, .bipush 123, 2), (805, .bipush 112, 2), (807, .iastore, 1), (808, .dup, 1), (809, .bipush 124, 2), (811, .bipush 32, 2), (813, .iastore, 1), (814, .putfield 31, 3), (817, .aload_n 0, 1), (818, .iconst 2, 1), (819, .newarray .int, 2), (821, .putfield 34, 3), (824, .aload_n 0, 1), (825, .bipush 48, 2), (827, .newarray .int, 2), (829, .putfield 37, 3), (832, .aload_n 0, 1), (833, .bipush 48, 2), (835, .newarray .int, 2), (837, .putfield 40, 3), (840, .aload_n 0, 1), (841, .bipush 48, 2), (843, .newarray .int, 2), (845, .putfield 43, 3)]
set_option maxRecDepth 20000 in
theorem dk_X12_init_21 : ∀ q ∈ dl_X12_init_21, decode cX12_init q.1 = .ok q.2 := by decide +kernel
def dl_X12_init_22 : List (Nat × Instr × Nat) := [(848, .aload_n 0, 1), (849, .bipush 48, 2), (851, .newarray .int, 2), (853, .putfield 46, 3), (856, .aload_n 0, 1), (857, .sipush 1200, 3), (860, .newarray .int, 2), (862, .putfield 49, 3), (865, .aload_n 0, 1), (866, .sipush 1200, 3), (869, .newarray .int, 2), (871, .putfield 52, 3), (874, .aload_n 0, 1), (875, .bipush 40, 2), (877, .newarray .int, 2), (879, .putfield 55, 3), (882, .aload_n 0, 1), (883, .iconst (-1), 1), (884, .putfield 58, 3), (887, .aload_n 0, 1), (888, .bipush 48, 2), (890, .newarray .int, 2), (892, .putfield 62, 3), (895, .aload_n 0, 1), (896, .sipush 128, 3)]
set_option maxRecDepth 20000 in
theorem dk_X12_init_22 : ∀ q ∈ dl_X12_init_22, decode cX12_init q.1 = .ok q.2 := by decide +kernel
def dl_X12_init_23 : List (Nat × Instr × Nat) := [(899, .newarray .int, 2), (901, .putfield 65, 3), (904, .aload_n 0, 1), (905, .bipush 9, 2), (907, .newarray .int, 2), (909, .putfield 68, 3), (912, .aload_n 0, 1), (913, .sipush 420, 3), (916, .newarray .int, 2), (918, .putfield 71, 3), (921, .aload_n 0, 1), (922, .bipush 12, 2), (924, .newarray .int, 2), (926, .putfield 74, 3), (929, .aload_n 0, 1), (930, .bipush 10, 2), (932, .newarray .int, 2), (934, .putfield 77, 3), (937, .aload_n 0, 1), (938, .bipush 6, 2), (940, .newarray .int, 2), (942, .putfield 80, 3), (945, .aload_n 0, 1), (946, .bipush 6, 2), (948, .newarray .int, 2)]
set_option maxRecDepth 20000 in
theorem dk_X12_init_23 : ∀ q ∈ dl_X12_init_23, decode cX12_init q.1 = .ok q.2 := by decide +kernel
def dl_X12_init_24 : List (Nat × Instr × Nat) := [(950, .putfield 83, 3), (953, .aload_n 0, 1), (954, .sipush 7168, 3), (957, .newarray .int, 2), (959, .putfield 86, 3), (962, .aload_n 0, 1), (963, .sipush 1024, 3), (966, .newarray .int, 2), (968, .putfield 89, 3), (971, .aload_n 0, 1), (972, .iconst 4, 1), (973, .newarray .int, 2), (975, .putfield 92, 3), (978, .aload_n 0, 1), (979, .sipush 2100, 3), (982, .newarray .int, 2), (984, .putfield 95, 3), (987, .return_, 1)]
set_option maxRecDepth 20000 in
theorem dk_X12_init_24 : ∀ q ∈ dl_X12_init_24, decode cX12_init q.1 = .ok q.2 := by decide +kernel
theorem cm_RX12_1 : Cond.methodLink RX12 1 Lib.objectInit ∈ zG := zGt6 1 (by decide +kernel) rfl
theorem cf_RX12_7 : Cond.fieldLink RX12 7 ((zcl 12).2.1 1).1 ((zcl 12).2.1 1).2.1 ((zcl 12).2.1 1).2.2.1 ∈ zG := zGt6 3 (by decide +kernel) rfl
theorem cf_RX12_13 : Cond.fieldLink RX12 13 ((zcl 12).2.1 2).1 ((zcl 12).2.1 2).2.1 ((zcl 12).2.1 2).2.2.1 ∈ zG := zGt6 4 (by decide +kernel) rfl
theorem cf_RX12_16 : Cond.fieldLink RX12 16 ((zcl 12).2.1 4).1 ((zcl 12).2.1 4).2.1 ((zcl 12).2.1 4).2.2.1 ∈ zG := zGt6 6 (by decide +kernel) rfl
theorem cf_RX12_19 : Cond.fieldLink RX12 19 ((zcl 12).2.1 9).1 ((zcl 12).2.1 9).2.1 ((zcl 12).2.1 9).2.2.1 ∈ zG := zGt6 11 (by decide +kernel) rfl
theorem cf_RX12_22 : Cond.fieldLink RX12 22 ((zcl 12).2.1 10).1 ((zcl 12).2.1 10).2.1 ((zcl 12).2.1 10).2.2.1 ∈ zG := zGt6 12 (by decide +kernel) rfl
theorem cf_RX12_25 : Cond.fieldLink RX12 25 ((zcl 12).2.1 11).1 ((zcl 12).2.1 11).2.1 ((zcl 12).2.1 11).2.2.1 ∈ zG := zGt6 13 (by decide +kernel) rfl
theorem cf_RX12_28 : Cond.fieldLink RX12 28 ((zcl 12).2.1 12).1 ((zcl 12).2.1 12).2.1 ((zcl 12).2.1 12).2.2.1 ∈ zG := zGt6 14 (by decide +kernel) rfl
theorem cf_RX12_31 : Cond.fieldLink RX12 31 ((zcl 12).2.1 18).1 ((zcl 12).2.1 18).2.1 ((zcl 12).2.1 18).2.2.1 ∈ zG := zGt6 20 (by decide +kernel) rfl
theorem cf_RX12_34 : Cond.fieldLink RX12 34 ((zcl 12).2.1 19).1 ((zcl 12).2.1 19).2.1 ((zcl 12).2.1 19).2.2.1 ∈ zG := zGt6 21 (by decide +kernel) rfl
theorem cf_RX12_37 : Cond.fieldLink RX12 37 ((zcl 12).2.1 20).1 ((zcl 12).2.1 20).2.1 ((zcl 12).2.1 20).2.2.1 ∈ zG := zGt6 22 (by decide +kernel) rfl
theorem cf_RX12_40 : Cond.fieldLink RX12 40 ((zcl 12).2.1 21).1 ((zcl 12).2.1 21).2.1 ((zcl 12).2.1 21).2.2.1 ∈ zG := zGt6 23 (by decide +kernel) rfl
theorem cf_RX12_43 : Cond.fieldLink RX12 43 ((zcl 12).2.1 22).1 ((zcl 12).2.1 22).2.1 ((zcl 12).2.1 22).2.2.1 ∈ zG := zGt6 24 (by decide +kernel) rfl
theorem cf_RX12_46 : Cond.fieldLink RX12 46 ((zcl 12).2.1 23).1 ((zcl 12).2.1 23).2.1 ((zcl 12).2.1 23).2.2.1 ∈ zG := zGt6 25 (by decide +kernel) rfl
theorem cf_RX12_49 : Cond.fieldLink RX12 49 ((zcl 12).2.1 24).1 ((zcl 12).2.1 24).2.1 ((zcl 12).2.1 24).2.2.1 ∈ zG := zGt6 26 (by decide +kernel) rfl
theorem cf_RX12_52 : Cond.fieldLink RX12 52 ((zcl 12).2.1 25).1 ((zcl 12).2.1 25).2.1 ((zcl 12).2.1 25).2.2.1 ∈ zG := zGt6 27 (by decide +kernel) rfl
theorem cf_RX12_55 : Cond.fieldLink RX12 55 ((zcl 12).2.1 29).1 ((zcl 12).2.1 29).2.1 ((zcl 12).2.1 29).2.2.1 ∈ zG := zGt6 31 (by decide +kernel) rfl
theorem cf_RX12_58 : Cond.fieldLink RX12 58 ((zcl 12).2.1 34).1 ((zcl 12).2.1 34).2.1 ((zcl 12).2.1 34).2.2.1 ∈ zG := zGt6 36 (by decide +kernel) rfl
theorem cf_RX12_62 : Cond.fieldLink RX12 62 ((zcl 12).2.1 36).1 ((zcl 12).2.1 36).2.1 ((zcl 12).2.1 36).2.2.1 ∈ zG := zGt6 38 (by decide +kernel) rfl
theorem cf_RX12_65 : Cond.fieldLink RX12 65 ((zcl 12).2.1 38).1 ((zcl 12).2.1 38).2.1 ((zcl 12).2.1 38).2.2.1 ∈ zG := zGt6 40 (by decide +kernel) rfl
theorem cf_RX12_68 : Cond.fieldLink RX12 68 ((zcl 12).2.1 39).1 ((zcl 12).2.1 39).2.1 ((zcl 12).2.1 39).2.2.1 ∈ zG := zGt6 41 (by decide +kernel) rfl
theorem cf_RX12_71 : Cond.fieldLink RX12 71 ((zcl 12).2.1 40).1 ((zcl 12).2.1 40).2.1 ((zcl 12).2.1 40).2.2.1 ∈ zG := zGt6 42 (by decide +kernel) rfl
theorem cf_RX12_74 : Cond.fieldLink RX12 74 ((zcl 12).2.1 44).1 ((zcl 12).2.1 44).2.1 ((zcl 12).2.1 44).2.2.1 ∈ zG := zGt6 46 (by decide +kernel) rfl
theorem cf_RX12_77 : Cond.fieldLink RX12 77 ((zcl 12).2.1 46).1 ((zcl 12).2.1 46).2.1 ((zcl 12).2.1 46).2.2.1 ∈ zG := zGt6 48 (by decide +kernel) rfl
theorem cf_RX12_80 : Cond.fieldLink RX12 80 ((zcl 12).2.1 48).1 ((zcl 12).2.1 48).2.1 ((zcl 12).2.1 48).2.2.1 ∈ zG := zGt6 50 (by decide +kernel) rfl
theorem cf_RX12_83 : Cond.fieldLink RX12 83 ((zcl 12).2.1 49).1 ((zcl 12).2.1 49).2.1 ((zcl 12).2.1 49).2.2.1 ∈ zG := zGt6 51 (by decide +kernel) rfl
theorem cf_RX12_86 : Cond.fieldLink RX12 86 ((zcl 12).2.1 50).1 ((zcl 12).2.1 50).2.1 ((zcl 12).2.1 50).2.2.1 ∈ zG := zGt6 52 (by decide +kernel) rfl
theorem cf_RX12_89 : Cond.fieldLink RX12 89 ((zcl 12).2.1 51).1 ((zcl 12).2.1 51).2.1 ((zcl 12).2.1 51).2.2.1 ∈ zG := zGt6 53 (by decide +kernel) rfl
theorem cf_RX12_92 : Cond.fieldLink RX12 92 ((zcl 12).2.1 52).1 ((zcl 12).2.1 52).2.1 ((zcl 12).2.1 52).2.2.1 ∈ zG := zGt6 54 (by decide +kernel) rfl
theorem cf_RX12_95 : Cond.fieldLink RX12 95 ((zcl 12).2.1 56).1 ((zcl 12).2.1 56).2.1 ((zcl 12).2.1 56).2.2.1 ∈ zG := zGt6 58 (by decide +kernel) rfl
def mkX12_init (x : Nat) (M : ZM) : ZM := ptR (nw (ptR (nw (ptR (nw (ptR (nw (ptR (nw (ptR (nw (ptR (nw (ptR (nw (ptR (nw (ptR (nw (ptR (nw (ptR (nw (ptI (ptR (nw (ptR (nw (ptR (nw (ptR (nw (ptR (nw (ptR (nw (ptR (nw (ptR (nw (ptR (ptI (ptI (ptI (ptI (ptI (ptI (ptI (ptI (ptI (ptI (ptI (ptI (ptI (ptI (ptI (ptI (ptI (ptI (ptI (ptI (ptI (ptI (ptI (ptI (ptI (ptI (ptI (ptI (ptI (ptI (ptI (ptI (ptI (ptI (ptI (ptI (ptI (ptI (ptI (ptI (ptI (ptI (ptI (ptI (ptI (ptI (ptI (ptI (ptI (ptI (ptI (ptI (ptI (ptI (ptI (ptI (ptI (ptI (ptI (ptI (ptI (ptI (ptI (ptI (ptI (ptI (ptI (ptI (ptI (ptI (ptI (ptI (ptI (ptI (ptI (ptI (ptI (ptI (ptI (ptI (ptI (ptI (ptI (ptI (ptI (ptI (ptI (ptI (ptI (ptI (ptI (ptI (ptI (ptI (ptI (ptI (ptI (ptI (ptI (ptI (ptI (ptI (ptI (ptI (ptI (ptI (ptI (ptI (ptI (ptI (ptI (ptI (ptI (ptI (ptI (ptI (ptI (ptI (ptI (ptI (ptI (ptI (ptI (ptI (ptI (nw (ptR (nw (ptR (nw (ptR (nw (ptR (nw (ptR (nw (ptR (nw (ptR (nw (M) (x + 1)) x 1 (x + 1)) (x + 2)) x 2 (x + 2)) (x + 3)) x 4 (x + 3)) (x + 4)) x 9 (x + 4)) (x + 5)) x 10 (x + 5)) (x + 6)) x 11 (x + 6)) (x + 7)) x 12 (x + 7)) (x + 8)) (x + 8) 0 32) (x + 8) 1 116) (x + 8) 2 101) (x + 8) 3 108) (x + 8) 4 108) (x + 8) 5 32) (x + 8) 6 101) (x + 8) 7 114) (x + 8) 8 114) (x + 8) 9 32) (x + 8) 10 98) (x + 8) 11 108) (x + 8) 12 97) (x + 8) 13 109) (x + 8) 14 101) (x + 8) 15 32) (x + 8) 16 119) (x + 8) 17 104) (x + 8) 18 101) (x + 8) 19 110) (x + 8) 20 32) (x + 8) 21 111) (x + 8) 22 114) (x + 8) 23 32) (x + 8) 24 97) (x + 8) 25 110) (x + 8) 26 100) (x + 8) 27 32) (x + 8) 28 110) (x + 8) 29 111) (x + 8) 30 116) (x + 8) 31 32) (x + 8) 32 115) (x + 8) 33 111) (x + 8) 34 114) (x + 8) 35 116) (x + 8) 36 32) (x + 8) 37 102) (x + 8) 38 101) (x + 8) 39 97) (x + 8) 40 114) (x + 8) 41 32) (x + 8) 42 98) (x + 8) 43 114) (x + 8) 44 105) (x + 8) 45 98) (x + 8) 46 101) (x + 8) 47 32) (x + 8) 48 103) (x + 8) 49 108) (x + 8) 50 97) (x + 8) 51 115) (x + 8) 52 115) (x + 8) 53 32) (x + 8) 54 107) (x + 8) 55 105) (x + 8) 56 110) (x + 8) 57 100) (x + 8) 58 32) (x + 8) 59 115) (x + 8) 60 116) (x + 8) 61 97) (x + 8) 62 110) (x + 8) 63 100) (x + 8) 64 32) (x + 8) 65 100) (x + 8) 66 97) (x + 8) 67 121) (x + 8) 68 32) (x + 8) 69 109) (x + 8) 70 105) (x + 8) 71 110) (x + 8) 72 105) (x + 8) 73 115) (x + 8) 74 116) (x + 8) 75 101) (x + 8) 76 114) (x + 8) 77 32) (x + 8) 78 111) (x + 8) 79 102) (x + 8) 80 102) (x + 8) 81 32) (x + 8) 82 102) (x + 8) 83 111) (x + 8) 84 114) (x + 8) 85 32) (x + 8) 86 114) (x + 8) 87 105) (x + 8) 88 115) (x + 8) 89 101) (x + 8) 90 32) (x + 8) 91 102) (x + 8) 92 97) (x + 8) 93 108) (x + 8) 94 108) (x + 8) 95 32) (x + 8) 96 111) (x + 8) 97 110) (x + 8) 98 32) (x + 8) 99 110) (x + 8) 100 97) (x + 8) 101 109) (x + 8) 102 101) (x + 8) 103 32) (x + 8) 104 103) (x + 8) 105 108) (x + 8) 106 117) (x + 8) 107 101) (x + 8) 108 32) (x + 8) 109 102) (x + 8) 110 114) (x + 8) 111 101) (x + 8) 112 101) (x + 8) 113 32) (x + 8) 114 114) (x + 8) 115 101) (x + 8) 116 99) (x + 8) 117 97) (x + 8) 118 108) (x + 8) 119 108) (x + 8) 120 32) (x + 8) 121 116) (x + 8) 122 97) (x + 8) 123 112) (x + 8) 124 32) x 18 (x + 8)) (x + 9)) x 19 (x + 9)) (x + 10)) x 20 (x + 10)) (x + 11)) x 21 (x + 11)) (x + 12)) x 22 (x + 12)) (x + 13)) x 23 (x + 13)) (x + 14)) x 24 (x + 14)) (x + 15)) x 25 (x + 15)) (x + 16)) x 29 (x + 16)) x 34 (-1)) (x + 17)) x 36 (x + 17)) (x + 18)) x 38 (x + 18)) (x + 19)) x 39 (x + 19)) (x + 20)) x 40 (x + 20)) (x + 21)) x 44 (x + 21)) (x + 22)) x 46 (x + 22)) (x + 23)) x 48 (x + 23)) (x + 24)) x 49 (x + 24)) (x + 25)) x 50 (x + 25)) (x + 26)) x 51 (x + 26)) (x + 27)) x 52 (x + 27)) (x + 28)) x 56 (x + 28)
set_option maxRecDepth 20000 in
set_option maxHeartbeats 4000000 in
theorem ct_X12_init {M : ZM} {V1 : List Nat} {b x : Nat} (hv : AVx M V1 b (x + 1)) (hbx : b ≤ x) (hf : FRx V1 b (x + 1 + 28)) (h1000 : x + 1 + 28 ≤ 1000) (hS : zS x = (1, 12) ∧ zS (x + 1) = (2, 148) ∧ zS (x + 2) = (2, 888) ∧ zS (x + 3) = (2, 148) ∧ zS (x + 4) = (2, 10) ∧ zS (x + 5) = (2, 10) ∧ zS (x + 6) = (2, 600) ∧ zS (x + 7) = (2, 400) ∧ zS (x + 8) = (2, 125) ∧ zS (x + 9) = (2, 2) ∧ zS (x + 10) = (2, 48) ∧ zS (x + 11) = (2, 48) ∧ zS (x + 12) = (2, 48) ∧ zS (x + 13) = (2, 48) ∧ zS (x + 14) = (2, 1200) ∧ zS (x + 15) = (2, 1200) ∧ zS (x + 16) = (2, 40) ∧ zS (x + 17) = (2, 48) ∧ zS (x + 18) = (2, 128) ∧ zS (x + 19) = (2, 9) ∧ zS (x + 20) = (2, 420) ∧ zS (x + 21) = (2, 12) ∧ zS (x + 22) = (2, 10) ∧ zS (x + 23) = (2, 6) ∧ zS (x + 24) = (2, 6) ∧ zS (x + 25) = (2, 7168) ∧ zS (x + 26) = (2, 1024) ∧ zS (x + 27) = (2, 4) ∧ zS (x + 28) = (2, 2100)) : zMt yX12_init cX12_init 1 none 1 28 15898 [.ref x] M none (mkX12_init x M) ∧ AVx (mkX12_init x M) V1 b (x + 1 + 28) := by
  have v0 := hv
  have v1 := AV_nw v0
  have v2 := AV_pt (a := x) (k := 1) v1 (AV_in (z := (x + 1)) v1 (by omega) (by omega))
  have v3 := AV_nw v2
  have v4 := AV_pt (a := x) (k := 2) v3 (AV_in (z := (x + 2)) v3 (by omega) (by omega))
  have v5 := AV_nw v4
  have v6 := AV_pt (a := x) (k := 4) v5 (AV_in (z := (x + 3)) v5 (by omega) (by omega))
  have v7 := AV_nw v6
  have v8 := AV_pt (a := x) (k := 9) v7 (AV_in (z := (x + 4)) v7 (by omega) (by omega))
  have v9 := AV_nw v8
  have v10 := AV_pt (a := x) (k := 10) v9 (AV_in (z := (x + 5)) v9 (by omega) (by omega))
  have v11 := AV_nw v10
  have v12 := AV_pt (a := x) (k := 11) v11 (AV_in (z := (x + 6)) v11 (by omega) (by omega))
  have v13 := AV_nw v12
  have v14 := AV_pt (a := x) (k := 12) v13 (AV_in (z := (x + 7)) v13 (by omega) (by omega))
  have v15 := AV_nw v14
  have v16 := AV_pi (a := (x + 8)) (k := 0) (v := 32) v15
  have v17 := AV_pi (a := (x + 8)) (k := 1) (v := 116) v16
  have v18 := AV_pi (a := (x + 8)) (k := 2) (v := 101) v17
  have v19 := AV_pi (a := (x + 8)) (k := 3) (v := 108) v18
  have v20 := AV_pi (a := (x + 8)) (k := 4) (v := 108) v19
  have v21 := AV_pi (a := (x + 8)) (k := 5) (v := 32) v20
  have v22 := AV_pi (a := (x + 8)) (k := 6) (v := 101) v21
  have v23 := AV_pi (a := (x + 8)) (k := 7) (v := 114) v22
  have v24 := AV_pi (a := (x + 8)) (k := 8) (v := 114) v23
  have v25 := AV_pi (a := (x + 8)) (k := 9) (v := 32) v24
  have v26 := AV_pi (a := (x + 8)) (k := 10) (v := 98) v25
  have v27 := AV_pi (a := (x + 8)) (k := 11) (v := 108) v26
  have v28 := AV_pi (a := (x + 8)) (k := 12) (v := 97) v27
  have v29 := AV_pi (a := (x + 8)) (k := 13) (v := 109) v28
  have v30 := AV_pi (a := (x + 8)) (k := 14) (v := 101) v29
  have v31 := AV_pi (a := (x + 8)) (k := 15) (v := 32) v30
  have v32 := AV_pi (a := (x + 8)) (k := 16) (v := 119) v31
  have v33 := AV_pi (a := (x + 8)) (k := 17) (v := 104) v32
  have v34 := AV_pi (a := (x + 8)) (k := 18) (v := 101) v33
  have v35 := AV_pi (a := (x + 8)) (k := 19) (v := 110) v34
  have v36 := AV_pi (a := (x + 8)) (k := 20) (v := 32) v35
  have v37 := AV_pi (a := (x + 8)) (k := 21) (v := 111) v36
  have v38 := AV_pi (a := (x + 8)) (k := 22) (v := 114) v37
  have v39 := AV_pi (a := (x + 8)) (k := 23) (v := 32) v38
  have v40 := AV_pi (a := (x + 8)) (k := 24) (v := 97) v39
  have v41 := AV_pi (a := (x + 8)) (k := 25) (v := 110) v40
  have v42 := AV_pi (a := (x + 8)) (k := 26) (v := 100) v41
  have v43 := AV_pi (a := (x + 8)) (k := 27) (v := 32) v42
  have v44 := AV_pi (a := (x + 8)) (k := 28) (v := 110) v43
  have v45 := AV_pi (a := (x + 8)) (k := 29) (v := 111) v44
  have v46 := AV_pi (a := (x + 8)) (k := 30) (v := 116) v45
  have v47 := AV_pi (a := (x + 8)) (k := 31) (v := 32) v46
  have v48 := AV_pi (a := (x + 8)) (k := 32) (v := 115) v47
  have v49 := AV_pi (a := (x + 8)) (k := 33) (v := 111) v48
  have v50 := AV_pi (a := (x + 8)) (k := 34) (v := 114) v49
  have v51 := AV_pi (a := (x + 8)) (k := 35) (v := 116) v50
  have v52 := AV_pi (a := (x + 8)) (k := 36) (v := 32) v51
  have v53 := AV_pi (a := (x + 8)) (k := 37) (v := 102) v52
  have v54 := AV_pi (a := (x + 8)) (k := 38) (v := 101) v53
  have v55 := AV_pi (a := (x + 8)) (k := 39) (v := 97) v54
  have v56 := AV_pi (a := (x + 8)) (k := 40) (v := 114) v55
  have v57 := AV_pi (a := (x + 8)) (k := 41) (v := 32) v56
  have v58 := AV_pi (a := (x + 8)) (k := 42) (v := 98) v57
  have v59 := AV_pi (a := (x + 8)) (k := 43) (v := 114) v58
  have v60 := AV_pi (a := (x + 8)) (k := 44) (v := 105) v59
  have v61 := AV_pi (a := (x + 8)) (k := 45) (v := 98) v60
  have v62 := AV_pi (a := (x + 8)) (k := 46) (v := 101) v61
  have v63 := AV_pi (a := (x + 8)) (k := 47) (v := 32) v62
  have v64 := AV_pi (a := (x + 8)) (k := 48) (v := 103) v63
  have v65 := AV_pi (a := (x + 8)) (k := 49) (v := 108) v64
  have v66 := AV_pi (a := (x + 8)) (k := 50) (v := 97) v65
  have v67 := AV_pi (a := (x + 8)) (k := 51) (v := 115) v66
  have v68 := AV_pi (a := (x + 8)) (k := 52) (v := 115) v67
  have v69 := AV_pi (a := (x + 8)) (k := 53) (v := 32) v68
  have v70 := AV_pi (a := (x + 8)) (k := 54) (v := 107) v69
  have v71 := AV_pi (a := (x + 8)) (k := 55) (v := 105) v70
  have v72 := AV_pi (a := (x + 8)) (k := 56) (v := 110) v71
  have v73 := AV_pi (a := (x + 8)) (k := 57) (v := 100) v72
  have v74 := AV_pi (a := (x + 8)) (k := 58) (v := 32) v73
  have v75 := AV_pi (a := (x + 8)) (k := 59) (v := 115) v74
  have v76 := AV_pi (a := (x + 8)) (k := 60) (v := 116) v75
  have v77 := AV_pi (a := (x + 8)) (k := 61) (v := 97) v76
  have v78 := AV_pi (a := (x + 8)) (k := 62) (v := 110) v77
  have v79 := AV_pi (a := (x + 8)) (k := 63) (v := 100) v78
  have v80 := AV_pi (a := (x + 8)) (k := 64) (v := 32) v79
  have v81 := AV_pi (a := (x + 8)) (k := 65) (v := 100) v80
  have v82 := AV_pi (a := (x + 8)) (k := 66) (v := 97) v81
  have v83 := AV_pi (a := (x + 8)) (k := 67) (v := 121) v82
  have v84 := AV_pi (a := (x + 8)) (k := 68) (v := 32) v83
  have v85 := AV_pi (a := (x + 8)) (k := 69) (v := 109) v84
  have v86 := AV_pi (a := (x + 8)) (k := 70) (v := 105) v85
  have v87 := AV_pi (a := (x + 8)) (k := 71) (v := 110) v86
  have v88 := AV_pi (a := (x + 8)) (k := 72) (v := 105) v87
  have v89 := AV_pi (a := (x + 8)) (k := 73) (v := 115) v88
  have v90 := AV_pi (a := (x + 8)) (k := 74) (v := 116) v89
  have v91 := AV_pi (a := (x + 8)) (k := 75) (v := 101) v90
  have v92 := AV_pi (a := (x + 8)) (k := 76) (v := 114) v91
  have v93 := AV_pi (a := (x + 8)) (k := 77) (v := 32) v92
  have v94 := AV_pi (a := (x + 8)) (k := 78) (v := 111) v93
  have v95 := AV_pi (a := (x + 8)) (k := 79) (v := 102) v94
  have v96 := AV_pi (a := (x + 8)) (k := 80) (v := 102) v95
  have v97 := AV_pi (a := (x + 8)) (k := 81) (v := 32) v96
  have v98 := AV_pi (a := (x + 8)) (k := 82) (v := 102) v97
  have v99 := AV_pi (a := (x + 8)) (k := 83) (v := 111) v98
  have v100 := AV_pi (a := (x + 8)) (k := 84) (v := 114) v99
  have v101 := AV_pi (a := (x + 8)) (k := 85) (v := 32) v100
  have v102 := AV_pi (a := (x + 8)) (k := 86) (v := 114) v101
  have v103 := AV_pi (a := (x + 8)) (k := 87) (v := 105) v102
  have v104 := AV_pi (a := (x + 8)) (k := 88) (v := 115) v103
  have v105 := AV_pi (a := (x + 8)) (k := 89) (v := 101) v104
  have v106 := AV_pi (a := (x + 8)) (k := 90) (v := 32) v105
  have v107 := AV_pi (a := (x + 8)) (k := 91) (v := 102) v106
  have v108 := AV_pi (a := (x + 8)) (k := 92) (v := 97) v107
  have v109 := AV_pi (a := (x + 8)) (k := 93) (v := 108) v108
  have v110 := AV_pi (a := (x + 8)) (k := 94) (v := 108) v109
  have v111 := AV_pi (a := (x + 8)) (k := 95) (v := 32) v110
  have v112 := AV_pi (a := (x + 8)) (k := 96) (v := 111) v111
  have v113 := AV_pi (a := (x + 8)) (k := 97) (v := 110) v112
  have v114 := AV_pi (a := (x + 8)) (k := 98) (v := 32) v113
  have v115 := AV_pi (a := (x + 8)) (k := 99) (v := 110) v114
  have v116 := AV_pi (a := (x + 8)) (k := 100) (v := 97) v115
  have v117 := AV_pi (a := (x + 8)) (k := 101) (v := 109) v116
  have v118 := AV_pi (a := (x + 8)) (k := 102) (v := 101) v117
  have v119 := AV_pi (a := (x + 8)) (k := 103) (v := 32) v118
  have v120 := AV_pi (a := (x + 8)) (k := 104) (v := 103) v119
  have v121 := AV_pi (a := (x + 8)) (k := 105) (v := 108) v120
  have v122 := AV_pi (a := (x + 8)) (k := 106) (v := 117) v121
  have v123 := AV_pi (a := (x + 8)) (k := 107) (v := 101) v122
  have v124 := AV_pi (a := (x + 8)) (k := 108) (v := 32) v123
  have v125 := AV_pi (a := (x + 8)) (k := 109) (v := 102) v124
  have v126 := AV_pi (a := (x + 8)) (k := 110) (v := 114) v125
  have v127 := AV_pi (a := (x + 8)) (k := 111) (v := 101) v126
  have v128 := AV_pi (a := (x + 8)) (k := 112) (v := 101) v127
  have v129 := AV_pi (a := (x + 8)) (k := 113) (v := 32) v128
  have v130 := AV_pi (a := (x + 8)) (k := 114) (v := 114) v129
  have v131 := AV_pi (a := (x + 8)) (k := 115) (v := 101) v130
  have v132 := AV_pi (a := (x + 8)) (k := 116) (v := 99) v131
  have v133 := AV_pi (a := (x + 8)) (k := 117) (v := 97) v132
  have v134 := AV_pi (a := (x + 8)) (k := 118) (v := 108) v133
  have v135 := AV_pi (a := (x + 8)) (k := 119) (v := 108) v134
  have v136 := AV_pi (a := (x + 8)) (k := 120) (v := 32) v135
  have v137 := AV_pi (a := (x + 8)) (k := 121) (v := 116) v136
  have v138 := AV_pi (a := (x + 8)) (k := 122) (v := 97) v137
  have v139 := AV_pi (a := (x + 8)) (k := 123) (v := 112) v138
  have v140 := AV_pi (a := (x + 8)) (k := 124) (v := 32) v139
  have v141 := AV_pt (a := x) (k := 18) v140 (AV_in (z := (x + 8)) v140 (by omega) (by omega))
  have v142 := AV_nw v141
  have v143 := AV_pt (a := x) (k := 19) v142 (AV_in (z := (x + 9)) v142 (by omega) (by omega))
  have v144 := AV_nw v143
  have v145 := AV_pt (a := x) (k := 20) v144 (AV_in (z := (x + 10)) v144 (by omega) (by omega))
  have v146 := AV_nw v145
  have v147 := AV_pt (a := x) (k := 21) v146 (AV_in (z := (x + 11)) v146 (by omega) (by omega))
  have v148 := AV_nw v147
  have v149 := AV_pt (a := x) (k := 22) v148 (AV_in (z := (x + 12)) v148 (by omega) (by omega))
  have v150 := AV_nw v149
  have v151 := AV_pt (a := x) (k := 23) v150 (AV_in (z := (x + 13)) v150 (by omega) (by omega))
  have v152 := AV_nw v151
  have v153 := AV_pt (a := x) (k := 24) v152 (AV_in (z := (x + 14)) v152 (by omega) (by omega))
  have v154 := AV_nw v153
  have v155 := AV_pt (a := x) (k := 25) v154 (AV_in (z := (x + 15)) v154 (by omega) (by omega))
  have v156 := AV_nw v155
  have v157 := AV_pt (a := x) (k := 29) v156 (AV_in (z := (x + 16)) v156 (by omega) (by omega))
  have v158 := AV_pi (a := x) (k := 34) (v := (-1)) v157
  have v159 := AV_nw v158
  have v160 := AV_pt (a := x) (k := 36) v159 (AV_in (z := (x + 17)) v159 (by omega) (by omega))
  have v161 := AV_nw v160
  have v162 := AV_pt (a := x) (k := 38) v161 (AV_in (z := (x + 18)) v161 (by omega) (by omega))
  have v163 := AV_nw v162
  have v164 := AV_pt (a := x) (k := 39) v163 (AV_in (z := (x + 19)) v163 (by omega) (by omega))
  have v165 := AV_nw v164
  have v166 := AV_pt (a := x) (k := 40) v165 (AV_in (z := (x + 20)) v165 (by omega) (by omega))
  have v167 := AV_nw v166
  have v168 := AV_pt (a := x) (k := 44) v167 (AV_in (z := (x + 21)) v167 (by omega) (by omega))
  have v169 := AV_nw v168
  have v170 := AV_pt (a := x) (k := 46) v169 (AV_in (z := (x + 22)) v169 (by omega) (by omega))
  have v171 := AV_nw v170
  have v172 := AV_pt (a := x) (k := 48) v171 (AV_in (z := (x + 23)) v171 (by omega) (by omega))
  have v173 := AV_nw v172
  have v174 := AV_pt (a := x) (k := 49) v173 (AV_in (z := (x + 24)) v173 (by omega) (by omega))
  have v175 := AV_nw v174
  have v176 := AV_pt (a := x) (k := 50) v175 (AV_in (z := (x + 25)) v175 (by omega) (by omega))
  have v177 := AV_nw v176
  have v178 := AV_pt (a := x) (k := 51) v177 (AV_in (z := (x + 26)) v177 (by omega) (by omega))
  have v179 := AV_nw v178
  have v180 := AV_pt (a := x) (k := 52) v179 (AV_in (z := (x + 27)) v179 (by omega) (by omega))
  have v181 := AV_nw v180
  have v182 := AV_pt (a := x) (k := 56) v181 (AV_in (z := (x + 28)) v181 (by omega) (by omega))
  refine ⟨?_, v182⟩
  refine zMt_of (by decide +kernel) rfl (Nat.le_of_ble_eq_true rfl) ?_
  show ZW _ _ _ _ _ _ _ _ _ 0 0 0 [some (.ref x)] [] M none _
  refine ZW_sm (pc' := 1) (ls' := [some (.ref x)]) (st' := [.ref x]) (s_aload_n rfl (dk_X12_init_0 (0, .aload_n 0, 1) (List.mem_of_getElem? (i := 0) rfl))) (fun _ => rfl) ?_
  refine Z_obj cm_RX12_1 cb_oi cb_oc (by decide) (dk_X12_init_0 (1, .invokespecial 1, 3) (List.mem_of_getElem? (i := 1) rfl)) ?_
  refine ZW_sm (pc' := 5) (ls' := [some (.ref x)]) (st' := [.ref x]) (s_aload_n rfl (dk_X12_init_0 (4, .aload_n 0, 1) (List.mem_of_getElem? (i := 2) rfl))) (fun _ => rfl) ?_
  refine ZW_sm (pc' := 8) (ls' := [some (.ref x)]) (st' := [.int 148, .ref x]) (s_sipush (v := 148) (by decide) (dk_X12_init_0 (5, .sipush 148, 3) (List.mem_of_getElem? (i := 3) rfl))) (fun _ => rfl) ?_
  refine Z_nwI (a := (x + 1)) (n := 148) hS.2.1 (by decide) (by decide) (by decide) (AV_fr v0 hf (by omega) (by omega)) (AV_fr v0 hf (by omega) (by omega)) (by omega) (AV_cl v0) ⟨by omega, trivial⟩ ⟨by omega, trivial⟩ cb_ai ⟨by decide, by decide⟩ (dk_X12_init_0 (8, .newarray .int, 2) (List.mem_of_getElem? (i := 4) rfl)) ?_
  refine Z_ptR (AV_in v1 (by omega) (by omega)) hS.1 (by decide) (by decide) rfl (Or.inr ⟨rfl, rfl, rfl⟩) (fun _ => rfl) (fun _ => rfl) cf_RX12_7 (dk_X12_init_0 (10, .putfield 7, 3) (List.mem_of_getElem? (i := 5) rfl)) ?_
  refine ZW_sm (pc' := 14) (ls' := [some (.ref x)]) (st' := [.ref x]) (s_aload_n rfl (dk_X12_init_0 (13, .aload_n 0, 1) (List.mem_of_getElem? (i := 6) rfl))) (fun _ => rfl) ?_
  refine ZW_sm (pc' := 17) (ls' := [some (.ref x)]) (st' := [.int 888, .ref x]) (s_sipush (v := 888) (by decide) (dk_X12_init_0 (14, .sipush 888, 3) (List.mem_of_getElem? (i := 7) rfl))) (fun _ => rfl) ?_
  refine Z_nwI (a := (x + 2)) (n := 888) hS.2.2.1 (by decide) (by decide) (by decide) (AV_fr v2 hf (by omega) (by omega)) (AV_fr v0 hf (by omega) (by omega)) (by omega) (AV_cl v2) ⟨by omega, trivial⟩ ⟨by omega, trivial⟩ cb_ai ⟨by decide, by decide⟩ (dk_X12_init_0 (17, .newarray .int, 2) (List.mem_of_getElem? (i := 8) rfl)) ?_
  refine Z_ptR (AV_in v3 (by omega) (by omega)) hS.1 (by decide) (by decide) rfl (Or.inr ⟨rfl, rfl, rfl⟩) (fun _ => rfl) (fun _ => rfl) cf_RX12_13 (dk_X12_init_0 (19, .putfield 13, 3) (List.mem_of_getElem? (i := 9) rfl)) ?_
  refine ZW_sm (pc' := 23) (ls' := [some (.ref x)]) (st' := [.ref x]) (s_aload_n rfl (dk_X12_init_0 (22, .aload_n 0, 1) (List.mem_of_getElem? (i := 10) rfl))) (fun _ => rfl) ?_
  refine ZW_sm (pc' := 26) (ls' := [some (.ref x)]) (st' := [.int 148, .ref x]) (s_sipush (v := 148) (by decide) (dk_X12_init_0 (23, .sipush 148, 3) (List.mem_of_getElem? (i := 11) rfl))) (fun _ => rfl) ?_
  refine Z_nwI (a := (x + 3)) (n := 148) hS.2.2.2.1 (by decide) (by decide) (by decide) (AV_fr v4 hf (by omega) (by omega)) (AV_fr v0 hf (by omega) (by omega)) (by omega) (AV_cl v4) ⟨by omega, trivial⟩ ⟨by omega, trivial⟩ cb_ai ⟨by decide, by decide⟩ (dk_X12_init_0 (26, .newarray .int, 2) (List.mem_of_getElem? (i := 12) rfl)) ?_
  refine Z_ptR (AV_in v5 (by omega) (by omega)) hS.1 (by decide) (by decide) rfl (Or.inr ⟨rfl, rfl, rfl⟩) (fun _ => rfl) (fun _ => rfl) cf_RX12_16 (dk_X12_init_0 (28, .putfield 16, 3) (List.mem_of_getElem? (i := 13) rfl)) ?_
  refine ZW_sm (pc' := 32) (ls' := [some (.ref x)]) (st' := [.ref x]) (s_aload_n rfl (dk_X12_init_0 (31, .aload_n 0, 1) (List.mem_of_getElem? (i := 14) rfl))) (fun _ => rfl) ?_
  refine ZW_sm (pc' := 34) (ls' := [some (.ref x)]) (st' := [.int 10, .ref x]) (s_bipush (v := 10) (by decide) (dk_X12_init_0 (32, .bipush 10, 2) (List.mem_of_getElem? (i := 15) rfl))) (fun _ => rfl) ?_
  refine Z_nwI (a := (x + 4)) (n := 10) hS.2.2.2.2.1 (by decide) (by decide) (by decide) (AV_fr v6 hf (by omega) (by omega)) (AV_fr v0 hf (by omega) (by omega)) (by omega) (AV_cl v6) ⟨by omega, trivial⟩ ⟨by omega, trivial⟩ cb_ai ⟨by decide, by decide⟩ (dk_X12_init_0 (34, .newarray .int, 2) (List.mem_of_getElem? (i := 16) rfl)) ?_
  refine Z_ptR (AV_in v7 (by omega) (by omega)) hS.1 (by decide) (by decide) rfl (Or.inr ⟨rfl, rfl, rfl⟩) (fun _ => rfl) (fun _ => rfl) cf_RX12_19 (dk_X12_init_0 (36, .putfield 19, 3) (List.mem_of_getElem? (i := 17) rfl)) ?_
  refine ZW_sm (pc' := 40) (ls' := [some (.ref x)]) (st' := [.ref x]) (s_aload_n rfl (dk_X12_init_0 (39, .aload_n 0, 1) (List.mem_of_getElem? (i := 18) rfl))) (fun _ => rfl) ?_
  refine ZW_sm (pc' := 42) (ls' := [some (.ref x)]) (st' := [.int 10, .ref x]) (s_bipush (v := 10) (by decide) (dk_X12_init_0 (40, .bipush 10, 2) (List.mem_of_getElem? (i := 19) rfl))) (fun _ => rfl) ?_
  refine Z_nwI (a := (x + 5)) (n := 10) hS.2.2.2.2.2.1 (by decide) (by decide) (by decide) (AV_fr v8 hf (by omega) (by omega)) (AV_fr v0 hf (by omega) (by omega)) (by omega) (AV_cl v8) ⟨by omega, trivial⟩ ⟨by omega, trivial⟩ cb_ai ⟨by decide, by decide⟩ (dk_X12_init_0 (42, .newarray .int, 2) (List.mem_of_getElem? (i := 20) rfl)) ?_
  refine Z_ptR (AV_in v9 (by omega) (by omega)) hS.1 (by decide) (by decide) rfl (Or.inr ⟨rfl, rfl, rfl⟩) (fun _ => rfl) (fun _ => rfl) cf_RX12_22 (dk_X12_init_0 (44, .putfield 22, 3) (List.mem_of_getElem? (i := 21) rfl)) ?_
  refine ZW_sm (pc' := 48) (ls' := [some (.ref x)]) (st' := [.ref x]) (s_aload_n rfl (dk_X12_init_0 (47, .aload_n 0, 1) (List.mem_of_getElem? (i := 22) rfl))) (fun _ => rfl) ?_
  refine ZW_sm (pc' := 51) (ls' := [some (.ref x)]) (st' := [.int 600, .ref x]) (s_sipush (v := 600) (by decide) (dk_X12_init_0 (48, .sipush 600, 3) (List.mem_of_getElem? (i := 23) rfl))) (fun _ => rfl) ?_
  refine Z_nwI (a := (x + 6)) (n := 600) hS.2.2.2.2.2.2.1 (by decide) (by decide) (by decide) (AV_fr v10 hf (by omega) (by omega)) (AV_fr v0 hf (by omega) (by omega)) (by omega) (AV_cl v10) ⟨by omega, trivial⟩ ⟨by omega, trivial⟩ cb_ai ⟨by decide, by decide⟩ (dk_X12_init_0 (51, .newarray .int, 2) (List.mem_of_getElem? (i := 24) rfl)) ?_
  refine Z_ptR (AV_in v11 (by omega) (by omega)) hS.1 (by decide) (by decide) rfl (Or.inr ⟨rfl, rfl, rfl⟩) (fun _ => rfl) (fun _ => rfl) cf_RX12_25 (dk_X12_init_1 (53, .putfield 25, 3) (List.mem_of_getElem? (i := 0) rfl)) ?_
  refine ZW_sm (pc' := 57) (ls' := [some (.ref x)]) (st' := [.ref x]) (s_aload_n rfl (dk_X12_init_1 (56, .aload_n 0, 1) (List.mem_of_getElem? (i := 1) rfl))) (fun _ => rfl) ?_
  refine ZW_sm (pc' := 60) (ls' := [some (.ref x)]) (st' := [.int 400, .ref x]) (s_sipush (v := 400) (by decide) (dk_X12_init_1 (57, .sipush 400, 3) (List.mem_of_getElem? (i := 2) rfl))) (fun _ => rfl) ?_
  refine Z_nwI (a := (x + 7)) (n := 400) hS.2.2.2.2.2.2.2.1 (by decide) (by decide) (by decide) (AV_fr v12 hf (by omega) (by omega)) (AV_fr v0 hf (by omega) (by omega)) (by omega) (AV_cl v12) ⟨by omega, trivial⟩ ⟨by omega, trivial⟩ cb_ai ⟨by decide, by decide⟩ (dk_X12_init_1 (60, .newarray .int, 2) (List.mem_of_getElem? (i := 3) rfl)) ?_
  refine Z_ptR (AV_in v13 (by omega) (by omega)) hS.1 (by decide) (by decide) rfl (Or.inr ⟨rfl, rfl, rfl⟩) (fun _ => rfl) (fun _ => rfl) cf_RX12_28 (dk_X12_init_1 (62, .putfield 28, 3) (List.mem_of_getElem? (i := 4) rfl)) ?_
  refine ZW_sm (pc' := 66) (ls' := [some (.ref x)]) (st' := [.ref x]) (s_aload_n rfl (dk_X12_init_1 (65, .aload_n 0, 1) (List.mem_of_getElem? (i := 5) rfl))) (fun _ => rfl) ?_
  refine ZW_sm (pc' := 68) (ls' := [some (.ref x)]) (st' := [.int 125, .ref x]) (s_bipush (v := 125) (by decide) (dk_X12_init_1 (66, .bipush 125, 2) (List.mem_of_getElem? (i := 6) rfl))) (fun _ => rfl) ?_
  refine Z_nwI (a := (x + 8)) (n := 125) hS.2.2.2.2.2.2.2.2.1 (by decide) (by decide) (by decide) (AV_fr v14 hf (by omega) (by omega)) (AV_fr v0 hf (by omega) (by omega)) (by omega) (AV_cl v14) ⟨by omega, trivial⟩ ⟨by omega, trivial⟩ cb_ai ⟨by decide, by decide⟩ (dk_X12_init_1 (68, .newarray .int, 2) (List.mem_of_getElem? (i := 7) rfl)) ?_
  refine ZW_sm (pc' := 71) (ls' := [some (.ref x)]) (st' := [.ref (x + 8), .ref (x + 8), .ref x]) (s_dup (dk_X12_init_1 (70, .dup, 1) (List.mem_of_getElem? (i := 8) rfl))) (fun _ => rfl) ?_
  refine ZW_sm (pc' := 72) (ls' := [some (.ref x)]) (st' := [.int 0, .ref (x + 8), .ref (x + 8), .ref x]) (s_iconst (v := 0) (by decide) (dk_X12_init_1 (71, .iconst 0, 1) (List.mem_of_getElem? (i := 9) rfl))) (fun _ => rfl) ?_
  refine ZW_sm (pc' := 74) (ls' := [some (.ref x)]) (st' := [.int 32, .int 0, .ref (x + 8), .ref (x + 8), .ref x]) (s_bipush (v := 32) (by decide) (dk_X12_init_1 (72, .bipush 32, 2) (List.mem_of_getElem? (i := 10) rfl))) (fun _ => rfl) ?_
  refine Z_iasK (AV_in v15 (by omega) (by omega)) hS.2.2.2.2.2.2.2.2.1 (zb_in (by decide)) (j := 0) (by decide) (dk_X12_init_1 (74, .iastore, 1) (List.mem_of_getElem? (i := 11) rfl)) ?_
  refine ZW_sm (pc' := 76) (ls' := [some (.ref x)]) (st' := [.ref (x + 8), .ref (x + 8), .ref x]) (s_dup (dk_X12_init_1 (75, .dup, 1) (List.mem_of_getElem? (i := 12) rfl))) (fun _ => rfl) ?_
  refine ZW_sm (pc' := 77) (ls' := [some (.ref x)]) (st' := [.int 1, .ref (x + 8), .ref (x + 8), .ref x]) (s_iconst (v := 1) (by decide) (dk_X12_init_1 (76, .iconst 1, 1) (List.mem_of_getElem? (i := 13) rfl))) (fun _ => rfl) ?_
  refine ZW_sm (pc' := 79) (ls' := [some (.ref x)]) (st' := [.int 116, .int 1, .ref (x + 8), .ref (x + 8), .ref x]) (s_bipush (v := 116) (by decide) (dk_X12_init_1 (77, .bipush 116, 2) (List.mem_of_getElem? (i := 14) rfl))) (fun _ => rfl) ?_
  refine Z_iasK (AV_in v16 (by omega) (by omega)) hS.2.2.2.2.2.2.2.2.1 (zb_in (by decide)) (j := 1) (by decide) (dk_X12_init_1 (79, .iastore, 1) (List.mem_of_getElem? (i := 15) rfl)) ?_
  refine ZW_sm (pc' := 81) (ls' := [some (.ref x)]) (st' := [.ref (x + 8), .ref (x + 8), .ref x]) (s_dup (dk_X12_init_1 (80, .dup, 1) (List.mem_of_getElem? (i := 16) rfl))) (fun _ => rfl) ?_
  refine ZW_sm (pc' := 82) (ls' := [some (.ref x)]) (st' := [.int 2, .ref (x + 8), .ref (x + 8), .ref x]) (s_iconst (v := 2) (by decide) (dk_X12_init_1 (81, .iconst 2, 1) (List.mem_of_getElem? (i := 17) rfl))) (fun _ => rfl) ?_
  refine ZW_sm (pc' := 84) (ls' := [some (.ref x)]) (st' := [.int 101, .int 2, .ref (x + 8), .ref (x + 8), .ref x]) (s_bipush (v := 101) (by decide) (dk_X12_init_1 (82, .bipush 101, 2) (List.mem_of_getElem? (i := 18) rfl))) (fun _ => rfl) ?_
  refine Z_iasK (AV_in v17 (by omega) (by omega)) hS.2.2.2.2.2.2.2.2.1 (zb_in (by decide)) (j := 2) (by decide) (dk_X12_init_1 (84, .iastore, 1) (List.mem_of_getElem? (i := 19) rfl)) ?_
  refine ZW_sm (pc' := 86) (ls' := [some (.ref x)]) (st' := [.ref (x + 8), .ref (x + 8), .ref x]) (s_dup (dk_X12_init_1 (85, .dup, 1) (List.mem_of_getElem? (i := 20) rfl))) (fun _ => rfl) ?_
  refine ZW_sm (pc' := 87) (ls' := [some (.ref x)]) (st' := [.int 3, .ref (x + 8), .ref (x + 8), .ref x]) (s_iconst (v := 3) (by decide) (dk_X12_init_1 (86, .iconst 3, 1) (List.mem_of_getElem? (i := 21) rfl))) (fun _ => rfl) ?_
  refine ZW_sm (pc' := 89) (ls' := [some (.ref x)]) (st' := [.int 108, .int 3, .ref (x + 8), .ref (x + 8), .ref x]) (s_bipush (v := 108) (by decide) (dk_X12_init_1 (87, .bipush 108, 2) (List.mem_of_getElem? (i := 22) rfl))) (fun _ => rfl) ?_
  refine Z_iasK (AV_in v18 (by omega) (by omega)) hS.2.2.2.2.2.2.2.2.1 (zb_in (by decide)) (j := 3) (by decide) (dk_X12_init_1 (89, .iastore, 1) (List.mem_of_getElem? (i := 23) rfl)) ?_
  refine ZW_sm (pc' := 91) (ls' := [some (.ref x)]) (st' := [.ref (x + 8), .ref (x + 8), .ref x]) (s_dup (dk_X12_init_1 (90, .dup, 1) (List.mem_of_getElem? (i := 24) rfl))) (fun _ => rfl) ?_
  refine ZW_sm (pc' := 92) (ls' := [some (.ref x)]) (st' := [.int 4, .ref (x + 8), .ref (x + 8), .ref x]) (s_iconst (v := 4) (by decide) (dk_X12_init_2 (91, .iconst 4, 1) (List.mem_of_getElem? (i := 0) rfl))) (fun _ => rfl) ?_
  refine ZW_sm (pc' := 94) (ls' := [some (.ref x)]) (st' := [.int 108, .int 4, .ref (x + 8), .ref (x + 8), .ref x]) (s_bipush (v := 108) (by decide) (dk_X12_init_2 (92, .bipush 108, 2) (List.mem_of_getElem? (i := 1) rfl))) (fun _ => rfl) ?_
  refine Z_iasK (AV_in v19 (by omega) (by omega)) hS.2.2.2.2.2.2.2.2.1 (zb_in (by decide)) (j := 4) (by decide) (dk_X12_init_2 (94, .iastore, 1) (List.mem_of_getElem? (i := 2) rfl)) ?_
  refine ZW_sm (pc' := 96) (ls' := [some (.ref x)]) (st' := [.ref (x + 8), .ref (x + 8), .ref x]) (s_dup (dk_X12_init_2 (95, .dup, 1) (List.mem_of_getElem? (i := 3) rfl))) (fun _ => rfl) ?_
  refine ZW_sm (pc' := 97) (ls' := [some (.ref x)]) (st' := [.int 5, .ref (x + 8), .ref (x + 8), .ref x]) (s_iconst (v := 5) (by decide) (dk_X12_init_2 (96, .iconst 5, 1) (List.mem_of_getElem? (i := 4) rfl))) (fun _ => rfl) ?_
  refine ZW_sm (pc' := 99) (ls' := [some (.ref x)]) (st' := [.int 32, .int 5, .ref (x + 8), .ref (x + 8), .ref x]) (s_bipush (v := 32) (by decide) (dk_X12_init_2 (97, .bipush 32, 2) (List.mem_of_getElem? (i := 5) rfl))) (fun _ => rfl) ?_
  refine Z_iasK (AV_in v20 (by omega) (by omega)) hS.2.2.2.2.2.2.2.2.1 (zb_in (by decide)) (j := 5) (by decide) (dk_X12_init_2 (99, .iastore, 1) (List.mem_of_getElem? (i := 6) rfl)) ?_
  refine ZW_sm (pc' := 101) (ls' := [some (.ref x)]) (st' := [.ref (x + 8), .ref (x + 8), .ref x]) (s_dup (dk_X12_init_2 (100, .dup, 1) (List.mem_of_getElem? (i := 7) rfl))) (fun _ => rfl) ?_
  refine ZW_sm (pc' := 103) (ls' := [some (.ref x)]) (st' := [.int 6, .ref (x + 8), .ref (x + 8), .ref x]) (s_bipush (v := 6) (by decide) (dk_X12_init_2 (101, .bipush 6, 2) (List.mem_of_getElem? (i := 8) rfl))) (fun _ => rfl) ?_
  refine ZW_sm (pc' := 105) (ls' := [some (.ref x)]) (st' := [.int 101, .int 6, .ref (x + 8), .ref (x + 8), .ref x]) (s_bipush (v := 101) (by decide) (dk_X12_init_2 (103, .bipush 101, 2) (List.mem_of_getElem? (i := 9) rfl))) (fun _ => rfl) ?_
  refine Z_iasK (AV_in v21 (by omega) (by omega)) hS.2.2.2.2.2.2.2.2.1 (zb_in (by decide)) (j := 6) (by decide) (dk_X12_init_2 (105, .iastore, 1) (List.mem_of_getElem? (i := 10) rfl)) ?_
  refine ZW_sm (pc' := 107) (ls' := [some (.ref x)]) (st' := [.ref (x + 8), .ref (x + 8), .ref x]) (s_dup (dk_X12_init_2 (106, .dup, 1) (List.mem_of_getElem? (i := 11) rfl))) (fun _ => rfl) ?_
  refine ZW_sm (pc' := 109) (ls' := [some (.ref x)]) (st' := [.int 7, .ref (x + 8), .ref (x + 8), .ref x]) (s_bipush (v := 7) (by decide) (dk_X12_init_2 (107, .bipush 7, 2) (List.mem_of_getElem? (i := 12) rfl))) (fun _ => rfl) ?_
  refine ZW_sm (pc' := 111) (ls' := [some (.ref x)]) (st' := [.int 114, .int 7, .ref (x + 8), .ref (x + 8), .ref x]) (s_bipush (v := 114) (by decide) (dk_X12_init_2 (109, .bipush 114, 2) (List.mem_of_getElem? (i := 13) rfl))) (fun _ => rfl) ?_
  refine Z_iasK (AV_in v22 (by omega) (by omega)) hS.2.2.2.2.2.2.2.2.1 (zb_in (by decide)) (j := 7) (by decide) (dk_X12_init_2 (111, .iastore, 1) (List.mem_of_getElem? (i := 14) rfl)) ?_
  refine ZW_sm (pc' := 113) (ls' := [some (.ref x)]) (st' := [.ref (x + 8), .ref (x + 8), .ref x]) (s_dup (dk_X12_init_2 (112, .dup, 1) (List.mem_of_getElem? (i := 15) rfl))) (fun _ => rfl) ?_
  refine ZW_sm (pc' := 115) (ls' := [some (.ref x)]) (st' := [.int 8, .ref (x + 8), .ref (x + 8), .ref x]) (s_bipush (v := 8) (by decide) (dk_X12_init_2 (113, .bipush 8, 2) (List.mem_of_getElem? (i := 16) rfl))) (fun _ => rfl) ?_
  refine ZW_sm (pc' := 117) (ls' := [some (.ref x)]) (st' := [.int 114, .int 8, .ref (x + 8), .ref (x + 8), .ref x]) (s_bipush (v := 114) (by decide) (dk_X12_init_2 (115, .bipush 114, 2) (List.mem_of_getElem? (i := 17) rfl))) (fun _ => rfl) ?_
  refine Z_iasK (AV_in v23 (by omega) (by omega)) hS.2.2.2.2.2.2.2.2.1 (zb_in (by decide)) (j := 8) (by decide) (dk_X12_init_2 (117, .iastore, 1) (List.mem_of_getElem? (i := 18) rfl)) ?_
  refine ZW_sm (pc' := 119) (ls' := [some (.ref x)]) (st' := [.ref (x + 8), .ref (x + 8), .ref x]) (s_dup (dk_X12_init_2 (118, .dup, 1) (List.mem_of_getElem? (i := 19) rfl))) (fun _ => rfl) ?_
  refine ZW_sm (pc' := 121) (ls' := [some (.ref x)]) (st' := [.int 9, .ref (x + 8), .ref (x + 8), .ref x]) (s_bipush (v := 9) (by decide) (dk_X12_init_2 (119, .bipush 9, 2) (List.mem_of_getElem? (i := 20) rfl))) (fun _ => rfl) ?_
  refine ZW_sm (pc' := 123) (ls' := [some (.ref x)]) (st' := [.int 32, .int 9, .ref (x + 8), .ref (x + 8), .ref x]) (s_bipush (v := 32) (by decide) (dk_X12_init_2 (121, .bipush 32, 2) (List.mem_of_getElem? (i := 21) rfl))) (fun _ => rfl) ?_
  refine Z_iasK (AV_in v24 (by omega) (by omega)) hS.2.2.2.2.2.2.2.2.1 (zb_in (by decide)) (j := 9) (by decide) (dk_X12_init_2 (123, .iastore, 1) (List.mem_of_getElem? (i := 22) rfl)) ?_
  refine ZW_sm (pc' := 125) (ls' := [some (.ref x)]) (st' := [.ref (x + 8), .ref (x + 8), .ref x]) (s_dup (dk_X12_init_2 (124, .dup, 1) (List.mem_of_getElem? (i := 23) rfl))) (fun _ => rfl) ?_
  refine ZW_sm (pc' := 127) (ls' := [some (.ref x)]) (st' := [.int 10, .ref (x + 8), .ref (x + 8), .ref x]) (s_bipush (v := 10) (by decide) (dk_X12_init_2 (125, .bipush 10, 2) (List.mem_of_getElem? (i := 24) rfl))) (fun _ => rfl) ?_
  refine ZW_sm (pc' := 129) (ls' := [some (.ref x)]) (st' := [.int 98, .int 10, .ref (x + 8), .ref (x + 8), .ref x]) (s_bipush (v := 98) (by decide) (dk_X12_init_3 (127, .bipush 98, 2) (List.mem_of_getElem? (i := 0) rfl))) (fun _ => rfl) ?_
  refine Z_iasK (AV_in v25 (by omega) (by omega)) hS.2.2.2.2.2.2.2.2.1 (zb_in (by decide)) (j := 10) (by decide) (dk_X12_init_3 (129, .iastore, 1) (List.mem_of_getElem? (i := 1) rfl)) ?_
  refine ZW_sm (pc' := 131) (ls' := [some (.ref x)]) (st' := [.ref (x + 8), .ref (x + 8), .ref x]) (s_dup (dk_X12_init_3 (130, .dup, 1) (List.mem_of_getElem? (i := 2) rfl))) (fun _ => rfl) ?_
  refine ZW_sm (pc' := 133) (ls' := [some (.ref x)]) (st' := [.int 11, .ref (x + 8), .ref (x + 8), .ref x]) (s_bipush (v := 11) (by decide) (dk_X12_init_3 (131, .bipush 11, 2) (List.mem_of_getElem? (i := 3) rfl))) (fun _ => rfl) ?_
  refine ZW_sm (pc' := 135) (ls' := [some (.ref x)]) (st' := [.int 108, .int 11, .ref (x + 8), .ref (x + 8), .ref x]) (s_bipush (v := 108) (by decide) (dk_X12_init_3 (133, .bipush 108, 2) (List.mem_of_getElem? (i := 4) rfl))) (fun _ => rfl) ?_
  refine Z_iasK (AV_in v26 (by omega) (by omega)) hS.2.2.2.2.2.2.2.2.1 (zb_in (by decide)) (j := 11) (by decide) (dk_X12_init_3 (135, .iastore, 1) (List.mem_of_getElem? (i := 5) rfl)) ?_
  refine ZW_sm (pc' := 137) (ls' := [some (.ref x)]) (st' := [.ref (x + 8), .ref (x + 8), .ref x]) (s_dup (dk_X12_init_3 (136, .dup, 1) (List.mem_of_getElem? (i := 6) rfl))) (fun _ => rfl) ?_
  refine ZW_sm (pc' := 139) (ls' := [some (.ref x)]) (st' := [.int 12, .ref (x + 8), .ref (x + 8), .ref x]) (s_bipush (v := 12) (by decide) (dk_X12_init_3 (137, .bipush 12, 2) (List.mem_of_getElem? (i := 7) rfl))) (fun _ => rfl) ?_
  refine ZW_sm (pc' := 141) (ls' := [some (.ref x)]) (st' := [.int 97, .int 12, .ref (x + 8), .ref (x + 8), .ref x]) (s_bipush (v := 97) (by decide) (dk_X12_init_3 (139, .bipush 97, 2) (List.mem_of_getElem? (i := 8) rfl))) (fun _ => rfl) ?_
  refine Z_iasK (AV_in v27 (by omega) (by omega)) hS.2.2.2.2.2.2.2.2.1 (zb_in (by decide)) (j := 12) (by decide) (dk_X12_init_3 (141, .iastore, 1) (List.mem_of_getElem? (i := 9) rfl)) ?_
  refine ZW_sm (pc' := 143) (ls' := [some (.ref x)]) (st' := [.ref (x + 8), .ref (x + 8), .ref x]) (s_dup (dk_X12_init_3 (142, .dup, 1) (List.mem_of_getElem? (i := 10) rfl))) (fun _ => rfl) ?_
  refine ZW_sm (pc' := 145) (ls' := [some (.ref x)]) (st' := [.int 13, .ref (x + 8), .ref (x + 8), .ref x]) (s_bipush (v := 13) (by decide) (dk_X12_init_3 (143, .bipush 13, 2) (List.mem_of_getElem? (i := 11) rfl))) (fun _ => rfl) ?_
  refine ZW_sm (pc' := 147) (ls' := [some (.ref x)]) (st' := [.int 109, .int 13, .ref (x + 8), .ref (x + 8), .ref x]) (s_bipush (v := 109) (by decide) (dk_X12_init_3 (145, .bipush 109, 2) (List.mem_of_getElem? (i := 12) rfl))) (fun _ => rfl) ?_
  refine Z_iasK (AV_in v28 (by omega) (by omega)) hS.2.2.2.2.2.2.2.2.1 (zb_in (by decide)) (j := 13) (by decide) (dk_X12_init_3 (147, .iastore, 1) (List.mem_of_getElem? (i := 13) rfl)) ?_
  refine ZW_sm (pc' := 149) (ls' := [some (.ref x)]) (st' := [.ref (x + 8), .ref (x + 8), .ref x]) (s_dup (dk_X12_init_3 (148, .dup, 1) (List.mem_of_getElem? (i := 14) rfl))) (fun _ => rfl) ?_
  refine ZW_sm (pc' := 151) (ls' := [some (.ref x)]) (st' := [.int 14, .ref (x + 8), .ref (x + 8), .ref x]) (s_bipush (v := 14) (by decide) (dk_X12_init_3 (149, .bipush 14, 2) (List.mem_of_getElem? (i := 15) rfl))) (fun _ => rfl) ?_
  refine ZW_sm (pc' := 153) (ls' := [some (.ref x)]) (st' := [.int 101, .int 14, .ref (x + 8), .ref (x + 8), .ref x]) (s_bipush (v := 101) (by decide) (dk_X12_init_3 (151, .bipush 101, 2) (List.mem_of_getElem? (i := 16) rfl))) (fun _ => rfl) ?_
  refine Z_iasK (AV_in v29 (by omega) (by omega)) hS.2.2.2.2.2.2.2.2.1 (zb_in (by decide)) (j := 14) (by decide) (dk_X12_init_3 (153, .iastore, 1) (List.mem_of_getElem? (i := 17) rfl)) ?_
  refine ZW_sm (pc' := 155) (ls' := [some (.ref x)]) (st' := [.ref (x + 8), .ref (x + 8), .ref x]) (s_dup (dk_X12_init_3 (154, .dup, 1) (List.mem_of_getElem? (i := 18) rfl))) (fun _ => rfl) ?_
  refine ZW_sm (pc' := 157) (ls' := [some (.ref x)]) (st' := [.int 15, .ref (x + 8), .ref (x + 8), .ref x]) (s_bipush (v := 15) (by decide) (dk_X12_init_3 (155, .bipush 15, 2) (List.mem_of_getElem? (i := 19) rfl))) (fun _ => rfl) ?_
  refine ZW_sm (pc' := 159) (ls' := [some (.ref x)]) (st' := [.int 32, .int 15, .ref (x + 8), .ref (x + 8), .ref x]) (s_bipush (v := 32) (by decide) (dk_X12_init_3 (157, .bipush 32, 2) (List.mem_of_getElem? (i := 20) rfl))) (fun _ => rfl) ?_
  refine Z_iasK (AV_in v30 (by omega) (by omega)) hS.2.2.2.2.2.2.2.2.1 (zb_in (by decide)) (j := 15) (by decide) (dk_X12_init_3 (159, .iastore, 1) (List.mem_of_getElem? (i := 21) rfl)) ?_
  refine ZW_sm (pc' := 161) (ls' := [some (.ref x)]) (st' := [.ref (x + 8), .ref (x + 8), .ref x]) (s_dup (dk_X12_init_3 (160, .dup, 1) (List.mem_of_getElem? (i := 22) rfl))) (fun _ => rfl) ?_
  refine ZW_sm (pc' := 163) (ls' := [some (.ref x)]) (st' := [.int 16, .ref (x + 8), .ref (x + 8), .ref x]) (s_bipush (v := 16) (by decide) (dk_X12_init_3 (161, .bipush 16, 2) (List.mem_of_getElem? (i := 23) rfl))) (fun _ => rfl) ?_
  refine ZW_sm (pc' := 165) (ls' := [some (.ref x)]) (st' := [.int 119, .int 16, .ref (x + 8), .ref (x + 8), .ref x]) (s_bipush (v := 119) (by decide) (dk_X12_init_3 (163, .bipush 119, 2) (List.mem_of_getElem? (i := 24) rfl))) (fun _ => rfl) ?_
  refine Z_iasK (AV_in v31 (by omega) (by omega)) hS.2.2.2.2.2.2.2.2.1 (zb_in (by decide)) (j := 16) (by decide) (dk_X12_init_4 (165, .iastore, 1) (List.mem_of_getElem? (i := 0) rfl)) ?_
  refine ZW_sm (pc' := 167) (ls' := [some (.ref x)]) (st' := [.ref (x + 8), .ref (x + 8), .ref x]) (s_dup (dk_X12_init_4 (166, .dup, 1) (List.mem_of_getElem? (i := 1) rfl))) (fun _ => rfl) ?_
  refine ZW_sm (pc' := 169) (ls' := [some (.ref x)]) (st' := [.int 17, .ref (x + 8), .ref (x + 8), .ref x]) (s_bipush (v := 17) (by decide) (dk_X12_init_4 (167, .bipush 17, 2) (List.mem_of_getElem? (i := 2) rfl))) (fun _ => rfl) ?_
  refine ZW_sm (pc' := 171) (ls' := [some (.ref x)]) (st' := [.int 104, .int 17, .ref (x + 8), .ref (x + 8), .ref x]) (s_bipush (v := 104) (by decide) (dk_X12_init_4 (169, .bipush 104, 2) (List.mem_of_getElem? (i := 3) rfl))) (fun _ => rfl) ?_
  refine Z_iasK (AV_in v32 (by omega) (by omega)) hS.2.2.2.2.2.2.2.2.1 (zb_in (by decide)) (j := 17) (by decide) (dk_X12_init_4 (171, .iastore, 1) (List.mem_of_getElem? (i := 4) rfl)) ?_
  refine ZW_sm (pc' := 173) (ls' := [some (.ref x)]) (st' := [.ref (x + 8), .ref (x + 8), .ref x]) (s_dup (dk_X12_init_4 (172, .dup, 1) (List.mem_of_getElem? (i := 5) rfl))) (fun _ => rfl) ?_
  refine ZW_sm (pc' := 175) (ls' := [some (.ref x)]) (st' := [.int 18, .ref (x + 8), .ref (x + 8), .ref x]) (s_bipush (v := 18) (by decide) (dk_X12_init_4 (173, .bipush 18, 2) (List.mem_of_getElem? (i := 6) rfl))) (fun _ => rfl) ?_
  refine ZW_sm (pc' := 177) (ls' := [some (.ref x)]) (st' := [.int 101, .int 18, .ref (x + 8), .ref (x + 8), .ref x]) (s_bipush (v := 101) (by decide) (dk_X12_init_4 (175, .bipush 101, 2) (List.mem_of_getElem? (i := 7) rfl))) (fun _ => rfl) ?_
  refine Z_iasK (AV_in v33 (by omega) (by omega)) hS.2.2.2.2.2.2.2.2.1 (zb_in (by decide)) (j := 18) (by decide) (dk_X12_init_4 (177, .iastore, 1) (List.mem_of_getElem? (i := 8) rfl)) ?_
  refine ZW_sm (pc' := 179) (ls' := [some (.ref x)]) (st' := [.ref (x + 8), .ref (x + 8), .ref x]) (s_dup (dk_X12_init_4 (178, .dup, 1) (List.mem_of_getElem? (i := 9) rfl))) (fun _ => rfl) ?_
  refine ZW_sm (pc' := 181) (ls' := [some (.ref x)]) (st' := [.int 19, .ref (x + 8), .ref (x + 8), .ref x]) (s_bipush (v := 19) (by decide) (dk_X12_init_4 (179, .bipush 19, 2) (List.mem_of_getElem? (i := 10) rfl))) (fun _ => rfl) ?_
  refine ZW_sm (pc' := 183) (ls' := [some (.ref x)]) (st' := [.int 110, .int 19, .ref (x + 8), .ref (x + 8), .ref x]) (s_bipush (v := 110) (by decide) (dk_X12_init_4 (181, .bipush 110, 2) (List.mem_of_getElem? (i := 11) rfl))) (fun _ => rfl) ?_
  refine Z_iasK (AV_in v34 (by omega) (by omega)) hS.2.2.2.2.2.2.2.2.1 (zb_in (by decide)) (j := 19) (by decide) (dk_X12_init_4 (183, .iastore, 1) (List.mem_of_getElem? (i := 12) rfl)) ?_
  refine ZW_sm (pc' := 185) (ls' := [some (.ref x)]) (st' := [.ref (x + 8), .ref (x + 8), .ref x]) (s_dup (dk_X12_init_4 (184, .dup, 1) (List.mem_of_getElem? (i := 13) rfl))) (fun _ => rfl) ?_
  refine ZW_sm (pc' := 187) (ls' := [some (.ref x)]) (st' := [.int 20, .ref (x + 8), .ref (x + 8), .ref x]) (s_bipush (v := 20) (by decide) (dk_X12_init_4 (185, .bipush 20, 2) (List.mem_of_getElem? (i := 14) rfl))) (fun _ => rfl) ?_
  refine ZW_sm (pc' := 189) (ls' := [some (.ref x)]) (st' := [.int 32, .int 20, .ref (x + 8), .ref (x + 8), .ref x]) (s_bipush (v := 32) (by decide) (dk_X12_init_4 (187, .bipush 32, 2) (List.mem_of_getElem? (i := 15) rfl))) (fun _ => rfl) ?_
  refine Z_iasK (AV_in v35 (by omega) (by omega)) hS.2.2.2.2.2.2.2.2.1 (zb_in (by decide)) (j := 20) (by decide) (dk_X12_init_4 (189, .iastore, 1) (List.mem_of_getElem? (i := 16) rfl)) ?_
  refine ZW_sm (pc' := 191) (ls' := [some (.ref x)]) (st' := [.ref (x + 8), .ref (x + 8), .ref x]) (s_dup (dk_X12_init_4 (190, .dup, 1) (List.mem_of_getElem? (i := 17) rfl))) (fun _ => rfl) ?_
  refine ZW_sm (pc' := 193) (ls' := [some (.ref x)]) (st' := [.int 21, .ref (x + 8), .ref (x + 8), .ref x]) (s_bipush (v := 21) (by decide) (dk_X12_init_4 (191, .bipush 21, 2) (List.mem_of_getElem? (i := 18) rfl))) (fun _ => rfl) ?_
  refine ZW_sm (pc' := 195) (ls' := [some (.ref x)]) (st' := [.int 111, .int 21, .ref (x + 8), .ref (x + 8), .ref x]) (s_bipush (v := 111) (by decide) (dk_X12_init_4 (193, .bipush 111, 2) (List.mem_of_getElem? (i := 19) rfl))) (fun _ => rfl) ?_
  refine Z_iasK (AV_in v36 (by omega) (by omega)) hS.2.2.2.2.2.2.2.2.1 (zb_in (by decide)) (j := 21) (by decide) (dk_X12_init_4 (195, .iastore, 1) (List.mem_of_getElem? (i := 20) rfl)) ?_
  refine ZW_sm (pc' := 197) (ls' := [some (.ref x)]) (st' := [.ref (x + 8), .ref (x + 8), .ref x]) (s_dup (dk_X12_init_4 (196, .dup, 1) (List.mem_of_getElem? (i := 21) rfl))) (fun _ => rfl) ?_
  refine ZW_sm (pc' := 199) (ls' := [some (.ref x)]) (st' := [.int 22, .ref (x + 8), .ref (x + 8), .ref x]) (s_bipush (v := 22) (by decide) (dk_X12_init_4 (197, .bipush 22, 2) (List.mem_of_getElem? (i := 22) rfl))) (fun _ => rfl) ?_
  refine ZW_sm (pc' := 201) (ls' := [some (.ref x)]) (st' := [.int 114, .int 22, .ref (x + 8), .ref (x + 8), .ref x]) (s_bipush (v := 114) (by decide) (dk_X12_init_4 (199, .bipush 114, 2) (List.mem_of_getElem? (i := 23) rfl))) (fun _ => rfl) ?_
  refine Z_iasK (AV_in v37 (by omega) (by omega)) hS.2.2.2.2.2.2.2.2.1 (zb_in (by decide)) (j := 22) (by decide) (dk_X12_init_4 (201, .iastore, 1) (List.mem_of_getElem? (i := 24) rfl)) ?_
  refine ZW_sm (pc' := 203) (ls' := [some (.ref x)]) (st' := [.ref (x + 8), .ref (x + 8), .ref x]) (s_dup (dk_X12_init_5 (202, .dup, 1) (List.mem_of_getElem? (i := 0) rfl))) (fun _ => rfl) ?_
  refine ZW_sm (pc' := 205) (ls' := [some (.ref x)]) (st' := [.int 23, .ref (x + 8), .ref (x + 8), .ref x]) (s_bipush (v := 23) (by decide) (dk_X12_init_5 (203, .bipush 23, 2) (List.mem_of_getElem? (i := 1) rfl))) (fun _ => rfl) ?_
  refine ZW_sm (pc' := 207) (ls' := [some (.ref x)]) (st' := [.int 32, .int 23, .ref (x + 8), .ref (x + 8), .ref x]) (s_bipush (v := 32) (by decide) (dk_X12_init_5 (205, .bipush 32, 2) (List.mem_of_getElem? (i := 2) rfl))) (fun _ => rfl) ?_
  refine Z_iasK (AV_in v38 (by omega) (by omega)) hS.2.2.2.2.2.2.2.2.1 (zb_in (by decide)) (j := 23) (by decide) (dk_X12_init_5 (207, .iastore, 1) (List.mem_of_getElem? (i := 3) rfl)) ?_
  refine ZW_sm (pc' := 209) (ls' := [some (.ref x)]) (st' := [.ref (x + 8), .ref (x + 8), .ref x]) (s_dup (dk_X12_init_5 (208, .dup, 1) (List.mem_of_getElem? (i := 4) rfl))) (fun _ => rfl) ?_
  refine ZW_sm (pc' := 211) (ls' := [some (.ref x)]) (st' := [.int 24, .ref (x + 8), .ref (x + 8), .ref x]) (s_bipush (v := 24) (by decide) (dk_X12_init_5 (209, .bipush 24, 2) (List.mem_of_getElem? (i := 5) rfl))) (fun _ => rfl) ?_
  refine ZW_sm (pc' := 213) (ls' := [some (.ref x)]) (st' := [.int 97, .int 24, .ref (x + 8), .ref (x + 8), .ref x]) (s_bipush (v := 97) (by decide) (dk_X12_init_5 (211, .bipush 97, 2) (List.mem_of_getElem? (i := 6) rfl))) (fun _ => rfl) ?_
  refine Z_iasK (AV_in v39 (by omega) (by omega)) hS.2.2.2.2.2.2.2.2.1 (zb_in (by decide)) (j := 24) (by decide) (dk_X12_init_5 (213, .iastore, 1) (List.mem_of_getElem? (i := 7) rfl)) ?_
  refine ZW_sm (pc' := 215) (ls' := [some (.ref x)]) (st' := [.ref (x + 8), .ref (x + 8), .ref x]) (s_dup (dk_X12_init_5 (214, .dup, 1) (List.mem_of_getElem? (i := 8) rfl))) (fun _ => rfl) ?_
  refine ZW_sm (pc' := 217) (ls' := [some (.ref x)]) (st' := [.int 25, .ref (x + 8), .ref (x + 8), .ref x]) (s_bipush (v := 25) (by decide) (dk_X12_init_5 (215, .bipush 25, 2) (List.mem_of_getElem? (i := 9) rfl))) (fun _ => rfl) ?_
  refine ZW_sm (pc' := 219) (ls' := [some (.ref x)]) (st' := [.int 110, .int 25, .ref (x + 8), .ref (x + 8), .ref x]) (s_bipush (v := 110) (by decide) (dk_X12_init_5 (217, .bipush 110, 2) (List.mem_of_getElem? (i := 10) rfl))) (fun _ => rfl) ?_
  refine Z_iasK (AV_in v40 (by omega) (by omega)) hS.2.2.2.2.2.2.2.2.1 (zb_in (by decide)) (j := 25) (by decide) (dk_X12_init_5 (219, .iastore, 1) (List.mem_of_getElem? (i := 11) rfl)) ?_
  refine ZW_sm (pc' := 221) (ls' := [some (.ref x)]) (st' := [.ref (x + 8), .ref (x + 8), .ref x]) (s_dup (dk_X12_init_5 (220, .dup, 1) (List.mem_of_getElem? (i := 12) rfl))) (fun _ => rfl) ?_
  refine ZW_sm (pc' := 223) (ls' := [some (.ref x)]) (st' := [.int 26, .ref (x + 8), .ref (x + 8), .ref x]) (s_bipush (v := 26) (by decide) (dk_X12_init_5 (221, .bipush 26, 2) (List.mem_of_getElem? (i := 13) rfl))) (fun _ => rfl) ?_
  refine ZW_sm (pc' := 225) (ls' := [some (.ref x)]) (st' := [.int 100, .int 26, .ref (x + 8), .ref (x + 8), .ref x]) (s_bipush (v := 100) (by decide) (dk_X12_init_5 (223, .bipush 100, 2) (List.mem_of_getElem? (i := 14) rfl))) (fun _ => rfl) ?_
  refine Z_iasK (AV_in v41 (by omega) (by omega)) hS.2.2.2.2.2.2.2.2.1 (zb_in (by decide)) (j := 26) (by decide) (dk_X12_init_5 (225, .iastore, 1) (List.mem_of_getElem? (i := 15) rfl)) ?_
  refine ZW_sm (pc' := 227) (ls' := [some (.ref x)]) (st' := [.ref (x + 8), .ref (x + 8), .ref x]) (s_dup (dk_X12_init_5 (226, .dup, 1) (List.mem_of_getElem? (i := 16) rfl))) (fun _ => rfl) ?_
  refine ZW_sm (pc' := 229) (ls' := [some (.ref x)]) (st' := [.int 27, .ref (x + 8), .ref (x + 8), .ref x]) (s_bipush (v := 27) (by decide) (dk_X12_init_5 (227, .bipush 27, 2) (List.mem_of_getElem? (i := 17) rfl))) (fun _ => rfl) ?_
  refine ZW_sm (pc' := 231) (ls' := [some (.ref x)]) (st' := [.int 32, .int 27, .ref (x + 8), .ref (x + 8), .ref x]) (s_bipush (v := 32) (by decide) (dk_X12_init_5 (229, .bipush 32, 2) (List.mem_of_getElem? (i := 18) rfl))) (fun _ => rfl) ?_
  refine Z_iasK (AV_in v42 (by omega) (by omega)) hS.2.2.2.2.2.2.2.2.1 (zb_in (by decide)) (j := 27) (by decide) (dk_X12_init_5 (231, .iastore, 1) (List.mem_of_getElem? (i := 19) rfl)) ?_
  refine ZW_sm (pc' := 233) (ls' := [some (.ref x)]) (st' := [.ref (x + 8), .ref (x + 8), .ref x]) (s_dup (dk_X12_init_5 (232, .dup, 1) (List.mem_of_getElem? (i := 20) rfl))) (fun _ => rfl) ?_
  refine ZW_sm (pc' := 235) (ls' := [some (.ref x)]) (st' := [.int 28, .ref (x + 8), .ref (x + 8), .ref x]) (s_bipush (v := 28) (by decide) (dk_X12_init_5 (233, .bipush 28, 2) (List.mem_of_getElem? (i := 21) rfl))) (fun _ => rfl) ?_
  refine ZW_sm (pc' := 237) (ls' := [some (.ref x)]) (st' := [.int 110, .int 28, .ref (x + 8), .ref (x + 8), .ref x]) (s_bipush (v := 110) (by decide) (dk_X12_init_5 (235, .bipush 110, 2) (List.mem_of_getElem? (i := 22) rfl))) (fun _ => rfl) ?_
  refine Z_iasK (AV_in v43 (by omega) (by omega)) hS.2.2.2.2.2.2.2.2.1 (zb_in (by decide)) (j := 28) (by decide) (dk_X12_init_5 (237, .iastore, 1) (List.mem_of_getElem? (i := 23) rfl)) ?_
  refine ZW_sm (pc' := 239) (ls' := [some (.ref x)]) (st' := [.ref (x + 8), .ref (x + 8), .ref x]) (s_dup (dk_X12_init_5 (238, .dup, 1) (List.mem_of_getElem? (i := 24) rfl))) (fun _ => rfl) ?_
  refine ZW_sm (pc' := 241) (ls' := [some (.ref x)]) (st' := [.int 29, .ref (x + 8), .ref (x + 8), .ref x]) (s_bipush (v := 29) (by decide) (dk_X12_init_6 (239, .bipush 29, 2) (List.mem_of_getElem? (i := 0) rfl))) (fun _ => rfl) ?_
  refine ZW_sm (pc' := 243) (ls' := [some (.ref x)]) (st' := [.int 111, .int 29, .ref (x + 8), .ref (x + 8), .ref x]) (s_bipush (v := 111) (by decide) (dk_X12_init_6 (241, .bipush 111, 2) (List.mem_of_getElem? (i := 1) rfl))) (fun _ => rfl) ?_
  refine Z_iasK (AV_in v44 (by omega) (by omega)) hS.2.2.2.2.2.2.2.2.1 (zb_in (by decide)) (j := 29) (by decide) (dk_X12_init_6 (243, .iastore, 1) (List.mem_of_getElem? (i := 2) rfl)) ?_
  refine ZW_sm (pc' := 245) (ls' := [some (.ref x)]) (st' := [.ref (x + 8), .ref (x + 8), .ref x]) (s_dup (dk_X12_init_6 (244, .dup, 1) (List.mem_of_getElem? (i := 3) rfl))) (fun _ => rfl) ?_
  refine ZW_sm (pc' := 247) (ls' := [some (.ref x)]) (st' := [.int 30, .ref (x + 8), .ref (x + 8), .ref x]) (s_bipush (v := 30) (by decide) (dk_X12_init_6 (245, .bipush 30, 2) (List.mem_of_getElem? (i := 4) rfl))) (fun _ => rfl) ?_
  refine ZW_sm (pc' := 249) (ls' := [some (.ref x)]) (st' := [.int 116, .int 30, .ref (x + 8), .ref (x + 8), .ref x]) (s_bipush (v := 116) (by decide) (dk_X12_init_6 (247, .bipush 116, 2) (List.mem_of_getElem? (i := 5) rfl))) (fun _ => rfl) ?_
  refine Z_iasK (AV_in v45 (by omega) (by omega)) hS.2.2.2.2.2.2.2.2.1 (zb_in (by decide)) (j := 30) (by decide) (dk_X12_init_6 (249, .iastore, 1) (List.mem_of_getElem? (i := 6) rfl)) ?_
  refine ZW_sm (pc' := 251) (ls' := [some (.ref x)]) (st' := [.ref (x + 8), .ref (x + 8), .ref x]) (s_dup (dk_X12_init_6 (250, .dup, 1) (List.mem_of_getElem? (i := 7) rfl))) (fun _ => rfl) ?_
  refine ZW_sm (pc' := 253) (ls' := [some (.ref x)]) (st' := [.int 31, .ref (x + 8), .ref (x + 8), .ref x]) (s_bipush (v := 31) (by decide) (dk_X12_init_6 (251, .bipush 31, 2) (List.mem_of_getElem? (i := 8) rfl))) (fun _ => rfl) ?_
  refine ZW_sm (pc' := 255) (ls' := [some (.ref x)]) (st' := [.int 32, .int 31, .ref (x + 8), .ref (x + 8), .ref x]) (s_bipush (v := 32) (by decide) (dk_X12_init_6 (253, .bipush 32, 2) (List.mem_of_getElem? (i := 9) rfl))) (fun _ => rfl) ?_
  refine Z_iasK (AV_in v46 (by omega) (by omega)) hS.2.2.2.2.2.2.2.2.1 (zb_in (by decide)) (j := 31) (by decide) (dk_X12_init_6 (255, .iastore, 1) (List.mem_of_getElem? (i := 10) rfl)) ?_
  refine ZW_sm (pc' := 257) (ls' := [some (.ref x)]) (st' := [.ref (x + 8), .ref (x + 8), .ref x]) (s_dup (dk_X12_init_6 (256, .dup, 1) (List.mem_of_getElem? (i := 11) rfl))) (fun _ => rfl) ?_
  refine ZW_sm (pc' := 259) (ls' := [some (.ref x)]) (st' := [.int 32, .ref (x + 8), .ref (x + 8), .ref x]) (s_bipush (v := 32) (by decide) (dk_X12_init_6 (257, .bipush 32, 2) (List.mem_of_getElem? (i := 12) rfl))) (fun _ => rfl) ?_
  refine ZW_sm (pc' := 261) (ls' := [some (.ref x)]) (st' := [.int 115, .int 32, .ref (x + 8), .ref (x + 8), .ref x]) (s_bipush (v := 115) (by decide) (dk_X12_init_6 (259, .bipush 115, 2) (List.mem_of_getElem? (i := 13) rfl))) (fun _ => rfl) ?_
  refine Z_iasK (AV_in v47 (by omega) (by omega)) hS.2.2.2.2.2.2.2.2.1 (zb_in (by decide)) (j := 32) (by decide) (dk_X12_init_6 (261, .iastore, 1) (List.mem_of_getElem? (i := 14) rfl)) ?_
  refine ZW_sm (pc' := 263) (ls' := [some (.ref x)]) (st' := [.ref (x + 8), .ref (x + 8), .ref x]) (s_dup (dk_X12_init_6 (262, .dup, 1) (List.mem_of_getElem? (i := 15) rfl))) (fun _ => rfl) ?_
  refine ZW_sm (pc' := 265) (ls' := [some (.ref x)]) (st' := [.int 33, .ref (x + 8), .ref (x + 8), .ref x]) (s_bipush (v := 33) (by decide) (dk_X12_init_6 (263, .bipush 33, 2) (List.mem_of_getElem? (i := 16) rfl))) (fun _ => rfl) ?_
  refine ZW_sm (pc' := 267) (ls' := [some (.ref x)]) (st' := [.int 111, .int 33, .ref (x + 8), .ref (x + 8), .ref x]) (s_bipush (v := 111) (by decide) (dk_X12_init_6 (265, .bipush 111, 2) (List.mem_of_getElem? (i := 17) rfl))) (fun _ => rfl) ?_
  refine Z_iasK (AV_in v48 (by omega) (by omega)) hS.2.2.2.2.2.2.2.2.1 (zb_in (by decide)) (j := 33) (by decide) (dk_X12_init_6 (267, .iastore, 1) (List.mem_of_getElem? (i := 18) rfl)) ?_
  refine ZW_sm (pc' := 269) (ls' := [some (.ref x)]) (st' := [.ref (x + 8), .ref (x + 8), .ref x]) (s_dup (dk_X12_init_6 (268, .dup, 1) (List.mem_of_getElem? (i := 19) rfl))) (fun _ => rfl) ?_
  refine ZW_sm (pc' := 271) (ls' := [some (.ref x)]) (st' := [.int 34, .ref (x + 8), .ref (x + 8), .ref x]) (s_bipush (v := 34) (by decide) (dk_X12_init_6 (269, .bipush 34, 2) (List.mem_of_getElem? (i := 20) rfl))) (fun _ => rfl) ?_
  refine ZW_sm (pc' := 273) (ls' := [some (.ref x)]) (st' := [.int 114, .int 34, .ref (x + 8), .ref (x + 8), .ref x]) (s_bipush (v := 114) (by decide) (dk_X12_init_6 (271, .bipush 114, 2) (List.mem_of_getElem? (i := 21) rfl))) (fun _ => rfl) ?_
  refine Z_iasK (AV_in v49 (by omega) (by omega)) hS.2.2.2.2.2.2.2.2.1 (zb_in (by decide)) (j := 34) (by decide) (dk_X12_init_6 (273, .iastore, 1) (List.mem_of_getElem? (i := 22) rfl)) ?_
  refine ZW_sm (pc' := 275) (ls' := [some (.ref x)]) (st' := [.ref (x + 8), .ref (x + 8), .ref x]) (s_dup (dk_X12_init_6 (274, .dup, 1) (List.mem_of_getElem? (i := 23) rfl))) (fun _ => rfl) ?_
  refine ZW_sm (pc' := 277) (ls' := [some (.ref x)]) (st' := [.int 35, .ref (x + 8), .ref (x + 8), .ref x]) (s_bipush (v := 35) (by decide) (dk_X12_init_6 (275, .bipush 35, 2) (List.mem_of_getElem? (i := 24) rfl))) (fun _ => rfl) ?_
  refine ZW_sm (pc' := 279) (ls' := [some (.ref x)]) (st' := [.int 116, .int 35, .ref (x + 8), .ref (x + 8), .ref x]) (s_bipush (v := 116) (by decide) (dk_X12_init_7 (277, .bipush 116, 2) (List.mem_of_getElem? (i := 0) rfl))) (fun _ => rfl) ?_
  refine Z_iasK (AV_in v50 (by omega) (by omega)) hS.2.2.2.2.2.2.2.2.1 (zb_in (by decide)) (j := 35) (by decide) (dk_X12_init_7 (279, .iastore, 1) (List.mem_of_getElem? (i := 1) rfl)) ?_
  refine ZW_sm (pc' := 281) (ls' := [some (.ref x)]) (st' := [.ref (x + 8), .ref (x + 8), .ref x]) (s_dup (dk_X12_init_7 (280, .dup, 1) (List.mem_of_getElem? (i := 2) rfl))) (fun _ => rfl) ?_
  refine ZW_sm (pc' := 283) (ls' := [some (.ref x)]) (st' := [.int 36, .ref (x + 8), .ref (x + 8), .ref x]) (s_bipush (v := 36) (by decide) (dk_X12_init_7 (281, .bipush 36, 2) (List.mem_of_getElem? (i := 3) rfl))) (fun _ => rfl) ?_
  refine ZW_sm (pc' := 285) (ls' := [some (.ref x)]) (st' := [.int 32, .int 36, .ref (x + 8), .ref (x + 8), .ref x]) (s_bipush (v := 32) (by decide) (dk_X12_init_7 (283, .bipush 32, 2) (List.mem_of_getElem? (i := 4) rfl))) (fun _ => rfl) ?_
  refine Z_iasK (AV_in v51 (by omega) (by omega)) hS.2.2.2.2.2.2.2.2.1 (zb_in (by decide)) (j := 36) (by decide) (dk_X12_init_7 (285, .iastore, 1) (List.mem_of_getElem? (i := 5) rfl)) ?_
  refine ZW_sm (pc' := 287) (ls' := [some (.ref x)]) (st' := [.ref (x + 8), .ref (x + 8), .ref x]) (s_dup (dk_X12_init_7 (286, .dup, 1) (List.mem_of_getElem? (i := 6) rfl))) (fun _ => rfl) ?_
  refine ZW_sm (pc' := 289) (ls' := [some (.ref x)]) (st' := [.int 37, .ref (x + 8), .ref (x + 8), .ref x]) (s_bipush (v := 37) (by decide) (dk_X12_init_7 (287, .bipush 37, 2) (List.mem_of_getElem? (i := 7) rfl))) (fun _ => rfl) ?_
  refine ZW_sm (pc' := 291) (ls' := [some (.ref x)]) (st' := [.int 102, .int 37, .ref (x + 8), .ref (x + 8), .ref x]) (s_bipush (v := 102) (by decide) (dk_X12_init_7 (289, .bipush 102, 2) (List.mem_of_getElem? (i := 8) rfl))) (fun _ => rfl) ?_
  refine Z_iasK (AV_in v52 (by omega) (by omega)) hS.2.2.2.2.2.2.2.2.1 (zb_in (by decide)) (j := 37) (by decide) (dk_X12_init_7 (291, .iastore, 1) (List.mem_of_getElem? (i := 9) rfl)) ?_
  refine ZW_sm (pc' := 293) (ls' := [some (.ref x)]) (st' := [.ref (x + 8), .ref (x + 8), .ref x]) (s_dup (dk_X12_init_7 (292, .dup, 1) (List.mem_of_getElem? (i := 10) rfl))) (fun _ => rfl) ?_
  refine ZW_sm (pc' := 295) (ls' := [some (.ref x)]) (st' := [.int 38, .ref (x + 8), .ref (x + 8), .ref x]) (s_bipush (v := 38) (by decide) (dk_X12_init_7 (293, .bipush 38, 2) (List.mem_of_getElem? (i := 11) rfl))) (fun _ => rfl) ?_
  refine ZW_sm (pc' := 297) (ls' := [some (.ref x)]) (st' := [.int 101, .int 38, .ref (x + 8), .ref (x + 8), .ref x]) (s_bipush (v := 101) (by decide) (dk_X12_init_7 (295, .bipush 101, 2) (List.mem_of_getElem? (i := 12) rfl))) (fun _ => rfl) ?_
  refine Z_iasK (AV_in v53 (by omega) (by omega)) hS.2.2.2.2.2.2.2.2.1 (zb_in (by decide)) (j := 38) (by decide) (dk_X12_init_7 (297, .iastore, 1) (List.mem_of_getElem? (i := 13) rfl)) ?_
  refine ZW_sm (pc' := 299) (ls' := [some (.ref x)]) (st' := [.ref (x + 8), .ref (x + 8), .ref x]) (s_dup (dk_X12_init_7 (298, .dup, 1) (List.mem_of_getElem? (i := 14) rfl))) (fun _ => rfl) ?_
  refine ZW_sm (pc' := 301) (ls' := [some (.ref x)]) (st' := [.int 39, .ref (x + 8), .ref (x + 8), .ref x]) (s_bipush (v := 39) (by decide) (dk_X12_init_7 (299, .bipush 39, 2) (List.mem_of_getElem? (i := 15) rfl))) (fun _ => rfl) ?_
  refine ZW_sm (pc' := 303) (ls' := [some (.ref x)]) (st' := [.int 97, .int 39, .ref (x + 8), .ref (x + 8), .ref x]) (s_bipush (v := 97) (by decide) (dk_X12_init_7 (301, .bipush 97, 2) (List.mem_of_getElem? (i := 16) rfl))) (fun _ => rfl) ?_
  refine Z_iasK (AV_in v54 (by omega) (by omega)) hS.2.2.2.2.2.2.2.2.1 (zb_in (by decide)) (j := 39) (by decide) (dk_X12_init_7 (303, .iastore, 1) (List.mem_of_getElem? (i := 17) rfl)) ?_
  refine ZW_sm (pc' := 305) (ls' := [some (.ref x)]) (st' := [.ref (x + 8), .ref (x + 8), .ref x]) (s_dup (dk_X12_init_7 (304, .dup, 1) (List.mem_of_getElem? (i := 18) rfl))) (fun _ => rfl) ?_
  refine ZW_sm (pc' := 307) (ls' := [some (.ref x)]) (st' := [.int 40, .ref (x + 8), .ref (x + 8), .ref x]) (s_bipush (v := 40) (by decide) (dk_X12_init_7 (305, .bipush 40, 2) (List.mem_of_getElem? (i := 19) rfl))) (fun _ => rfl) ?_
  refine ZW_sm (pc' := 309) (ls' := [some (.ref x)]) (st' := [.int 114, .int 40, .ref (x + 8), .ref (x + 8), .ref x]) (s_bipush (v := 114) (by decide) (dk_X12_init_7 (307, .bipush 114, 2) (List.mem_of_getElem? (i := 20) rfl))) (fun _ => rfl) ?_
  refine Z_iasK (AV_in v55 (by omega) (by omega)) hS.2.2.2.2.2.2.2.2.1 (zb_in (by decide)) (j := 40) (by decide) (dk_X12_init_7 (309, .iastore, 1) (List.mem_of_getElem? (i := 21) rfl)) ?_
  refine ZW_sm (pc' := 311) (ls' := [some (.ref x)]) (st' := [.ref (x + 8), .ref (x + 8), .ref x]) (s_dup (dk_X12_init_7 (310, .dup, 1) (List.mem_of_getElem? (i := 22) rfl))) (fun _ => rfl) ?_
  refine ZW_sm (pc' := 313) (ls' := [some (.ref x)]) (st' := [.int 41, .ref (x + 8), .ref (x + 8), .ref x]) (s_bipush (v := 41) (by decide) (dk_X12_init_7 (311, .bipush 41, 2) (List.mem_of_getElem? (i := 23) rfl))) (fun _ => rfl) ?_
  refine ZW_sm (pc' := 315) (ls' := [some (.ref x)]) (st' := [.int 32, .int 41, .ref (x + 8), .ref (x + 8), .ref x]) (s_bipush (v := 32) (by decide) (dk_X12_init_7 (313, .bipush 32, 2) (List.mem_of_getElem? (i := 24) rfl))) (fun _ => rfl) ?_
  refine Z_iasK (AV_in v56 (by omega) (by omega)) hS.2.2.2.2.2.2.2.2.1 (zb_in (by decide)) (j := 41) (by decide) (dk_X12_init_8 (315, .iastore, 1) (List.mem_of_getElem? (i := 0) rfl)) ?_
  refine ZW_sm (pc' := 317) (ls' := [some (.ref x)]) (st' := [.ref (x + 8), .ref (x + 8), .ref x]) (s_dup (dk_X12_init_8 (316, .dup, 1) (List.mem_of_getElem? (i := 1) rfl))) (fun _ => rfl) ?_
  refine ZW_sm (pc' := 319) (ls' := [some (.ref x)]) (st' := [.int 42, .ref (x + 8), .ref (x + 8), .ref x]) (s_bipush (v := 42) (by decide) (dk_X12_init_8 (317, .bipush 42, 2) (List.mem_of_getElem? (i := 2) rfl))) (fun _ => rfl) ?_
  refine ZW_sm (pc' := 321) (ls' := [some (.ref x)]) (st' := [.int 98, .int 42, .ref (x + 8), .ref (x + 8), .ref x]) (s_bipush (v := 98) (by decide) (dk_X12_init_8 (319, .bipush 98, 2) (List.mem_of_getElem? (i := 3) rfl))) (fun _ => rfl) ?_
  refine Z_iasK (AV_in v57 (by omega) (by omega)) hS.2.2.2.2.2.2.2.2.1 (zb_in (by decide)) (j := 42) (by decide) (dk_X12_init_8 (321, .iastore, 1) (List.mem_of_getElem? (i := 4) rfl)) ?_
  refine ZW_sm (pc' := 323) (ls' := [some (.ref x)]) (st' := [.ref (x + 8), .ref (x + 8), .ref x]) (s_dup (dk_X12_init_8 (322, .dup, 1) (List.mem_of_getElem? (i := 5) rfl))) (fun _ => rfl) ?_
  refine ZW_sm (pc' := 325) (ls' := [some (.ref x)]) (st' := [.int 43, .ref (x + 8), .ref (x + 8), .ref x]) (s_bipush (v := 43) (by decide) (dk_X12_init_8 (323, .bipush 43, 2) (List.mem_of_getElem? (i := 6) rfl))) (fun _ => rfl) ?_
  refine ZW_sm (pc' := 327) (ls' := [some (.ref x)]) (st' := [.int 114, .int 43, .ref (x + 8), .ref (x + 8), .ref x]) (s_bipush (v := 114) (by decide) (dk_X12_init_8 (325, .bipush 114, 2) (List.mem_of_getElem? (i := 7) rfl))) (fun _ => rfl) ?_
  refine Z_iasK (AV_in v58 (by omega) (by omega)) hS.2.2.2.2.2.2.2.2.1 (zb_in (by decide)) (j := 43) (by decide) (dk_X12_init_8 (327, .iastore, 1) (List.mem_of_getElem? (i := 8) rfl)) ?_
  refine ZW_sm (pc' := 329) (ls' := [some (.ref x)]) (st' := [.ref (x + 8), .ref (x + 8), .ref x]) (s_dup (dk_X12_init_8 (328, .dup, 1) (List.mem_of_getElem? (i := 9) rfl))) (fun _ => rfl) ?_
  refine ZW_sm (pc' := 331) (ls' := [some (.ref x)]) (st' := [.int 44, .ref (x + 8), .ref (x + 8), .ref x]) (s_bipush (v := 44) (by decide) (dk_X12_init_8 (329, .bipush 44, 2) (List.mem_of_getElem? (i := 10) rfl))) (fun _ => rfl) ?_
  refine ZW_sm (pc' := 333) (ls' := [some (.ref x)]) (st' := [.int 105, .int 44, .ref (x + 8), .ref (x + 8), .ref x]) (s_bipush (v := 105) (by decide) (dk_X12_init_8 (331, .bipush 105, 2) (List.mem_of_getElem? (i := 11) rfl))) (fun _ => rfl) ?_
  refine Z_iasK (AV_in v59 (by omega) (by omega)) hS.2.2.2.2.2.2.2.2.1 (zb_in (by decide)) (j := 44) (by decide) (dk_X12_init_8 (333, .iastore, 1) (List.mem_of_getElem? (i := 12) rfl)) ?_
  refine ZW_sm (pc' := 335) (ls' := [some (.ref x)]) (st' := [.ref (x + 8), .ref (x + 8), .ref x]) (s_dup (dk_X12_init_8 (334, .dup, 1) (List.mem_of_getElem? (i := 13) rfl))) (fun _ => rfl) ?_
  refine ZW_sm (pc' := 337) (ls' := [some (.ref x)]) (st' := [.int 45, .ref (x + 8), .ref (x + 8), .ref x]) (s_bipush (v := 45) (by decide) (dk_X12_init_8 (335, .bipush 45, 2) (List.mem_of_getElem? (i := 14) rfl))) (fun _ => rfl) ?_
  refine ZW_sm (pc' := 339) (ls' := [some (.ref x)]) (st' := [.int 98, .int 45, .ref (x + 8), .ref (x + 8), .ref x]) (s_bipush (v := 98) (by decide) (dk_X12_init_8 (337, .bipush 98, 2) (List.mem_of_getElem? (i := 15) rfl))) (fun _ => rfl) ?_
  refine Z_iasK (AV_in v60 (by omega) (by omega)) hS.2.2.2.2.2.2.2.2.1 (zb_in (by decide)) (j := 45) (by decide) (dk_X12_init_8 (339, .iastore, 1) (List.mem_of_getElem? (i := 16) rfl)) ?_
  refine ZW_sm (pc' := 341) (ls' := [some (.ref x)]) (st' := [.ref (x + 8), .ref (x + 8), .ref x]) (s_dup (dk_X12_init_8 (340, .dup, 1) (List.mem_of_getElem? (i := 17) rfl))) (fun _ => rfl) ?_
  refine ZW_sm (pc' := 343) (ls' := [some (.ref x)]) (st' := [.int 46, .ref (x + 8), .ref (x + 8), .ref x]) (s_bipush (v := 46) (by decide) (dk_X12_init_8 (341, .bipush 46, 2) (List.mem_of_getElem? (i := 18) rfl))) (fun _ => rfl) ?_
  refine ZW_sm (pc' := 345) (ls' := [some (.ref x)]) (st' := [.int 101, .int 46, .ref (x + 8), .ref (x + 8), .ref x]) (s_bipush (v := 101) (by decide) (dk_X12_init_8 (343, .bipush 101, 2) (List.mem_of_getElem? (i := 19) rfl))) (fun _ => rfl) ?_
  refine Z_iasK (AV_in v61 (by omega) (by omega)) hS.2.2.2.2.2.2.2.2.1 (zb_in (by decide)) (j := 46) (by decide) (dk_X12_init_8 (345, .iastore, 1) (List.mem_of_getElem? (i := 20) rfl)) ?_
  refine ZW_sm (pc' := 347) (ls' := [some (.ref x)]) (st' := [.ref (x + 8), .ref (x + 8), .ref x]) (s_dup (dk_X12_init_8 (346, .dup, 1) (List.mem_of_getElem? (i := 21) rfl))) (fun _ => rfl) ?_
  refine ZW_sm (pc' := 349) (ls' := [some (.ref x)]) (st' := [.int 47, .ref (x + 8), .ref (x + 8), .ref x]) (s_bipush (v := 47) (by decide) (dk_X12_init_8 (347, .bipush 47, 2) (List.mem_of_getElem? (i := 22) rfl))) (fun _ => rfl) ?_
  refine ZW_sm (pc' := 351) (ls' := [some (.ref x)]) (st' := [.int 32, .int 47, .ref (x + 8), .ref (x + 8), .ref x]) (s_bipush (v := 32) (by decide) (dk_X12_init_8 (349, .bipush 32, 2) (List.mem_of_getElem? (i := 23) rfl))) (fun _ => rfl) ?_
  refine Z_iasK (AV_in v62 (by omega) (by omega)) hS.2.2.2.2.2.2.2.2.1 (zb_in (by decide)) (j := 47) (by decide) (dk_X12_init_8 (351, .iastore, 1) (List.mem_of_getElem? (i := 24) rfl)) ?_
  refine ZW_sm (pc' := 353) (ls' := [some (.ref x)]) (st' := [.ref (x + 8), .ref (x + 8), .ref x]) (s_dup (dk_X12_init_9 (352, .dup, 1) (List.mem_of_getElem? (i := 0) rfl))) (fun _ => rfl) ?_
  refine ZW_sm (pc' := 355) (ls' := [some (.ref x)]) (st' := [.int 48, .ref (x + 8), .ref (x + 8), .ref x]) (s_bipush (v := 48) (by decide) (dk_X12_init_9 (353, .bipush 48, 2) (List.mem_of_getElem? (i := 1) rfl))) (fun _ => rfl) ?_
  refine ZW_sm (pc' := 357) (ls' := [some (.ref x)]) (st' := [.int 103, .int 48, .ref (x + 8), .ref (x + 8), .ref x]) (s_bipush (v := 103) (by decide) (dk_X12_init_9 (355, .bipush 103, 2) (List.mem_of_getElem? (i := 2) rfl))) (fun _ => rfl) ?_
  refine Z_iasK (AV_in v63 (by omega) (by omega)) hS.2.2.2.2.2.2.2.2.1 (zb_in (by decide)) (j := 48) (by decide) (dk_X12_init_9 (357, .iastore, 1) (List.mem_of_getElem? (i := 3) rfl)) ?_
  refine ZW_sm (pc' := 359) (ls' := [some (.ref x)]) (st' := [.ref (x + 8), .ref (x + 8), .ref x]) (s_dup (dk_X12_init_9 (358, .dup, 1) (List.mem_of_getElem? (i := 4) rfl))) (fun _ => rfl) ?_
  refine ZW_sm (pc' := 361) (ls' := [some (.ref x)]) (st' := [.int 49, .ref (x + 8), .ref (x + 8), .ref x]) (s_bipush (v := 49) (by decide) (dk_X12_init_9 (359, .bipush 49, 2) (List.mem_of_getElem? (i := 5) rfl))) (fun _ => rfl) ?_
  refine ZW_sm (pc' := 363) (ls' := [some (.ref x)]) (st' := [.int 108, .int 49, .ref (x + 8), .ref (x + 8), .ref x]) (s_bipush (v := 108) (by decide) (dk_X12_init_9 (361, .bipush 108, 2) (List.mem_of_getElem? (i := 6) rfl))) (fun _ => rfl) ?_
  refine Z_iasK (AV_in v64 (by omega) (by omega)) hS.2.2.2.2.2.2.2.2.1 (zb_in (by decide)) (j := 49) (by decide) (dk_X12_init_9 (363, .iastore, 1) (List.mem_of_getElem? (i := 7) rfl)) ?_
  refine ZW_sm (pc' := 365) (ls' := [some (.ref x)]) (st' := [.ref (x + 8), .ref (x + 8), .ref x]) (s_dup (dk_X12_init_9 (364, .dup, 1) (List.mem_of_getElem? (i := 8) rfl))) (fun _ => rfl) ?_
  refine ZW_sm (pc' := 367) (ls' := [some (.ref x)]) (st' := [.int 50, .ref (x + 8), .ref (x + 8), .ref x]) (s_bipush (v := 50) (by decide) (dk_X12_init_9 (365, .bipush 50, 2) (List.mem_of_getElem? (i := 9) rfl))) (fun _ => rfl) ?_
  refine ZW_sm (pc' := 369) (ls' := [some (.ref x)]) (st' := [.int 97, .int 50, .ref (x + 8), .ref (x + 8), .ref x]) (s_bipush (v := 97) (by decide) (dk_X12_init_9 (367, .bipush 97, 2) (List.mem_of_getElem? (i := 10) rfl))) (fun _ => rfl) ?_
  refine Z_iasK (AV_in v65 (by omega) (by omega)) hS.2.2.2.2.2.2.2.2.1 (zb_in (by decide)) (j := 50) (by decide) (dk_X12_init_9 (369, .iastore, 1) (List.mem_of_getElem? (i := 11) rfl)) ?_
  refine ZW_sm (pc' := 371) (ls' := [some (.ref x)]) (st' := [.ref (x + 8), .ref (x + 8), .ref x]) (s_dup (dk_X12_init_9 (370, .dup, 1) (List.mem_of_getElem? (i := 12) rfl))) (fun _ => rfl) ?_
  refine ZW_sm (pc' := 373) (ls' := [some (.ref x)]) (st' := [.int 51, .ref (x + 8), .ref (x + 8), .ref x]) (s_bipush (v := 51) (by decide) (dk_X12_init_9 (371, .bipush 51, 2) (List.mem_of_getElem? (i := 13) rfl))) (fun _ => rfl) ?_
  refine ZW_sm (pc' := 375) (ls' := [some (.ref x)]) (st' := [.int 115, .int 51, .ref (x + 8), .ref (x + 8), .ref x]) (s_bipush (v := 115) (by decide) (dk_X12_init_9 (373, .bipush 115, 2) (List.mem_of_getElem? (i := 14) rfl))) (fun _ => rfl) ?_
  refine Z_iasK (AV_in v66 (by omega) (by omega)) hS.2.2.2.2.2.2.2.2.1 (zb_in (by decide)) (j := 51) (by decide) (dk_X12_init_9 (375, .iastore, 1) (List.mem_of_getElem? (i := 15) rfl)) ?_
  refine ZW_sm (pc' := 377) (ls' := [some (.ref x)]) (st' := [.ref (x + 8), .ref (x + 8), .ref x]) (s_dup (dk_X12_init_9 (376, .dup, 1) (List.mem_of_getElem? (i := 16) rfl))) (fun _ => rfl) ?_
  refine ZW_sm (pc' := 379) (ls' := [some (.ref x)]) (st' := [.int 52, .ref (x + 8), .ref (x + 8), .ref x]) (s_bipush (v := 52) (by decide) (dk_X12_init_9 (377, .bipush 52, 2) (List.mem_of_getElem? (i := 17) rfl))) (fun _ => rfl) ?_
  refine ZW_sm (pc' := 381) (ls' := [some (.ref x)]) (st' := [.int 115, .int 52, .ref (x + 8), .ref (x + 8), .ref x]) (s_bipush (v := 115) (by decide) (dk_X12_init_9 (379, .bipush 115, 2) (List.mem_of_getElem? (i := 18) rfl))) (fun _ => rfl) ?_
  refine Z_iasK (AV_in v67 (by omega) (by omega)) hS.2.2.2.2.2.2.2.2.1 (zb_in (by decide)) (j := 52) (by decide) (dk_X12_init_9 (381, .iastore, 1) (List.mem_of_getElem? (i := 19) rfl)) ?_
  refine ZW_sm (pc' := 383) (ls' := [some (.ref x)]) (st' := [.ref (x + 8), .ref (x + 8), .ref x]) (s_dup (dk_X12_init_9 (382, .dup, 1) (List.mem_of_getElem? (i := 20) rfl))) (fun _ => rfl) ?_
  refine ZW_sm (pc' := 385) (ls' := [some (.ref x)]) (st' := [.int 53, .ref (x + 8), .ref (x + 8), .ref x]) (s_bipush (v := 53) (by decide) (dk_X12_init_9 (383, .bipush 53, 2) (List.mem_of_getElem? (i := 21) rfl))) (fun _ => rfl) ?_
  refine ZW_sm (pc' := 387) (ls' := [some (.ref x)]) (st' := [.int 32, .int 53, .ref (x + 8), .ref (x + 8), .ref x]) (s_bipush (v := 32) (by decide) (dk_X12_init_9 (385, .bipush 32, 2) (List.mem_of_getElem? (i := 22) rfl))) (fun _ => rfl) ?_
  refine Z_iasK (AV_in v68 (by omega) (by omega)) hS.2.2.2.2.2.2.2.2.1 (zb_in (by decide)) (j := 53) (by decide) (dk_X12_init_9 (387, .iastore, 1) (List.mem_of_getElem? (i := 23) rfl)) ?_
  refine ZW_sm (pc' := 389) (ls' := [some (.ref x)]) (st' := [.ref (x + 8), .ref (x + 8), .ref x]) (s_dup (dk_X12_init_9 (388, .dup, 1) (List.mem_of_getElem? (i := 24) rfl))) (fun _ => rfl) ?_
  refine ZW_sm (pc' := 391) (ls' := [some (.ref x)]) (st' := [.int 54, .ref (x + 8), .ref (x + 8), .ref x]) (s_bipush (v := 54) (by decide) (dk_X12_init_10 (389, .bipush 54, 2) (List.mem_of_getElem? (i := 0) rfl))) (fun _ => rfl) ?_
  refine ZW_sm (pc' := 393) (ls' := [some (.ref x)]) (st' := [.int 107, .int 54, .ref (x + 8), .ref (x + 8), .ref x]) (s_bipush (v := 107) (by decide) (dk_X12_init_10 (391, .bipush 107, 2) (List.mem_of_getElem? (i := 1) rfl))) (fun _ => rfl) ?_
  refine Z_iasK (AV_in v69 (by omega) (by omega)) hS.2.2.2.2.2.2.2.2.1 (zb_in (by decide)) (j := 54) (by decide) (dk_X12_init_10 (393, .iastore, 1) (List.mem_of_getElem? (i := 2) rfl)) ?_
  refine ZW_sm (pc' := 395) (ls' := [some (.ref x)]) (st' := [.ref (x + 8), .ref (x + 8), .ref x]) (s_dup (dk_X12_init_10 (394, .dup, 1) (List.mem_of_getElem? (i := 3) rfl))) (fun _ => rfl) ?_
  refine ZW_sm (pc' := 397) (ls' := [some (.ref x)]) (st' := [.int 55, .ref (x + 8), .ref (x + 8), .ref x]) (s_bipush (v := 55) (by decide) (dk_X12_init_10 (395, .bipush 55, 2) (List.mem_of_getElem? (i := 4) rfl))) (fun _ => rfl) ?_
  refine ZW_sm (pc' := 399) (ls' := [some (.ref x)]) (st' := [.int 105, .int 55, .ref (x + 8), .ref (x + 8), .ref x]) (s_bipush (v := 105) (by decide) (dk_X12_init_10 (397, .bipush 105, 2) (List.mem_of_getElem? (i := 5) rfl))) (fun _ => rfl) ?_
  refine Z_iasK (AV_in v70 (by omega) (by omega)) hS.2.2.2.2.2.2.2.2.1 (zb_in (by decide)) (j := 55) (by decide) (dk_X12_init_10 (399, .iastore, 1) (List.mem_of_getElem? (i := 6) rfl)) ?_
  refine ZW_sm (pc' := 401) (ls' := [some (.ref x)]) (st' := [.ref (x + 8), .ref (x + 8), .ref x]) (s_dup (dk_X12_init_10 (400, .dup, 1) (List.mem_of_getElem? (i := 7) rfl))) (fun _ => rfl) ?_
  refine ZW_sm (pc' := 403) (ls' := [some (.ref x)]) (st' := [.int 56, .ref (x + 8), .ref (x + 8), .ref x]) (s_bipush (v := 56) (by decide) (dk_X12_init_10 (401, .bipush 56, 2) (List.mem_of_getElem? (i := 8) rfl))) (fun _ => rfl) ?_
  refine ZW_sm (pc' := 405) (ls' := [some (.ref x)]) (st' := [.int 110, .int 56, .ref (x + 8), .ref (x + 8), .ref x]) (s_bipush (v := 110) (by decide) (dk_X12_init_10 (403, .bipush 110, 2) (List.mem_of_getElem? (i := 9) rfl))) (fun _ => rfl) ?_
  refine Z_iasK (AV_in v71 (by omega) (by omega)) hS.2.2.2.2.2.2.2.2.1 (zb_in (by decide)) (j := 56) (by decide) (dk_X12_init_10 (405, .iastore, 1) (List.mem_of_getElem? (i := 10) rfl)) ?_
  refine ZW_sm (pc' := 407) (ls' := [some (.ref x)]) (st' := [.ref (x + 8), .ref (x + 8), .ref x]) (s_dup (dk_X12_init_10 (406, .dup, 1) (List.mem_of_getElem? (i := 11) rfl))) (fun _ => rfl) ?_
  refine ZW_sm (pc' := 409) (ls' := [some (.ref x)]) (st' := [.int 57, .ref (x + 8), .ref (x + 8), .ref x]) (s_bipush (v := 57) (by decide) (dk_X12_init_10 (407, .bipush 57, 2) (List.mem_of_getElem? (i := 12) rfl))) (fun _ => rfl) ?_
  refine ZW_sm (pc' := 411) (ls' := [some (.ref x)]) (st' := [.int 100, .int 57, .ref (x + 8), .ref (x + 8), .ref x]) (s_bipush (v := 100) (by decide) (dk_X12_init_10 (409, .bipush 100, 2) (List.mem_of_getElem? (i := 13) rfl))) (fun _ => rfl) ?_
  refine Z_iasK (AV_in v72 (by omega) (by omega)) hS.2.2.2.2.2.2.2.2.1 (zb_in (by decide)) (j := 57) (by decide) (dk_X12_init_10 (411, .iastore, 1) (List.mem_of_getElem? (i := 14) rfl)) ?_
  refine ZW_sm (pc' := 413) (ls' := [some (.ref x)]) (st' := [.ref (x + 8), .ref (x + 8), .ref x]) (s_dup (dk_X12_init_10 (412, .dup, 1) (List.mem_of_getElem? (i := 15) rfl))) (fun _ => rfl) ?_
  refine ZW_sm (pc' := 415) (ls' := [some (.ref x)]) (st' := [.int 58, .ref (x + 8), .ref (x + 8), .ref x]) (s_bipush (v := 58) (by decide) (dk_X12_init_10 (413, .bipush 58, 2) (List.mem_of_getElem? (i := 16) rfl))) (fun _ => rfl) ?_
  refine ZW_sm (pc' := 417) (ls' := [some (.ref x)]) (st' := [.int 32, .int 58, .ref (x + 8), .ref (x + 8), .ref x]) (s_bipush (v := 32) (by decide) (dk_X12_init_10 (415, .bipush 32, 2) (List.mem_of_getElem? (i := 17) rfl))) (fun _ => rfl) ?_
  refine Z_iasK (AV_in v73 (by omega) (by omega)) hS.2.2.2.2.2.2.2.2.1 (zb_in (by decide)) (j := 58) (by decide) (dk_X12_init_10 (417, .iastore, 1) (List.mem_of_getElem? (i := 18) rfl)) ?_
  refine ZW_sm (pc' := 419) (ls' := [some (.ref x)]) (st' := [.ref (x + 8), .ref (x + 8), .ref x]) (s_dup (dk_X12_init_10 (418, .dup, 1) (List.mem_of_getElem? (i := 19) rfl))) (fun _ => rfl) ?_
  refine ZW_sm (pc' := 421) (ls' := [some (.ref x)]) (st' := [.int 59, .ref (x + 8), .ref (x + 8), .ref x]) (s_bipush (v := 59) (by decide) (dk_X12_init_10 (419, .bipush 59, 2) (List.mem_of_getElem? (i := 20) rfl))) (fun _ => rfl) ?_
  refine ZW_sm (pc' := 423) (ls' := [some (.ref x)]) (st' := [.int 115, .int 59, .ref (x + 8), .ref (x + 8), .ref x]) (s_bipush (v := 115) (by decide) (dk_X12_init_10 (421, .bipush 115, 2) (List.mem_of_getElem? (i := 21) rfl))) (fun _ => rfl) ?_
  refine Z_iasK (AV_in v74 (by omega) (by omega)) hS.2.2.2.2.2.2.2.2.1 (zb_in (by decide)) (j := 59) (by decide) (dk_X12_init_10 (423, .iastore, 1) (List.mem_of_getElem? (i := 22) rfl)) ?_
  refine ZW_sm (pc' := 425) (ls' := [some (.ref x)]) (st' := [.ref (x + 8), .ref (x + 8), .ref x]) (s_dup (dk_X12_init_10 (424, .dup, 1) (List.mem_of_getElem? (i := 23) rfl))) (fun _ => rfl) ?_
  refine ZW_sm (pc' := 427) (ls' := [some (.ref x)]) (st' := [.int 60, .ref (x + 8), .ref (x + 8), .ref x]) (s_bipush (v := 60) (by decide) (dk_X12_init_10 (425, .bipush 60, 2) (List.mem_of_getElem? (i := 24) rfl))) (fun _ => rfl) ?_
  refine ZW_sm (pc' := 429) (ls' := [some (.ref x)]) (st' := [.int 116, .int 60, .ref (x + 8), .ref (x + 8), .ref x]) (s_bipush (v := 116) (by decide) (dk_X12_init_11 (427, .bipush 116, 2) (List.mem_of_getElem? (i := 0) rfl))) (fun _ => rfl) ?_
  refine Z_iasK (AV_in v75 (by omega) (by omega)) hS.2.2.2.2.2.2.2.2.1 (zb_in (by decide)) (j := 60) (by decide) (dk_X12_init_11 (429, .iastore, 1) (List.mem_of_getElem? (i := 1) rfl)) ?_
  refine ZW_sm (pc' := 431) (ls' := [some (.ref x)]) (st' := [.ref (x + 8), .ref (x + 8), .ref x]) (s_dup (dk_X12_init_11 (430, .dup, 1) (List.mem_of_getElem? (i := 2) rfl))) (fun _ => rfl) ?_
  refine ZW_sm (pc' := 433) (ls' := [some (.ref x)]) (st' := [.int 61, .ref (x + 8), .ref (x + 8), .ref x]) (s_bipush (v := 61) (by decide) (dk_X12_init_11 (431, .bipush 61, 2) (List.mem_of_getElem? (i := 3) rfl))) (fun _ => rfl) ?_
  refine ZW_sm (pc' := 435) (ls' := [some (.ref x)]) (st' := [.int 97, .int 61, .ref (x + 8), .ref (x + 8), .ref x]) (s_bipush (v := 97) (by decide) (dk_X12_init_11 (433, .bipush 97, 2) (List.mem_of_getElem? (i := 4) rfl))) (fun _ => rfl) ?_
  refine Z_iasK (AV_in v76 (by omega) (by omega)) hS.2.2.2.2.2.2.2.2.1 (zb_in (by decide)) (j := 61) (by decide) (dk_X12_init_11 (435, .iastore, 1) (List.mem_of_getElem? (i := 5) rfl)) ?_
  refine ZW_sm (pc' := 437) (ls' := [some (.ref x)]) (st' := [.ref (x + 8), .ref (x + 8), .ref x]) (s_dup (dk_X12_init_11 (436, .dup, 1) (List.mem_of_getElem? (i := 6) rfl))) (fun _ => rfl) ?_
  refine ZW_sm (pc' := 439) (ls' := [some (.ref x)]) (st' := [.int 62, .ref (x + 8), .ref (x + 8), .ref x]) (s_bipush (v := 62) (by decide) (dk_X12_init_11 (437, .bipush 62, 2) (List.mem_of_getElem? (i := 7) rfl))) (fun _ => rfl) ?_
  refine ZW_sm (pc' := 441) (ls' := [some (.ref x)]) (st' := [.int 110, .int 62, .ref (x + 8), .ref (x + 8), .ref x]) (s_bipush (v := 110) (by decide) (dk_X12_init_11 (439, .bipush 110, 2) (List.mem_of_getElem? (i := 8) rfl))) (fun _ => rfl) ?_
  refine Z_iasK (AV_in v77 (by omega) (by omega)) hS.2.2.2.2.2.2.2.2.1 (zb_in (by decide)) (j := 62) (by decide) (dk_X12_init_11 (441, .iastore, 1) (List.mem_of_getElem? (i := 9) rfl)) ?_
  refine ZW_sm (pc' := 443) (ls' := [some (.ref x)]) (st' := [.ref (x + 8), .ref (x + 8), .ref x]) (s_dup (dk_X12_init_11 (442, .dup, 1) (List.mem_of_getElem? (i := 10) rfl))) (fun _ => rfl) ?_
  refine ZW_sm (pc' := 445) (ls' := [some (.ref x)]) (st' := [.int 63, .ref (x + 8), .ref (x + 8), .ref x]) (s_bipush (v := 63) (by decide) (dk_X12_init_11 (443, .bipush 63, 2) (List.mem_of_getElem? (i := 11) rfl))) (fun _ => rfl) ?_
  refine ZW_sm (pc' := 447) (ls' := [some (.ref x)]) (st' := [.int 100, .int 63, .ref (x + 8), .ref (x + 8), .ref x]) (s_bipush (v := 100) (by decide) (dk_X12_init_11 (445, .bipush 100, 2) (List.mem_of_getElem? (i := 12) rfl))) (fun _ => rfl) ?_
  refine Z_iasK (AV_in v78 (by omega) (by omega)) hS.2.2.2.2.2.2.2.2.1 (zb_in (by decide)) (j := 63) (by decide) (dk_X12_init_11 (447, .iastore, 1) (List.mem_of_getElem? (i := 13) rfl)) ?_
  refine ZW_sm (pc' := 449) (ls' := [some (.ref x)]) (st' := [.ref (x + 8), .ref (x + 8), .ref x]) (s_dup (dk_X12_init_11 (448, .dup, 1) (List.mem_of_getElem? (i := 14) rfl))) (fun _ => rfl) ?_
  refine ZW_sm (pc' := 451) (ls' := [some (.ref x)]) (st' := [.int 64, .ref (x + 8), .ref (x + 8), .ref x]) (s_bipush (v := 64) (by decide) (dk_X12_init_11 (449, .bipush 64, 2) (List.mem_of_getElem? (i := 15) rfl))) (fun _ => rfl) ?_
  refine ZW_sm (pc' := 453) (ls' := [some (.ref x)]) (st' := [.int 32, .int 64, .ref (x + 8), .ref (x + 8), .ref x]) (s_bipush (v := 32) (by decide) (dk_X12_init_11 (451, .bipush 32, 2) (List.mem_of_getElem? (i := 16) rfl))) (fun _ => rfl) ?_
  refine Z_iasK (AV_in v79 (by omega) (by omega)) hS.2.2.2.2.2.2.2.2.1 (zb_in (by decide)) (j := 64) (by decide) (dk_X12_init_11 (453, .iastore, 1) (List.mem_of_getElem? (i := 17) rfl)) ?_
  refine ZW_sm (pc' := 455) (ls' := [some (.ref x)]) (st' := [.ref (x + 8), .ref (x + 8), .ref x]) (s_dup (dk_X12_init_11 (454, .dup, 1) (List.mem_of_getElem? (i := 18) rfl))) (fun _ => rfl) ?_
  refine ZW_sm (pc' := 457) (ls' := [some (.ref x)]) (st' := [.int 65, .ref (x + 8), .ref (x + 8), .ref x]) (s_bipush (v := 65) (by decide) (dk_X12_init_11 (455, .bipush 65, 2) (List.mem_of_getElem? (i := 19) rfl))) (fun _ => rfl) ?_
  refine ZW_sm (pc' := 459) (ls' := [some (.ref x)]) (st' := [.int 100, .int 65, .ref (x + 8), .ref (x + 8), .ref x]) (s_bipush (v := 100) (by decide) (dk_X12_init_11 (457, .bipush 100, 2) (List.mem_of_getElem? (i := 20) rfl))) (fun _ => rfl) ?_
  refine Z_iasK (AV_in v80 (by omega) (by omega)) hS.2.2.2.2.2.2.2.2.1 (zb_in (by decide)) (j := 65) (by decide) (dk_X12_init_11 (459, .iastore, 1) (List.mem_of_getElem? (i := 21) rfl)) ?_
  refine ZW_sm (pc' := 461) (ls' := [some (.ref x)]) (st' := [.ref (x + 8), .ref (x + 8), .ref x]) (s_dup (dk_X12_init_11 (460, .dup, 1) (List.mem_of_getElem? (i := 22) rfl))) (fun _ => rfl) ?_
  refine ZW_sm (pc' := 463) (ls' := [some (.ref x)]) (st' := [.int 66, .ref (x + 8), .ref (x + 8), .ref x]) (s_bipush (v := 66) (by decide) (dk_X12_init_11 (461, .bipush 66, 2) (List.mem_of_getElem? (i := 23) rfl))) (fun _ => rfl) ?_
  refine ZW_sm (pc' := 465) (ls' := [some (.ref x)]) (st' := [.int 97, .int 66, .ref (x + 8), .ref (x + 8), .ref x]) (s_bipush (v := 97) (by decide) (dk_X12_init_11 (463, .bipush 97, 2) (List.mem_of_getElem? (i := 24) rfl))) (fun _ => rfl) ?_
  refine Z_iasK (AV_in v81 (by omega) (by omega)) hS.2.2.2.2.2.2.2.2.1 (zb_in (by decide)) (j := 66) (by decide) (dk_X12_init_12 (465, .iastore, 1) (List.mem_of_getElem? (i := 0) rfl)) ?_
  refine ZW_sm (pc' := 467) (ls' := [some (.ref x)]) (st' := [.ref (x + 8), .ref (x + 8), .ref x]) (s_dup (dk_X12_init_12 (466, .dup, 1) (List.mem_of_getElem? (i := 1) rfl))) (fun _ => rfl) ?_
  refine ZW_sm (pc' := 469) (ls' := [some (.ref x)]) (st' := [.int 67, .ref (x + 8), .ref (x + 8), .ref x]) (s_bipush (v := 67) (by decide) (dk_X12_init_12 (467, .bipush 67, 2) (List.mem_of_getElem? (i := 2) rfl))) (fun _ => rfl) ?_
  refine ZW_sm (pc' := 471) (ls' := [some (.ref x)]) (st' := [.int 121, .int 67, .ref (x + 8), .ref (x + 8), .ref x]) (s_bipush (v := 121) (by decide) (dk_X12_init_12 (469, .bipush 121, 2) (List.mem_of_getElem? (i := 3) rfl))) (fun _ => rfl) ?_
  refine Z_iasK (AV_in v82 (by omega) (by omega)) hS.2.2.2.2.2.2.2.2.1 (zb_in (by decide)) (j := 67) (by decide) (dk_X12_init_12 (471, .iastore, 1) (List.mem_of_getElem? (i := 4) rfl)) ?_
  refine ZW_sm (pc' := 473) (ls' := [some (.ref x)]) (st' := [.ref (x + 8), .ref (x + 8), .ref x]) (s_dup (dk_X12_init_12 (472, .dup, 1) (List.mem_of_getElem? (i := 5) rfl))) (fun _ => rfl) ?_
  refine ZW_sm (pc' := 475) (ls' := [some (.ref x)]) (st' := [.int 68, .ref (x + 8), .ref (x + 8), .ref x]) (s_bipush (v := 68) (by decide) (dk_X12_init_12 (473, .bipush 68, 2) (List.mem_of_getElem? (i := 6) rfl))) (fun _ => rfl) ?_
  refine ZW_sm (pc' := 477) (ls' := [some (.ref x)]) (st' := [.int 32, .int 68, .ref (x + 8), .ref (x + 8), .ref x]) (s_bipush (v := 32) (by decide) (dk_X12_init_12 (475, .bipush 32, 2) (List.mem_of_getElem? (i := 7) rfl))) (fun _ => rfl) ?_
  refine Z_iasK (AV_in v83 (by omega) (by omega)) hS.2.2.2.2.2.2.2.2.1 (zb_in (by decide)) (j := 68) (by decide) (dk_X12_init_12 (477, .iastore, 1) (List.mem_of_getElem? (i := 8) rfl)) ?_
  refine ZW_sm (pc' := 479) (ls' := [some (.ref x)]) (st' := [.ref (x + 8), .ref (x + 8), .ref x]) (s_dup (dk_X12_init_12 (478, .dup, 1) (List.mem_of_getElem? (i := 9) rfl))) (fun _ => rfl) ?_
  refine ZW_sm (pc' := 481) (ls' := [some (.ref x)]) (st' := [.int 69, .ref (x + 8), .ref (x + 8), .ref x]) (s_bipush (v := 69) (by decide) (dk_X12_init_12 (479, .bipush 69, 2) (List.mem_of_getElem? (i := 10) rfl))) (fun _ => rfl) ?_
  refine ZW_sm (pc' := 483) (ls' := [some (.ref x)]) (st' := [.int 109, .int 69, .ref (x + 8), .ref (x + 8), .ref x]) (s_bipush (v := 109) (by decide) (dk_X12_init_12 (481, .bipush 109, 2) (List.mem_of_getElem? (i := 11) rfl))) (fun _ => rfl) ?_
  refine Z_iasK (AV_in v84 (by omega) (by omega)) hS.2.2.2.2.2.2.2.2.1 (zb_in (by decide)) (j := 69) (by decide) (dk_X12_init_12 (483, .iastore, 1) (List.mem_of_getElem? (i := 12) rfl)) ?_
  refine ZW_sm (pc' := 485) (ls' := [some (.ref x)]) (st' := [.ref (x + 8), .ref (x + 8), .ref x]) (s_dup (dk_X12_init_12 (484, .dup, 1) (List.mem_of_getElem? (i := 13) rfl))) (fun _ => rfl) ?_
  refine ZW_sm (pc' := 487) (ls' := [some (.ref x)]) (st' := [.int 70, .ref (x + 8), .ref (x + 8), .ref x]) (s_bipush (v := 70) (by decide) (dk_X12_init_12 (485, .bipush 70, 2) (List.mem_of_getElem? (i := 14) rfl))) (fun _ => rfl) ?_
  refine ZW_sm (pc' := 489) (ls' := [some (.ref x)]) (st' := [.int 105, .int 70, .ref (x + 8), .ref (x + 8), .ref x]) (s_bipush (v := 105) (by decide) (dk_X12_init_12 (487, .bipush 105, 2) (List.mem_of_getElem? (i := 15) rfl))) (fun _ => rfl) ?_
  refine Z_iasK (AV_in v85 (by omega) (by omega)) hS.2.2.2.2.2.2.2.2.1 (zb_in (by decide)) (j := 70) (by decide) (dk_X12_init_12 (489, .iastore, 1) (List.mem_of_getElem? (i := 16) rfl)) ?_
  refine ZW_sm (pc' := 491) (ls' := [some (.ref x)]) (st' := [.ref (x + 8), .ref (x + 8), .ref x]) (s_dup (dk_X12_init_12 (490, .dup, 1) (List.mem_of_getElem? (i := 17) rfl))) (fun _ => rfl) ?_
  refine ZW_sm (pc' := 493) (ls' := [some (.ref x)]) (st' := [.int 71, .ref (x + 8), .ref (x + 8), .ref x]) (s_bipush (v := 71) (by decide) (dk_X12_init_12 (491, .bipush 71, 2) (List.mem_of_getElem? (i := 18) rfl))) (fun _ => rfl) ?_
  refine ZW_sm (pc' := 495) (ls' := [some (.ref x)]) (st' := [.int 110, .int 71, .ref (x + 8), .ref (x + 8), .ref x]) (s_bipush (v := 110) (by decide) (dk_X12_init_12 (493, .bipush 110, 2) (List.mem_of_getElem? (i := 19) rfl))) (fun _ => rfl) ?_
  refine Z_iasK (AV_in v86 (by omega) (by omega)) hS.2.2.2.2.2.2.2.2.1 (zb_in (by decide)) (j := 71) (by decide) (dk_X12_init_12 (495, .iastore, 1) (List.mem_of_getElem? (i := 20) rfl)) ?_
  refine ZW_sm (pc' := 497) (ls' := [some (.ref x)]) (st' := [.ref (x + 8), .ref (x + 8), .ref x]) (s_dup (dk_X12_init_12 (496, .dup, 1) (List.mem_of_getElem? (i := 21) rfl))) (fun _ => rfl) ?_
  refine ZW_sm (pc' := 499) (ls' := [some (.ref x)]) (st' := [.int 72, .ref (x + 8), .ref (x + 8), .ref x]) (s_bipush (v := 72) (by decide) (dk_X12_init_12 (497, .bipush 72, 2) (List.mem_of_getElem? (i := 22) rfl))) (fun _ => rfl) ?_
  refine ZW_sm (pc' := 501) (ls' := [some (.ref x)]) (st' := [.int 105, .int 72, .ref (x + 8), .ref (x + 8), .ref x]) (s_bipush (v := 105) (by decide) (dk_X12_init_12 (499, .bipush 105, 2) (List.mem_of_getElem? (i := 23) rfl))) (fun _ => rfl) ?_
  refine Z_iasK (AV_in v87 (by omega) (by omega)) hS.2.2.2.2.2.2.2.2.1 (zb_in (by decide)) (j := 72) (by decide) (dk_X12_init_12 (501, .iastore, 1) (List.mem_of_getElem? (i := 24) rfl)) ?_
  refine ZW_sm (pc' := 503) (ls' := [some (.ref x)]) (st' := [.ref (x + 8), .ref (x + 8), .ref x]) (s_dup (dk_X12_init_13 (502, .dup, 1) (List.mem_of_getElem? (i := 0) rfl))) (fun _ => rfl) ?_
  refine ZW_sm (pc' := 505) (ls' := [some (.ref x)]) (st' := [.int 73, .ref (x + 8), .ref (x + 8), .ref x]) (s_bipush (v := 73) (by decide) (dk_X12_init_13 (503, .bipush 73, 2) (List.mem_of_getElem? (i := 1) rfl))) (fun _ => rfl) ?_
  refine ZW_sm (pc' := 507) (ls' := [some (.ref x)]) (st' := [.int 115, .int 73, .ref (x + 8), .ref (x + 8), .ref x]) (s_bipush (v := 115) (by decide) (dk_X12_init_13 (505, .bipush 115, 2) (List.mem_of_getElem? (i := 2) rfl))) (fun _ => rfl) ?_
  refine Z_iasK (AV_in v88 (by omega) (by omega)) hS.2.2.2.2.2.2.2.2.1 (zb_in (by decide)) (j := 73) (by decide) (dk_X12_init_13 (507, .iastore, 1) (List.mem_of_getElem? (i := 3) rfl)) ?_
  refine ZW_sm (pc' := 509) (ls' := [some (.ref x)]) (st' := [.ref (x + 8), .ref (x + 8), .ref x]) (s_dup (dk_X12_init_13 (508, .dup, 1) (List.mem_of_getElem? (i := 4) rfl))) (fun _ => rfl) ?_
  refine ZW_sm (pc' := 511) (ls' := [some (.ref x)]) (st' := [.int 74, .ref (x + 8), .ref (x + 8), .ref x]) (s_bipush (v := 74) (by decide) (dk_X12_init_13 (509, .bipush 74, 2) (List.mem_of_getElem? (i := 5) rfl))) (fun _ => rfl) ?_
  refine ZW_sm (pc' := 513) (ls' := [some (.ref x)]) (st' := [.int 116, .int 74, .ref (x + 8), .ref (x + 8), .ref x]) (s_bipush (v := 116) (by decide) (dk_X12_init_13 (511, .bipush 116, 2) (List.mem_of_getElem? (i := 6) rfl))) (fun _ => rfl) ?_
  refine Z_iasK (AV_in v89 (by omega) (by omega)) hS.2.2.2.2.2.2.2.2.1 (zb_in (by decide)) (j := 74) (by decide) (dk_X12_init_13 (513, .iastore, 1) (List.mem_of_getElem? (i := 7) rfl)) ?_
  refine ZW_sm (pc' := 515) (ls' := [some (.ref x)]) (st' := [.ref (x + 8), .ref (x + 8), .ref x]) (s_dup (dk_X12_init_13 (514, .dup, 1) (List.mem_of_getElem? (i := 8) rfl))) (fun _ => rfl) ?_
  refine ZW_sm (pc' := 517) (ls' := [some (.ref x)]) (st' := [.int 75, .ref (x + 8), .ref (x + 8), .ref x]) (s_bipush (v := 75) (by decide) (dk_X12_init_13 (515, .bipush 75, 2) (List.mem_of_getElem? (i := 9) rfl))) (fun _ => rfl) ?_
  refine ZW_sm (pc' := 519) (ls' := [some (.ref x)]) (st' := [.int 101, .int 75, .ref (x + 8), .ref (x + 8), .ref x]) (s_bipush (v := 101) (by decide) (dk_X12_init_13 (517, .bipush 101, 2) (List.mem_of_getElem? (i := 10) rfl))) (fun _ => rfl) ?_
  refine Z_iasK (AV_in v90 (by omega) (by omega)) hS.2.2.2.2.2.2.2.2.1 (zb_in (by decide)) (j := 75) (by decide) (dk_X12_init_13 (519, .iastore, 1) (List.mem_of_getElem? (i := 11) rfl)) ?_
  refine ZW_sm (pc' := 521) (ls' := [some (.ref x)]) (st' := [.ref (x + 8), .ref (x + 8), .ref x]) (s_dup (dk_X12_init_13 (520, .dup, 1) (List.mem_of_getElem? (i := 12) rfl))) (fun _ => rfl) ?_
  refine ZW_sm (pc' := 523) (ls' := [some (.ref x)]) (st' := [.int 76, .ref (x + 8), .ref (x + 8), .ref x]) (s_bipush (v := 76) (by decide) (dk_X12_init_13 (521, .bipush 76, 2) (List.mem_of_getElem? (i := 13) rfl))) (fun _ => rfl) ?_
  refine ZW_sm (pc' := 525) (ls' := [some (.ref x)]) (st' := [.int 114, .int 76, .ref (x + 8), .ref (x + 8), .ref x]) (s_bipush (v := 114) (by decide) (dk_X12_init_13 (523, .bipush 114, 2) (List.mem_of_getElem? (i := 14) rfl))) (fun _ => rfl) ?_
  refine Z_iasK (AV_in v91 (by omega) (by omega)) hS.2.2.2.2.2.2.2.2.1 (zb_in (by decide)) (j := 76) (by decide) (dk_X12_init_13 (525, .iastore, 1) (List.mem_of_getElem? (i := 15) rfl)) ?_
  refine ZW_sm (pc' := 527) (ls' := [some (.ref x)]) (st' := [.ref (x + 8), .ref (x + 8), .ref x]) (s_dup (dk_X12_init_13 (526, .dup, 1) (List.mem_of_getElem? (i := 16) rfl))) (fun _ => rfl) ?_
  refine ZW_sm (pc' := 529) (ls' := [some (.ref x)]) (st' := [.int 77, .ref (x + 8), .ref (x + 8), .ref x]) (s_bipush (v := 77) (by decide) (dk_X12_init_13 (527, .bipush 77, 2) (List.mem_of_getElem? (i := 17) rfl))) (fun _ => rfl) ?_
  refine ZW_sm (pc' := 531) (ls' := [some (.ref x)]) (st' := [.int 32, .int 77, .ref (x + 8), .ref (x + 8), .ref x]) (s_bipush (v := 32) (by decide) (dk_X12_init_13 (529, .bipush 32, 2) (List.mem_of_getElem? (i := 18) rfl))) (fun _ => rfl) ?_
  refine Z_iasK (AV_in v92 (by omega) (by omega)) hS.2.2.2.2.2.2.2.2.1 (zb_in (by decide)) (j := 77) (by decide) (dk_X12_init_13 (531, .iastore, 1) (List.mem_of_getElem? (i := 19) rfl)) ?_
  refine ZW_sm (pc' := 533) (ls' := [some (.ref x)]) (st' := [.ref (x + 8), .ref (x + 8), .ref x]) (s_dup (dk_X12_init_13 (532, .dup, 1) (List.mem_of_getElem? (i := 20) rfl))) (fun _ => rfl) ?_
  refine ZW_sm (pc' := 535) (ls' := [some (.ref x)]) (st' := [.int 78, .ref (x + 8), .ref (x + 8), .ref x]) (s_bipush (v := 78) (by decide) (dk_X12_init_13 (533, .bipush 78, 2) (List.mem_of_getElem? (i := 21) rfl))) (fun _ => rfl) ?_
  refine ZW_sm (pc' := 537) (ls' := [some (.ref x)]) (st' := [.int 111, .int 78, .ref (x + 8), .ref (x + 8), .ref x]) (s_bipush (v := 111) (by decide) (dk_X12_init_13 (535, .bipush 111, 2) (List.mem_of_getElem? (i := 22) rfl))) (fun _ => rfl) ?_
  refine Z_iasK (AV_in v93 (by omega) (by omega)) hS.2.2.2.2.2.2.2.2.1 (zb_in (by decide)) (j := 78) (by decide) (dk_X12_init_13 (537, .iastore, 1) (List.mem_of_getElem? (i := 23) rfl)) ?_
  refine ZW_sm (pc' := 539) (ls' := [some (.ref x)]) (st' := [.ref (x + 8), .ref (x + 8), .ref x]) (s_dup (dk_X12_init_13 (538, .dup, 1) (List.mem_of_getElem? (i := 24) rfl))) (fun _ => rfl) ?_
  refine ZW_sm (pc' := 541) (ls' := [some (.ref x)]) (st' := [.int 79, .ref (x + 8), .ref (x + 8), .ref x]) (s_bipush (v := 79) (by decide) (dk_X12_init_14 (539, .bipush 79, 2) (List.mem_of_getElem? (i := 0) rfl))) (fun _ => rfl) ?_
  refine ZW_sm (pc' := 543) (ls' := [some (.ref x)]) (st' := [.int 102, .int 79, .ref (x + 8), .ref (x + 8), .ref x]) (s_bipush (v := 102) (by decide) (dk_X12_init_14 (541, .bipush 102, 2) (List.mem_of_getElem? (i := 1) rfl))) (fun _ => rfl) ?_
  refine Z_iasK (AV_in v94 (by omega) (by omega)) hS.2.2.2.2.2.2.2.2.1 (zb_in (by decide)) (j := 79) (by decide) (dk_X12_init_14 (543, .iastore, 1) (List.mem_of_getElem? (i := 2) rfl)) ?_
  refine ZW_sm (pc' := 545) (ls' := [some (.ref x)]) (st' := [.ref (x + 8), .ref (x + 8), .ref x]) (s_dup (dk_X12_init_14 (544, .dup, 1) (List.mem_of_getElem? (i := 3) rfl))) (fun _ => rfl) ?_
  refine ZW_sm (pc' := 547) (ls' := [some (.ref x)]) (st' := [.int 80, .ref (x + 8), .ref (x + 8), .ref x]) (s_bipush (v := 80) (by decide) (dk_X12_init_14 (545, .bipush 80, 2) (List.mem_of_getElem? (i := 4) rfl))) (fun _ => rfl) ?_
  refine ZW_sm (pc' := 549) (ls' := [some (.ref x)]) (st' := [.int 102, .int 80, .ref (x + 8), .ref (x + 8), .ref x]) (s_bipush (v := 102) (by decide) (dk_X12_init_14 (547, .bipush 102, 2) (List.mem_of_getElem? (i := 5) rfl))) (fun _ => rfl) ?_
  refine Z_iasK (AV_in v95 (by omega) (by omega)) hS.2.2.2.2.2.2.2.2.1 (zb_in (by decide)) (j := 80) (by decide) (dk_X12_init_14 (549, .iastore, 1) (List.mem_of_getElem? (i := 6) rfl)) ?_
  refine ZW_sm (pc' := 551) (ls' := [some (.ref x)]) (st' := [.ref (x + 8), .ref (x + 8), .ref x]) (s_dup (dk_X12_init_14 (550, .dup, 1) (List.mem_of_getElem? (i := 7) rfl))) (fun _ => rfl) ?_
  refine ZW_sm (pc' := 553) (ls' := [some (.ref x)]) (st' := [.int 81, .ref (x + 8), .ref (x + 8), .ref x]) (s_bipush (v := 81) (by decide) (dk_X12_init_14 (551, .bipush 81, 2) (List.mem_of_getElem? (i := 8) rfl))) (fun _ => rfl) ?_
  refine ZW_sm (pc' := 555) (ls' := [some (.ref x)]) (st' := [.int 32, .int 81, .ref (x + 8), .ref (x + 8), .ref x]) (s_bipush (v := 32) (by decide) (dk_X12_init_14 (553, .bipush 32, 2) (List.mem_of_getElem? (i := 9) rfl))) (fun _ => rfl) ?_
  refine Z_iasK (AV_in v96 (by omega) (by omega)) hS.2.2.2.2.2.2.2.2.1 (zb_in (by decide)) (j := 81) (by decide) (dk_X12_init_14 (555, .iastore, 1) (List.mem_of_getElem? (i := 10) rfl)) ?_
  refine ZW_sm (pc' := 557) (ls' := [some (.ref x)]) (st' := [.ref (x + 8), .ref (x + 8), .ref x]) (s_dup (dk_X12_init_14 (556, .dup, 1) (List.mem_of_getElem? (i := 11) rfl))) (fun _ => rfl) ?_
  refine ZW_sm (pc' := 559) (ls' := [some (.ref x)]) (st' := [.int 82, .ref (x + 8), .ref (x + 8), .ref x]) (s_bipush (v := 82) (by decide) (dk_X12_init_14 (557, .bipush 82, 2) (List.mem_of_getElem? (i := 12) rfl))) (fun _ => rfl) ?_
  refine ZW_sm (pc' := 561) (ls' := [some (.ref x)]) (st' := [.int 102, .int 82, .ref (x + 8), .ref (x + 8), .ref x]) (s_bipush (v := 102) (by decide) (dk_X12_init_14 (559, .bipush 102, 2) (List.mem_of_getElem? (i := 13) rfl))) (fun _ => rfl) ?_
  refine Z_iasK (AV_in v97 (by omega) (by omega)) hS.2.2.2.2.2.2.2.2.1 (zb_in (by decide)) (j := 82) (by decide) (dk_X12_init_14 (561, .iastore, 1) (List.mem_of_getElem? (i := 14) rfl)) ?_
  refine ZW_sm (pc' := 563) (ls' := [some (.ref x)]) (st' := [.ref (x + 8), .ref (x + 8), .ref x]) (s_dup (dk_X12_init_14 (562, .dup, 1) (List.mem_of_getElem? (i := 15) rfl))) (fun _ => rfl) ?_
  refine ZW_sm (pc' := 565) (ls' := [some (.ref x)]) (st' := [.int 83, .ref (x + 8), .ref (x + 8), .ref x]) (s_bipush (v := 83) (by decide) (dk_X12_init_14 (563, .bipush 83, 2) (List.mem_of_getElem? (i := 16) rfl))) (fun _ => rfl) ?_
  refine ZW_sm (pc' := 567) (ls' := [some (.ref x)]) (st' := [.int 111, .int 83, .ref (x + 8), .ref (x + 8), .ref x]) (s_bipush (v := 111) (by decide) (dk_X12_init_14 (565, .bipush 111, 2) (List.mem_of_getElem? (i := 17) rfl))) (fun _ => rfl) ?_
  refine Z_iasK (AV_in v98 (by omega) (by omega)) hS.2.2.2.2.2.2.2.2.1 (zb_in (by decide)) (j := 83) (by decide) (dk_X12_init_14 (567, .iastore, 1) (List.mem_of_getElem? (i := 18) rfl)) ?_
  refine ZW_sm (pc' := 569) (ls' := [some (.ref x)]) (st' := [.ref (x + 8), .ref (x + 8), .ref x]) (s_dup (dk_X12_init_14 (568, .dup, 1) (List.mem_of_getElem? (i := 19) rfl))) (fun _ => rfl) ?_
  refine ZW_sm (pc' := 571) (ls' := [some (.ref x)]) (st' := [.int 84, .ref (x + 8), .ref (x + 8), .ref x]) (s_bipush (v := 84) (by decide) (dk_X12_init_14 (569, .bipush 84, 2) (List.mem_of_getElem? (i := 20) rfl))) (fun _ => rfl) ?_
  refine ZW_sm (pc' := 573) (ls' := [some (.ref x)]) (st' := [.int 114, .int 84, .ref (x + 8), .ref (x + 8), .ref x]) (s_bipush (v := 114) (by decide) (dk_X12_init_14 (571, .bipush 114, 2) (List.mem_of_getElem? (i := 21) rfl))) (fun _ => rfl) ?_
  refine Z_iasK (AV_in v99 (by omega) (by omega)) hS.2.2.2.2.2.2.2.2.1 (zb_in (by decide)) (j := 84) (by decide) (dk_X12_init_14 (573, .iastore, 1) (List.mem_of_getElem? (i := 22) rfl)) ?_
  refine ZW_sm (pc' := 575) (ls' := [some (.ref x)]) (st' := [.ref (x + 8), .ref (x + 8), .ref x]) (s_dup (dk_X12_init_14 (574, .dup, 1) (List.mem_of_getElem? (i := 23) rfl))) (fun _ => rfl) ?_
  refine ZW_sm (pc' := 577) (ls' := [some (.ref x)]) (st' := [.int 85, .ref (x + 8), .ref (x + 8), .ref x]) (s_bipush (v := 85) (by decide) (dk_X12_init_14 (575, .bipush 85, 2) (List.mem_of_getElem? (i := 24) rfl))) (fun _ => rfl) ?_
  refine ZW_sm (pc' := 579) (ls' := [some (.ref x)]) (st' := [.int 32, .int 85, .ref (x + 8), .ref (x + 8), .ref x]) (s_bipush (v := 32) (by decide) (dk_X12_init_15 (577, .bipush 32, 2) (List.mem_of_getElem? (i := 0) rfl))) (fun _ => rfl) ?_
  refine Z_iasK (AV_in v100 (by omega) (by omega)) hS.2.2.2.2.2.2.2.2.1 (zb_in (by decide)) (j := 85) (by decide) (dk_X12_init_15 (579, .iastore, 1) (List.mem_of_getElem? (i := 1) rfl)) ?_
  refine ZW_sm (pc' := 581) (ls' := [some (.ref x)]) (st' := [.ref (x + 8), .ref (x + 8), .ref x]) (s_dup (dk_X12_init_15 (580, .dup, 1) (List.mem_of_getElem? (i := 2) rfl))) (fun _ => rfl) ?_
  refine ZW_sm (pc' := 583) (ls' := [some (.ref x)]) (st' := [.int 86, .ref (x + 8), .ref (x + 8), .ref x]) (s_bipush (v := 86) (by decide) (dk_X12_init_15 (581, .bipush 86, 2) (List.mem_of_getElem? (i := 3) rfl))) (fun _ => rfl) ?_
  refine ZW_sm (pc' := 585) (ls' := [some (.ref x)]) (st' := [.int 114, .int 86, .ref (x + 8), .ref (x + 8), .ref x]) (s_bipush (v := 114) (by decide) (dk_X12_init_15 (583, .bipush 114, 2) (List.mem_of_getElem? (i := 4) rfl))) (fun _ => rfl) ?_
  refine Z_iasK (AV_in v101 (by omega) (by omega)) hS.2.2.2.2.2.2.2.2.1 (zb_in (by decide)) (j := 86) (by decide) (dk_X12_init_15 (585, .iastore, 1) (List.mem_of_getElem? (i := 5) rfl)) ?_
  refine ZW_sm (pc' := 587) (ls' := [some (.ref x)]) (st' := [.ref (x + 8), .ref (x + 8), .ref x]) (s_dup (dk_X12_init_15 (586, .dup, 1) (List.mem_of_getElem? (i := 6) rfl))) (fun _ => rfl) ?_
  refine ZW_sm (pc' := 589) (ls' := [some (.ref x)]) (st' := [.int 87, .ref (x + 8), .ref (x + 8), .ref x]) (s_bipush (v := 87) (by decide) (dk_X12_init_15 (587, .bipush 87, 2) (List.mem_of_getElem? (i := 7) rfl))) (fun _ => rfl) ?_
  refine ZW_sm (pc' := 591) (ls' := [some (.ref x)]) (st' := [.int 105, .int 87, .ref (x + 8), .ref (x + 8), .ref x]) (s_bipush (v := 105) (by decide) (dk_X12_init_15 (589, .bipush 105, 2) (List.mem_of_getElem? (i := 8) rfl))) (fun _ => rfl) ?_
  refine Z_iasK (AV_in v102 (by omega) (by omega)) hS.2.2.2.2.2.2.2.2.1 (zb_in (by decide)) (j := 87) (by decide) (dk_X12_init_15 (591, .iastore, 1) (List.mem_of_getElem? (i := 9) rfl)) ?_
  refine ZW_sm (pc' := 593) (ls' := [some (.ref x)]) (st' := [.ref (x + 8), .ref (x + 8), .ref x]) (s_dup (dk_X12_init_15 (592, .dup, 1) (List.mem_of_getElem? (i := 10) rfl))) (fun _ => rfl) ?_
  refine ZW_sm (pc' := 595) (ls' := [some (.ref x)]) (st' := [.int 88, .ref (x + 8), .ref (x + 8), .ref x]) (s_bipush (v := 88) (by decide) (dk_X12_init_15 (593, .bipush 88, 2) (List.mem_of_getElem? (i := 11) rfl))) (fun _ => rfl) ?_
  refine ZW_sm (pc' := 597) (ls' := [some (.ref x)]) (st' := [.int 115, .int 88, .ref (x + 8), .ref (x + 8), .ref x]) (s_bipush (v := 115) (by decide) (dk_X12_init_15 (595, .bipush 115, 2) (List.mem_of_getElem? (i := 12) rfl))) (fun _ => rfl) ?_
  refine Z_iasK (AV_in v103 (by omega) (by omega)) hS.2.2.2.2.2.2.2.2.1 (zb_in (by decide)) (j := 88) (by decide) (dk_X12_init_15 (597, .iastore, 1) (List.mem_of_getElem? (i := 13) rfl)) ?_
  refine ZW_sm (pc' := 599) (ls' := [some (.ref x)]) (st' := [.ref (x + 8), .ref (x + 8), .ref x]) (s_dup (dk_X12_init_15 (598, .dup, 1) (List.mem_of_getElem? (i := 14) rfl))) (fun _ => rfl) ?_
  refine ZW_sm (pc' := 601) (ls' := [some (.ref x)]) (st' := [.int 89, .ref (x + 8), .ref (x + 8), .ref x]) (s_bipush (v := 89) (by decide) (dk_X12_init_15 (599, .bipush 89, 2) (List.mem_of_getElem? (i := 15) rfl))) (fun _ => rfl) ?_
  refine ZW_sm (pc' := 603) (ls' := [some (.ref x)]) (st' := [.int 101, .int 89, .ref (x + 8), .ref (x + 8), .ref x]) (s_bipush (v := 101) (by decide) (dk_X12_init_15 (601, .bipush 101, 2) (List.mem_of_getElem? (i := 16) rfl))) (fun _ => rfl) ?_
  refine Z_iasK (AV_in v104 (by omega) (by omega)) hS.2.2.2.2.2.2.2.2.1 (zb_in (by decide)) (j := 89) (by decide) (dk_X12_init_15 (603, .iastore, 1) (List.mem_of_getElem? (i := 17) rfl)) ?_
  refine ZW_sm (pc' := 605) (ls' := [some (.ref x)]) (st' := [.ref (x + 8), .ref (x + 8), .ref x]) (s_dup (dk_X12_init_15 (604, .dup, 1) (List.mem_of_getElem? (i := 18) rfl))) (fun _ => rfl) ?_
  refine ZW_sm (pc' := 607) (ls' := [some (.ref x)]) (st' := [.int 90, .ref (x + 8), .ref (x + 8), .ref x]) (s_bipush (v := 90) (by decide) (dk_X12_init_15 (605, .bipush 90, 2) (List.mem_of_getElem? (i := 19) rfl))) (fun _ => rfl) ?_
  refine ZW_sm (pc' := 609) (ls' := [some (.ref x)]) (st' := [.int 32, .int 90, .ref (x + 8), .ref (x + 8), .ref x]) (s_bipush (v := 32) (by decide) (dk_X12_init_15 (607, .bipush 32, 2) (List.mem_of_getElem? (i := 20) rfl))) (fun _ => rfl) ?_
  refine Z_iasK (AV_in v105 (by omega) (by omega)) hS.2.2.2.2.2.2.2.2.1 (zb_in (by decide)) (j := 90) (by decide) (dk_X12_init_15 (609, .iastore, 1) (List.mem_of_getElem? (i := 21) rfl)) ?_
  refine ZW_sm (pc' := 611) (ls' := [some (.ref x)]) (st' := [.ref (x + 8), .ref (x + 8), .ref x]) (s_dup (dk_X12_init_15 (610, .dup, 1) (List.mem_of_getElem? (i := 22) rfl))) (fun _ => rfl) ?_
  refine ZW_sm (pc' := 613) (ls' := [some (.ref x)]) (st' := [.int 91, .ref (x + 8), .ref (x + 8), .ref x]) (s_bipush (v := 91) (by decide) (dk_X12_init_15 (611, .bipush 91, 2) (List.mem_of_getElem? (i := 23) rfl))) (fun _ => rfl) ?_
  refine ZW_sm (pc' := 615) (ls' := [some (.ref x)]) (st' := [.int 102, .int 91, .ref (x + 8), .ref (x + 8), .ref x]) (s_bipush (v := 102) (by decide) (dk_X12_init_15 (613, .bipush 102, 2) (List.mem_of_getElem? (i := 24) rfl))) (fun _ => rfl) ?_
  refine Z_iasK (AV_in v106 (by omega) (by omega)) hS.2.2.2.2.2.2.2.2.1 (zb_in (by decide)) (j := 91) (by decide) (dk_X12_init_16 (615, .iastore, 1) (List.mem_of_getElem? (i := 0) rfl)) ?_
  refine ZW_sm (pc' := 617) (ls' := [some (.ref x)]) (st' := [.ref (x + 8), .ref (x + 8), .ref x]) (s_dup (dk_X12_init_16 (616, .dup, 1) (List.mem_of_getElem? (i := 1) rfl))) (fun _ => rfl) ?_
  refine ZW_sm (pc' := 619) (ls' := [some (.ref x)]) (st' := [.int 92, .ref (x + 8), .ref (x + 8), .ref x]) (s_bipush (v := 92) (by decide) (dk_X12_init_16 (617, .bipush 92, 2) (List.mem_of_getElem? (i := 2) rfl))) (fun _ => rfl) ?_
  refine ZW_sm (pc' := 621) (ls' := [some (.ref x)]) (st' := [.int 97, .int 92, .ref (x + 8), .ref (x + 8), .ref x]) (s_bipush (v := 97) (by decide) (dk_X12_init_16 (619, .bipush 97, 2) (List.mem_of_getElem? (i := 3) rfl))) (fun _ => rfl) ?_
  refine Z_iasK (AV_in v107 (by omega) (by omega)) hS.2.2.2.2.2.2.2.2.1 (zb_in (by decide)) (j := 92) (by decide) (dk_X12_init_16 (621, .iastore, 1) (List.mem_of_getElem? (i := 4) rfl)) ?_
  refine ZW_sm (pc' := 623) (ls' := [some (.ref x)]) (st' := [.ref (x + 8), .ref (x + 8), .ref x]) (s_dup (dk_X12_init_16 (622, .dup, 1) (List.mem_of_getElem? (i := 5) rfl))) (fun _ => rfl) ?_
  refine ZW_sm (pc' := 625) (ls' := [some (.ref x)]) (st' := [.int 93, .ref (x + 8), .ref (x + 8), .ref x]) (s_bipush (v := 93) (by decide) (dk_X12_init_16 (623, .bipush 93, 2) (List.mem_of_getElem? (i := 6) rfl))) (fun _ => rfl) ?_
  refine ZW_sm (pc' := 627) (ls' := [some (.ref x)]) (st' := [.int 108, .int 93, .ref (x + 8), .ref (x + 8), .ref x]) (s_bipush (v := 108) (by decide) (dk_X12_init_16 (625, .bipush 108, 2) (List.mem_of_getElem? (i := 7) rfl))) (fun _ => rfl) ?_
  refine Z_iasK (AV_in v108 (by omega) (by omega)) hS.2.2.2.2.2.2.2.2.1 (zb_in (by decide)) (j := 93) (by decide) (dk_X12_init_16 (627, .iastore, 1) (List.mem_of_getElem? (i := 8) rfl)) ?_
  refine ZW_sm (pc' := 629) (ls' := [some (.ref x)]) (st' := [.ref (x + 8), .ref (x + 8), .ref x]) (s_dup (dk_X12_init_16 (628, .dup, 1) (List.mem_of_getElem? (i := 9) rfl))) (fun _ => rfl) ?_
  refine ZW_sm (pc' := 631) (ls' := [some (.ref x)]) (st' := [.int 94, .ref (x + 8), .ref (x + 8), .ref x]) (s_bipush (v := 94) (by decide) (dk_X12_init_16 (629, .bipush 94, 2) (List.mem_of_getElem? (i := 10) rfl))) (fun _ => rfl) ?_
  refine ZW_sm (pc' := 633) (ls' := [some (.ref x)]) (st' := [.int 108, .int 94, .ref (x + 8), .ref (x + 8), .ref x]) (s_bipush (v := 108) (by decide) (dk_X12_init_16 (631, .bipush 108, 2) (List.mem_of_getElem? (i := 11) rfl))) (fun _ => rfl) ?_
  refine Z_iasK (AV_in v109 (by omega) (by omega)) hS.2.2.2.2.2.2.2.2.1 (zb_in (by decide)) (j := 94) (by decide) (dk_X12_init_16 (633, .iastore, 1) (List.mem_of_getElem? (i := 12) rfl)) ?_
  refine ZW_sm (pc' := 635) (ls' := [some (.ref x)]) (st' := [.ref (x + 8), .ref (x + 8), .ref x]) (s_dup (dk_X12_init_16 (634, .dup, 1) (List.mem_of_getElem? (i := 13) rfl))) (fun _ => rfl) ?_
  refine ZW_sm (pc' := 637) (ls' := [some (.ref x)]) (st' := [.int 95, .ref (x + 8), .ref (x + 8), .ref x]) (s_bipush (v := 95) (by decide) (dk_X12_init_16 (635, .bipush 95, 2) (List.mem_of_getElem? (i := 14) rfl))) (fun _ => rfl) ?_
  refine ZW_sm (pc' := 639) (ls' := [some (.ref x)]) (st' := [.int 32, .int 95, .ref (x + 8), .ref (x + 8), .ref x]) (s_bipush (v := 32) (by decide) (dk_X12_init_16 (637, .bipush 32, 2) (List.mem_of_getElem? (i := 15) rfl))) (fun _ => rfl) ?_
  refine Z_iasK (AV_in v110 (by omega) (by omega)) hS.2.2.2.2.2.2.2.2.1 (zb_in (by decide)) (j := 95) (by decide) (dk_X12_init_16 (639, .iastore, 1) (List.mem_of_getElem? (i := 16) rfl)) ?_
  refine ZW_sm (pc' := 641) (ls' := [some (.ref x)]) (st' := [.ref (x + 8), .ref (x + 8), .ref x]) (s_dup (dk_X12_init_16 (640, .dup, 1) (List.mem_of_getElem? (i := 17) rfl))) (fun _ => rfl) ?_
  refine ZW_sm (pc' := 643) (ls' := [some (.ref x)]) (st' := [.int 96, .ref (x + 8), .ref (x + 8), .ref x]) (s_bipush (v := 96) (by decide) (dk_X12_init_16 (641, .bipush 96, 2) (List.mem_of_getElem? (i := 18) rfl))) (fun _ => rfl) ?_
  refine ZW_sm (pc' := 645) (ls' := [some (.ref x)]) (st' := [.int 111, .int 96, .ref (x + 8), .ref (x + 8), .ref x]) (s_bipush (v := 111) (by decide) (dk_X12_init_16 (643, .bipush 111, 2) (List.mem_of_getElem? (i := 19) rfl))) (fun _ => rfl) ?_
  refine Z_iasK (AV_in v111 (by omega) (by omega)) hS.2.2.2.2.2.2.2.2.1 (zb_in (by decide)) (j := 96) (by decide) (dk_X12_init_16 (645, .iastore, 1) (List.mem_of_getElem? (i := 20) rfl)) ?_
  refine ZW_sm (pc' := 647) (ls' := [some (.ref x)]) (st' := [.ref (x + 8), .ref (x + 8), .ref x]) (s_dup (dk_X12_init_16 (646, .dup, 1) (List.mem_of_getElem? (i := 21) rfl))) (fun _ => rfl) ?_
  refine ZW_sm (pc' := 649) (ls' := [some (.ref x)]) (st' := [.int 97, .ref (x + 8), .ref (x + 8), .ref x]) (s_bipush (v := 97) (by decide) (dk_X12_init_16 (647, .bipush 97, 2) (List.mem_of_getElem? (i := 22) rfl))) (fun _ => rfl) ?_
  refine ZW_sm (pc' := 651) (ls' := [some (.ref x)]) (st' := [.int 110, .int 97, .ref (x + 8), .ref (x + 8), .ref x]) (s_bipush (v := 110) (by decide) (dk_X12_init_16 (649, .bipush 110, 2) (List.mem_of_getElem? (i := 23) rfl))) (fun _ => rfl) ?_
  refine Z_iasK (AV_in v112 (by omega) (by omega)) hS.2.2.2.2.2.2.2.2.1 (zb_in (by decide)) (j := 97) (by decide) (dk_X12_init_16 (651, .iastore, 1) (List.mem_of_getElem? (i := 24) rfl)) ?_
  refine ZW_sm (pc' := 653) (ls' := [some (.ref x)]) (st' := [.ref (x + 8), .ref (x + 8), .ref x]) (s_dup (dk_X12_init_17 (652, .dup, 1) (List.mem_of_getElem? (i := 0) rfl))) (fun _ => rfl) ?_
  refine ZW_sm (pc' := 655) (ls' := [some (.ref x)]) (st' := [.int 98, .ref (x + 8), .ref (x + 8), .ref x]) (s_bipush (v := 98) (by decide) (dk_X12_init_17 (653, .bipush 98, 2) (List.mem_of_getElem? (i := 1) rfl))) (fun _ => rfl) ?_
  refine ZW_sm (pc' := 657) (ls' := [some (.ref x)]) (st' := [.int 32, .int 98, .ref (x + 8), .ref (x + 8), .ref x]) (s_bipush (v := 32) (by decide) (dk_X12_init_17 (655, .bipush 32, 2) (List.mem_of_getElem? (i := 2) rfl))) (fun _ => rfl) ?_
  refine Z_iasK (AV_in v113 (by omega) (by omega)) hS.2.2.2.2.2.2.2.2.1 (zb_in (by decide)) (j := 98) (by decide) (dk_X12_init_17 (657, .iastore, 1) (List.mem_of_getElem? (i := 3) rfl)) ?_
  refine ZW_sm (pc' := 659) (ls' := [some (.ref x)]) (st' := [.ref (x + 8), .ref (x + 8), .ref x]) (s_dup (dk_X12_init_17 (658, .dup, 1) (List.mem_of_getElem? (i := 4) rfl))) (fun _ => rfl) ?_
  refine ZW_sm (pc' := 661) (ls' := [some (.ref x)]) (st' := [.int 99, .ref (x + 8), .ref (x + 8), .ref x]) (s_bipush (v := 99) (by decide) (dk_X12_init_17 (659, .bipush 99, 2) (List.mem_of_getElem? (i := 5) rfl))) (fun _ => rfl) ?_
  refine ZW_sm (pc' := 663) (ls' := [some (.ref x)]) (st' := [.int 110, .int 99, .ref (x + 8), .ref (x + 8), .ref x]) (s_bipush (v := 110) (by decide) (dk_X12_init_17 (661, .bipush 110, 2) (List.mem_of_getElem? (i := 6) rfl))) (fun _ => rfl) ?_
  refine Z_iasK (AV_in v114 (by omega) (by omega)) hS.2.2.2.2.2.2.2.2.1 (zb_in (by decide)) (j := 99) (by decide) (dk_X12_init_17 (663, .iastore, 1) (List.mem_of_getElem? (i := 7) rfl)) ?_
  refine ZW_sm (pc' := 665) (ls' := [some (.ref x)]) (st' := [.ref (x + 8), .ref (x + 8), .ref x]) (s_dup (dk_X12_init_17 (664, .dup, 1) (List.mem_of_getElem? (i := 8) rfl))) (fun _ => rfl) ?_
  refine ZW_sm (pc' := 667) (ls' := [some (.ref x)]) (st' := [.int 100, .ref (x + 8), .ref (x + 8), .ref x]) (s_bipush (v := 100) (by decide) (dk_X12_init_17 (665, .bipush 100, 2) (List.mem_of_getElem? (i := 9) rfl))) (fun _ => rfl) ?_
  refine ZW_sm (pc' := 669) (ls' := [some (.ref x)]) (st' := [.int 97, .int 100, .ref (x + 8), .ref (x + 8), .ref x]) (s_bipush (v := 97) (by decide) (dk_X12_init_17 (667, .bipush 97, 2) (List.mem_of_getElem? (i := 10) rfl))) (fun _ => rfl) ?_
  refine Z_iasK (AV_in v115 (by omega) (by omega)) hS.2.2.2.2.2.2.2.2.1 (zb_in (by decide)) (j := 100) (by decide) (dk_X12_init_17 (669, .iastore, 1) (List.mem_of_getElem? (i := 11) rfl)) ?_
  refine ZW_sm (pc' := 671) (ls' := [some (.ref x)]) (st' := [.ref (x + 8), .ref (x + 8), .ref x]) (s_dup (dk_X12_init_17 (670, .dup, 1) (List.mem_of_getElem? (i := 12) rfl))) (fun _ => rfl) ?_
  refine ZW_sm (pc' := 673) (ls' := [some (.ref x)]) (st' := [.int 101, .ref (x + 8), .ref (x + 8), .ref x]) (s_bipush (v := 101) (by decide) (dk_X12_init_17 (671, .bipush 101, 2) (List.mem_of_getElem? (i := 13) rfl))) (fun _ => rfl) ?_
  refine ZW_sm (pc' := 675) (ls' := [some (.ref x)]) (st' := [.int 109, .int 101, .ref (x + 8), .ref (x + 8), .ref x]) (s_bipush (v := 109) (by decide) (dk_X12_init_17 (673, .bipush 109, 2) (List.mem_of_getElem? (i := 14) rfl))) (fun _ => rfl) ?_
  refine Z_iasK (AV_in v116 (by omega) (by omega)) hS.2.2.2.2.2.2.2.2.1 (zb_in (by decide)) (j := 101) (by decide) (dk_X12_init_17 (675, .iastore, 1) (List.mem_of_getElem? (i := 15) rfl)) ?_
  refine ZW_sm (pc' := 677) (ls' := [some (.ref x)]) (st' := [.ref (x + 8), .ref (x + 8), .ref x]) (s_dup (dk_X12_init_17 (676, .dup, 1) (List.mem_of_getElem? (i := 16) rfl))) (fun _ => rfl) ?_
  refine ZW_sm (pc' := 679) (ls' := [some (.ref x)]) (st' := [.int 102, .ref (x + 8), .ref (x + 8), .ref x]) (s_bipush (v := 102) (by decide) (dk_X12_init_17 (677, .bipush 102, 2) (List.mem_of_getElem? (i := 17) rfl))) (fun _ => rfl) ?_
  refine ZW_sm (pc' := 681) (ls' := [some (.ref x)]) (st' := [.int 101, .int 102, .ref (x + 8), .ref (x + 8), .ref x]) (s_bipush (v := 101) (by decide) (dk_X12_init_17 (679, .bipush 101, 2) (List.mem_of_getElem? (i := 18) rfl))) (fun _ => rfl) ?_
  refine Z_iasK (AV_in v117 (by omega) (by omega)) hS.2.2.2.2.2.2.2.2.1 (zb_in (by decide)) (j := 102) (by decide) (dk_X12_init_17 (681, .iastore, 1) (List.mem_of_getElem? (i := 19) rfl)) ?_
  refine ZW_sm (pc' := 683) (ls' := [some (.ref x)]) (st' := [.ref (x + 8), .ref (x + 8), .ref x]) (s_dup (dk_X12_init_17 (682, .dup, 1) (List.mem_of_getElem? (i := 20) rfl))) (fun _ => rfl) ?_
  refine ZW_sm (pc' := 685) (ls' := [some (.ref x)]) (st' := [.int 103, .ref (x + 8), .ref (x + 8), .ref x]) (s_bipush (v := 103) (by decide) (dk_X12_init_17 (683, .bipush 103, 2) (List.mem_of_getElem? (i := 21) rfl))) (fun _ => rfl) ?_
  refine ZW_sm (pc' := 687) (ls' := [some (.ref x)]) (st' := [.int 32, .int 103, .ref (x + 8), .ref (x + 8), .ref x]) (s_bipush (v := 32) (by decide) (dk_X12_init_17 (685, .bipush 32, 2) (List.mem_of_getElem? (i := 22) rfl))) (fun _ => rfl) ?_
  refine Z_iasK (AV_in v118 (by omega) (by omega)) hS.2.2.2.2.2.2.2.2.1 (zb_in (by decide)) (j := 103) (by decide) (dk_X12_init_17 (687, .iastore, 1) (List.mem_of_getElem? (i := 23) rfl)) ?_
  refine ZW_sm (pc' := 689) (ls' := [some (.ref x)]) (st' := [.ref (x + 8), .ref (x + 8), .ref x]) (s_dup (dk_X12_init_17 (688, .dup, 1) (List.mem_of_getElem? (i := 24) rfl))) (fun _ => rfl) ?_
  refine ZW_sm (pc' := 691) (ls' := [some (.ref x)]) (st' := [.int 104, .ref (x + 8), .ref (x + 8), .ref x]) (s_bipush (v := 104) (by decide) (dk_X12_init_18 (689, .bipush 104, 2) (List.mem_of_getElem? (i := 0) rfl))) (fun _ => rfl) ?_
  refine ZW_sm (pc' := 693) (ls' := [some (.ref x)]) (st' := [.int 103, .int 104, .ref (x + 8), .ref (x + 8), .ref x]) (s_bipush (v := 103) (by decide) (dk_X12_init_18 (691, .bipush 103, 2) (List.mem_of_getElem? (i := 1) rfl))) (fun _ => rfl) ?_
  refine Z_iasK (AV_in v119 (by omega) (by omega)) hS.2.2.2.2.2.2.2.2.1 (zb_in (by decide)) (j := 104) (by decide) (dk_X12_init_18 (693, .iastore, 1) (List.mem_of_getElem? (i := 2) rfl)) ?_
  refine ZW_sm (pc' := 695) (ls' := [some (.ref x)]) (st' := [.ref (x + 8), .ref (x + 8), .ref x]) (s_dup (dk_X12_init_18 (694, .dup, 1) (List.mem_of_getElem? (i := 3) rfl))) (fun _ => rfl) ?_
  refine ZW_sm (pc' := 697) (ls' := [some (.ref x)]) (st' := [.int 105, .ref (x + 8), .ref (x + 8), .ref x]) (s_bipush (v := 105) (by decide) (dk_X12_init_18 (695, .bipush 105, 2) (List.mem_of_getElem? (i := 4) rfl))) (fun _ => rfl) ?_
  refine ZW_sm (pc' := 699) (ls' := [some (.ref x)]) (st' := [.int 108, .int 105, .ref (x + 8), .ref (x + 8), .ref x]) (s_bipush (v := 108) (by decide) (dk_X12_init_18 (697, .bipush 108, 2) (List.mem_of_getElem? (i := 5) rfl))) (fun _ => rfl) ?_
  refine Z_iasK (AV_in v120 (by omega) (by omega)) hS.2.2.2.2.2.2.2.2.1 (zb_in (by decide)) (j := 105) (by decide) (dk_X12_init_18 (699, .iastore, 1) (List.mem_of_getElem? (i := 6) rfl)) ?_
  refine ZW_sm (pc' := 701) (ls' := [some (.ref x)]) (st' := [.ref (x + 8), .ref (x + 8), .ref x]) (s_dup (dk_X12_init_18 (700, .dup, 1) (List.mem_of_getElem? (i := 7) rfl))) (fun _ => rfl) ?_
  refine ZW_sm (pc' := 703) (ls' := [some (.ref x)]) (st' := [.int 106, .ref (x + 8), .ref (x + 8), .ref x]) (s_bipush (v := 106) (by decide) (dk_X12_init_18 (701, .bipush 106, 2) (List.mem_of_getElem? (i := 8) rfl))) (fun _ => rfl) ?_
  refine ZW_sm (pc' := 705) (ls' := [some (.ref x)]) (st' := [.int 117, .int 106, .ref (x + 8), .ref (x + 8), .ref x]) (s_bipush (v := 117) (by decide) (dk_X12_init_18 (703, .bipush 117, 2) (List.mem_of_getElem? (i := 9) rfl))) (fun _ => rfl) ?_
  refine Z_iasK (AV_in v121 (by omega) (by omega)) hS.2.2.2.2.2.2.2.2.1 (zb_in (by decide)) (j := 106) (by decide) (dk_X12_init_18 (705, .iastore, 1) (List.mem_of_getElem? (i := 10) rfl)) ?_
  refine ZW_sm (pc' := 707) (ls' := [some (.ref x)]) (st' := [.ref (x + 8), .ref (x + 8), .ref x]) (s_dup (dk_X12_init_18 (706, .dup, 1) (List.mem_of_getElem? (i := 11) rfl))) (fun _ => rfl) ?_
  refine ZW_sm (pc' := 709) (ls' := [some (.ref x)]) (st' := [.int 107, .ref (x + 8), .ref (x + 8), .ref x]) (s_bipush (v := 107) (by decide) (dk_X12_init_18 (707, .bipush 107, 2) (List.mem_of_getElem? (i := 12) rfl))) (fun _ => rfl) ?_
  refine ZW_sm (pc' := 711) (ls' := [some (.ref x)]) (st' := [.int 101, .int 107, .ref (x + 8), .ref (x + 8), .ref x]) (s_bipush (v := 101) (by decide) (dk_X12_init_18 (709, .bipush 101, 2) (List.mem_of_getElem? (i := 13) rfl))) (fun _ => rfl) ?_
  refine Z_iasK (AV_in v122 (by omega) (by omega)) hS.2.2.2.2.2.2.2.2.1 (zb_in (by decide)) (j := 107) (by decide) (dk_X12_init_18 (711, .iastore, 1) (List.mem_of_getElem? (i := 14) rfl)) ?_
  refine ZW_sm (pc' := 713) (ls' := [some (.ref x)]) (st' := [.ref (x + 8), .ref (x + 8), .ref x]) (s_dup (dk_X12_init_18 (712, .dup, 1) (List.mem_of_getElem? (i := 15) rfl))) (fun _ => rfl) ?_
  refine ZW_sm (pc' := 715) (ls' := [some (.ref x)]) (st' := [.int 108, .ref (x + 8), .ref (x + 8), .ref x]) (s_bipush (v := 108) (by decide) (dk_X12_init_18 (713, .bipush 108, 2) (List.mem_of_getElem? (i := 16) rfl))) (fun _ => rfl) ?_
  refine ZW_sm (pc' := 717) (ls' := [some (.ref x)]) (st' := [.int 32, .int 108, .ref (x + 8), .ref (x + 8), .ref x]) (s_bipush (v := 32) (by decide) (dk_X12_init_18 (715, .bipush 32, 2) (List.mem_of_getElem? (i := 17) rfl))) (fun _ => rfl) ?_
  refine Z_iasK (AV_in v123 (by omega) (by omega)) hS.2.2.2.2.2.2.2.2.1 (zb_in (by decide)) (j := 108) (by decide) (dk_X12_init_18 (717, .iastore, 1) (List.mem_of_getElem? (i := 18) rfl)) ?_
  refine ZW_sm (pc' := 719) (ls' := [some (.ref x)]) (st' := [.ref (x + 8), .ref (x + 8), .ref x]) (s_dup (dk_X12_init_18 (718, .dup, 1) (List.mem_of_getElem? (i := 19) rfl))) (fun _ => rfl) ?_
  refine ZW_sm (pc' := 721) (ls' := [some (.ref x)]) (st' := [.int 109, .ref (x + 8), .ref (x + 8), .ref x]) (s_bipush (v := 109) (by decide) (dk_X12_init_18 (719, .bipush 109, 2) (List.mem_of_getElem? (i := 20) rfl))) (fun _ => rfl) ?_
  refine ZW_sm (pc' := 723) (ls' := [some (.ref x)]) (st' := [.int 102, .int 109, .ref (x + 8), .ref (x + 8), .ref x]) (s_bipush (v := 102) (by decide) (dk_X12_init_18 (721, .bipush 102, 2) (List.mem_of_getElem? (i := 21) rfl))) (fun _ => rfl) ?_
  refine Z_iasK (AV_in v124 (by omega) (by omega)) hS.2.2.2.2.2.2.2.2.1 (zb_in (by decide)) (j := 109) (by decide) (dk_X12_init_18 (723, .iastore, 1) (List.mem_of_getElem? (i := 22) rfl)) ?_
  refine ZW_sm (pc' := 725) (ls' := [some (.ref x)]) (st' := [.ref (x + 8), .ref (x + 8), .ref x]) (s_dup (dk_X12_init_18 (724, .dup, 1) (List.mem_of_getElem? (i := 23) rfl))) (fun _ => rfl) ?_
  refine ZW_sm (pc' := 727) (ls' := [some (.ref x)]) (st' := [.int 110, .ref (x + 8), .ref (x + 8), .ref x]) (s_bipush (v := 110) (by decide) (dk_X12_init_18 (725, .bipush 110, 2) (List.mem_of_getElem? (i := 24) rfl))) (fun _ => rfl) ?_
  refine ZW_sm (pc' := 729) (ls' := [some (.ref x)]) (st' := [.int 114, .int 110, .ref (x + 8), .ref (x + 8), .ref x]) (s_bipush (v := 114) (by decide) (dk_X12_init_19 (727, .bipush 114, 2) (List.mem_of_getElem? (i := 0) rfl))) (fun _ => rfl) ?_
  refine Z_iasK (AV_in v125 (by omega) (by omega)) hS.2.2.2.2.2.2.2.2.1 (zb_in (by decide)) (j := 110) (by decide) (dk_X12_init_19 (729, .iastore, 1) (List.mem_of_getElem? (i := 1) rfl)) ?_
  refine ZW_sm (pc' := 731) (ls' := [some (.ref x)]) (st' := [.ref (x + 8), .ref (x + 8), .ref x]) (s_dup (dk_X12_init_19 (730, .dup, 1) (List.mem_of_getElem? (i := 2) rfl))) (fun _ => rfl) ?_
  refine ZW_sm (pc' := 733) (ls' := [some (.ref x)]) (st' := [.int 111, .ref (x + 8), .ref (x + 8), .ref x]) (s_bipush (v := 111) (by decide) (dk_X12_init_19 (731, .bipush 111, 2) (List.mem_of_getElem? (i := 3) rfl))) (fun _ => rfl) ?_
  refine ZW_sm (pc' := 735) (ls' := [some (.ref x)]) (st' := [.int 101, .int 111, .ref (x + 8), .ref (x + 8), .ref x]) (s_bipush (v := 101) (by decide) (dk_X12_init_19 (733, .bipush 101, 2) (List.mem_of_getElem? (i := 4) rfl))) (fun _ => rfl) ?_
  refine Z_iasK (AV_in v126 (by omega) (by omega)) hS.2.2.2.2.2.2.2.2.1 (zb_in (by decide)) (j := 111) (by decide) (dk_X12_init_19 (735, .iastore, 1) (List.mem_of_getElem? (i := 5) rfl)) ?_
  refine ZW_sm (pc' := 737) (ls' := [some (.ref x)]) (st' := [.ref (x + 8), .ref (x + 8), .ref x]) (s_dup (dk_X12_init_19 (736, .dup, 1) (List.mem_of_getElem? (i := 6) rfl))) (fun _ => rfl) ?_
  refine ZW_sm (pc' := 739) (ls' := [some (.ref x)]) (st' := [.int 112, .ref (x + 8), .ref (x + 8), .ref x]) (s_bipush (v := 112) (by decide) (dk_X12_init_19 (737, .bipush 112, 2) (List.mem_of_getElem? (i := 7) rfl))) (fun _ => rfl) ?_
  refine ZW_sm (pc' := 741) (ls' := [some (.ref x)]) (st' := [.int 101, .int 112, .ref (x + 8), .ref (x + 8), .ref x]) (s_bipush (v := 101) (by decide) (dk_X12_init_19 (739, .bipush 101, 2) (List.mem_of_getElem? (i := 8) rfl))) (fun _ => rfl) ?_
  refine Z_iasK (AV_in v127 (by omega) (by omega)) hS.2.2.2.2.2.2.2.2.1 (zb_in (by decide)) (j := 112) (by decide) (dk_X12_init_19 (741, .iastore, 1) (List.mem_of_getElem? (i := 9) rfl)) ?_
  refine ZW_sm (pc' := 743) (ls' := [some (.ref x)]) (st' := [.ref (x + 8), .ref (x + 8), .ref x]) (s_dup (dk_X12_init_19 (742, .dup, 1) (List.mem_of_getElem? (i := 10) rfl))) (fun _ => rfl) ?_
  refine ZW_sm (pc' := 745) (ls' := [some (.ref x)]) (st' := [.int 113, .ref (x + 8), .ref (x + 8), .ref x]) (s_bipush (v := 113) (by decide) (dk_X12_init_19 (743, .bipush 113, 2) (List.mem_of_getElem? (i := 11) rfl))) (fun _ => rfl) ?_
  refine ZW_sm (pc' := 747) (ls' := [some (.ref x)]) (st' := [.int 32, .int 113, .ref (x + 8), .ref (x + 8), .ref x]) (s_bipush (v := 32) (by decide) (dk_X12_init_19 (745, .bipush 32, 2) (List.mem_of_getElem? (i := 12) rfl))) (fun _ => rfl) ?_
  refine Z_iasK (AV_in v128 (by omega) (by omega)) hS.2.2.2.2.2.2.2.2.1 (zb_in (by decide)) (j := 113) (by decide) (dk_X12_init_19 (747, .iastore, 1) (List.mem_of_getElem? (i := 13) rfl)) ?_
  refine ZW_sm (pc' := 749) (ls' := [some (.ref x)]) (st' := [.ref (x + 8), .ref (x + 8), .ref x]) (s_dup (dk_X12_init_19 (748, .dup, 1) (List.mem_of_getElem? (i := 14) rfl))) (fun _ => rfl) ?_
  refine ZW_sm (pc' := 751) (ls' := [some (.ref x)]) (st' := [.int 114, .ref (x + 8), .ref (x + 8), .ref x]) (s_bipush (v := 114) (by decide) (dk_X12_init_19 (749, .bipush 114, 2) (List.mem_of_getElem? (i := 15) rfl))) (fun _ => rfl) ?_
  refine ZW_sm (pc' := 753) (ls' := [some (.ref x)]) (st' := [.int 114, .int 114, .ref (x + 8), .ref (x + 8), .ref x]) (s_bipush (v := 114) (by decide) (dk_X12_init_19 (751, .bipush 114, 2) (List.mem_of_getElem? (i := 16) rfl))) (fun _ => rfl) ?_
  refine Z_iasK (AV_in v129 (by omega) (by omega)) hS.2.2.2.2.2.2.2.2.1 (zb_in (by decide)) (j := 114) (by decide) (dk_X12_init_19 (753, .iastore, 1) (List.mem_of_getElem? (i := 17) rfl)) ?_
  refine ZW_sm (pc' := 755) (ls' := [some (.ref x)]) (st' := [.ref (x + 8), .ref (x + 8), .ref x]) (s_dup (dk_X12_init_19 (754, .dup, 1) (List.mem_of_getElem? (i := 18) rfl))) (fun _ => rfl) ?_
  refine ZW_sm (pc' := 757) (ls' := [some (.ref x)]) (st' := [.int 115, .ref (x + 8), .ref (x + 8), .ref x]) (s_bipush (v := 115) (by decide) (dk_X12_init_19 (755, .bipush 115, 2) (List.mem_of_getElem? (i := 19) rfl))) (fun _ => rfl) ?_
  refine ZW_sm (pc' := 759) (ls' := [some (.ref x)]) (st' := [.int 101, .int 115, .ref (x + 8), .ref (x + 8), .ref x]) (s_bipush (v := 101) (by decide) (dk_X12_init_19 (757, .bipush 101, 2) (List.mem_of_getElem? (i := 20) rfl))) (fun _ => rfl) ?_
  refine Z_iasK (AV_in v130 (by omega) (by omega)) hS.2.2.2.2.2.2.2.2.1 (zb_in (by decide)) (j := 115) (by decide) (dk_X12_init_19 (759, .iastore, 1) (List.mem_of_getElem? (i := 21) rfl)) ?_
  refine ZW_sm (pc' := 761) (ls' := [some (.ref x)]) (st' := [.ref (x + 8), .ref (x + 8), .ref x]) (s_dup (dk_X12_init_19 (760, .dup, 1) (List.mem_of_getElem? (i := 22) rfl))) (fun _ => rfl) ?_
  refine ZW_sm (pc' := 763) (ls' := [some (.ref x)]) (st' := [.int 116, .ref (x + 8), .ref (x + 8), .ref x]) (s_bipush (v := 116) (by decide) (dk_X12_init_19 (761, .bipush 116, 2) (List.mem_of_getElem? (i := 23) rfl))) (fun _ => rfl) ?_
  refine ZW_sm (pc' := 765) (ls' := [some (.ref x)]) (st' := [.int 99, .int 116, .ref (x + 8), .ref (x + 8), .ref x]) (s_bipush (v := 99) (by decide) (dk_X12_init_19 (763, .bipush 99, 2) (List.mem_of_getElem? (i := 24) rfl))) (fun _ => rfl) ?_
  refine Z_iasK (AV_in v131 (by omega) (by omega)) hS.2.2.2.2.2.2.2.2.1 (zb_in (by decide)) (j := 116) (by decide) (dk_X12_init_20 (765, .iastore, 1) (List.mem_of_getElem? (i := 0) rfl)) ?_
  refine ZW_sm (pc' := 767) (ls' := [some (.ref x)]) (st' := [.ref (x + 8), .ref (x + 8), .ref x]) (s_dup (dk_X12_init_20 (766, .dup, 1) (List.mem_of_getElem? (i := 1) rfl))) (fun _ => rfl) ?_
  refine ZW_sm (pc' := 769) (ls' := [some (.ref x)]) (st' := [.int 117, .ref (x + 8), .ref (x + 8), .ref x]) (s_bipush (v := 117) (by decide) (dk_X12_init_20 (767, .bipush 117, 2) (List.mem_of_getElem? (i := 2) rfl))) (fun _ => rfl) ?_
  refine ZW_sm (pc' := 771) (ls' := [some (.ref x)]) (st' := [.int 97, .int 117, .ref (x + 8), .ref (x + 8), .ref x]) (s_bipush (v := 97) (by decide) (dk_X12_init_20 (769, .bipush 97, 2) (List.mem_of_getElem? (i := 3) rfl))) (fun _ => rfl) ?_
  refine Z_iasK (AV_in v132 (by omega) (by omega)) hS.2.2.2.2.2.2.2.2.1 (zb_in (by decide)) (j := 117) (by decide) (dk_X12_init_20 (771, .iastore, 1) (List.mem_of_getElem? (i := 4) rfl)) ?_
  refine ZW_sm (pc' := 773) (ls' := [some (.ref x)]) (st' := [.ref (x + 8), .ref (x + 8), .ref x]) (s_dup (dk_X12_init_20 (772, .dup, 1) (List.mem_of_getElem? (i := 5) rfl))) (fun _ => rfl) ?_
  refine ZW_sm (pc' := 775) (ls' := [some (.ref x)]) (st' := [.int 118, .ref (x + 8), .ref (x + 8), .ref x]) (s_bipush (v := 118) (by decide) (dk_X12_init_20 (773, .bipush 118, 2) (List.mem_of_getElem? (i := 6) rfl))) (fun _ => rfl) ?_
  refine ZW_sm (pc' := 777) (ls' := [some (.ref x)]) (st' := [.int 108, .int 118, .ref (x + 8), .ref (x + 8), .ref x]) (s_bipush (v := 108) (by decide) (dk_X12_init_20 (775, .bipush 108, 2) (List.mem_of_getElem? (i := 7) rfl))) (fun _ => rfl) ?_
  refine Z_iasK (AV_in v133 (by omega) (by omega)) hS.2.2.2.2.2.2.2.2.1 (zb_in (by decide)) (j := 118) (by decide) (dk_X12_init_20 (777, .iastore, 1) (List.mem_of_getElem? (i := 8) rfl)) ?_
  refine ZW_sm (pc' := 779) (ls' := [some (.ref x)]) (st' := [.ref (x + 8), .ref (x + 8), .ref x]) (s_dup (dk_X12_init_20 (778, .dup, 1) (List.mem_of_getElem? (i := 9) rfl))) (fun _ => rfl) ?_
  refine ZW_sm (pc' := 781) (ls' := [some (.ref x)]) (st' := [.int 119, .ref (x + 8), .ref (x + 8), .ref x]) (s_bipush (v := 119) (by decide) (dk_X12_init_20 (779, .bipush 119, 2) (List.mem_of_getElem? (i := 10) rfl))) (fun _ => rfl) ?_
  refine ZW_sm (pc' := 783) (ls' := [some (.ref x)]) (st' := [.int 108, .int 119, .ref (x + 8), .ref (x + 8), .ref x]) (s_bipush (v := 108) (by decide) (dk_X12_init_20 (781, .bipush 108, 2) (List.mem_of_getElem? (i := 11) rfl))) (fun _ => rfl) ?_
  refine Z_iasK (AV_in v134 (by omega) (by omega)) hS.2.2.2.2.2.2.2.2.1 (zb_in (by decide)) (j := 119) (by decide) (dk_X12_init_20 (783, .iastore, 1) (List.mem_of_getElem? (i := 12) rfl)) ?_
  refine ZW_sm (pc' := 785) (ls' := [some (.ref x)]) (st' := [.ref (x + 8), .ref (x + 8), .ref x]) (s_dup (dk_X12_init_20 (784, .dup, 1) (List.mem_of_getElem? (i := 13) rfl))) (fun _ => rfl) ?_
  refine ZW_sm (pc' := 787) (ls' := [some (.ref x)]) (st' := [.int 120, .ref (x + 8), .ref (x + 8), .ref x]) (s_bipush (v := 120) (by decide) (dk_X12_init_20 (785, .bipush 120, 2) (List.mem_of_getElem? (i := 14) rfl))) (fun _ => rfl) ?_
  refine ZW_sm (pc' := 789) (ls' := [some (.ref x)]) (st' := [.int 32, .int 120, .ref (x + 8), .ref (x + 8), .ref x]) (s_bipush (v := 32) (by decide) (dk_X12_init_20 (787, .bipush 32, 2) (List.mem_of_getElem? (i := 15) rfl))) (fun _ => rfl) ?_
  refine Z_iasK (AV_in v135 (by omega) (by omega)) hS.2.2.2.2.2.2.2.2.1 (zb_in (by decide)) (j := 120) (by decide) (dk_X12_init_20 (789, .iastore, 1) (List.mem_of_getElem? (i := 16) rfl)) ?_
  refine ZW_sm (pc' := 791) (ls' := [some (.ref x)]) (st' := [.ref (x + 8), .ref (x + 8), .ref x]) (s_dup (dk_X12_init_20 (790, .dup, 1) (List.mem_of_getElem? (i := 17) rfl))) (fun _ => rfl) ?_
  refine ZW_sm (pc' := 793) (ls' := [some (.ref x)]) (st' := [.int 121, .ref (x + 8), .ref (x + 8), .ref x]) (s_bipush (v := 121) (by decide) (dk_X12_init_20 (791, .bipush 121, 2) (List.mem_of_getElem? (i := 18) rfl))) (fun _ => rfl) ?_
  refine ZW_sm (pc' := 795) (ls' := [some (.ref x)]) (st' := [.int 116, .int 121, .ref (x + 8), .ref (x + 8), .ref x]) (s_bipush (v := 116) (by decide) (dk_X12_init_20 (793, .bipush 116, 2) (List.mem_of_getElem? (i := 19) rfl))) (fun _ => rfl) ?_
  refine Z_iasK (AV_in v136 (by omega) (by omega)) hS.2.2.2.2.2.2.2.2.1 (zb_in (by decide)) (j := 121) (by decide) (dk_X12_init_20 (795, .iastore, 1) (List.mem_of_getElem? (i := 20) rfl)) ?_
  refine ZW_sm (pc' := 797) (ls' := [some (.ref x)]) (st' := [.ref (x + 8), .ref (x + 8), .ref x]) (s_dup (dk_X12_init_20 (796, .dup, 1) (List.mem_of_getElem? (i := 21) rfl))) (fun _ => rfl) ?_
  refine ZW_sm (pc' := 799) (ls' := [some (.ref x)]) (st' := [.int 122, .ref (x + 8), .ref (x + 8), .ref x]) (s_bipush (v := 122) (by decide) (dk_X12_init_20 (797, .bipush 122, 2) (List.mem_of_getElem? (i := 22) rfl))) (fun _ => rfl) ?_
  refine ZW_sm (pc' := 801) (ls' := [some (.ref x)]) (st' := [.int 97, .int 122, .ref (x + 8), .ref (x + 8), .ref x]) (s_bipush (v := 97) (by decide) (dk_X12_init_20 (799, .bipush 97, 2) (List.mem_of_getElem? (i := 23) rfl))) (fun _ => rfl) ?_
  refine Z_iasK (AV_in v137 (by omega) (by omega)) hS.2.2.2.2.2.2.2.2.1 (zb_in (by decide)) (j := 122) (by decide) (dk_X12_init_20 (801, .iastore, 1) (List.mem_of_getElem? (i := 24) rfl)) ?_
  refine ZW_sm (pc' := 803) (ls' := [some (.ref x)]) (st' := [.ref (x + 8), .ref (x + 8), .ref x]) (s_dup (dk_X12_init_21 (802, .dup, 1) (List.mem_of_getElem? (i := 0) rfl))) (fun _ => rfl) ?_
  refine ZW_sm (pc' := 805) (ls' := [some (.ref x)]) (st' := [.int 123, .ref (x + 8), .ref (x + 8), .ref x]) (s_bipush (v := 123) (by decide) (dk_X12_init_21 (803, .bipush 123, 2) (List.mem_of_getElem? (i := 1) rfl))) (fun _ => rfl) ?_
  refine ZW_sm (pc' := 807) (ls' := [some (.ref x)]) (st' := [.int 112, .int 123, .ref (x + 8), .ref (x + 8), .ref x]) (s_bipush (v := 112) (by decide) (dk_X12_init_21 (805, .bipush 112, 2) (List.mem_of_getElem? (i := 2) rfl))) (fun _ => rfl) ?_
  refine Z_iasK (AV_in v138 (by omega) (by omega)) hS.2.2.2.2.2.2.2.2.1 (zb_in (by decide)) (j := 123) (by decide) (dk_X12_init_21 (807, .iastore, 1) (List.mem_of_getElem? (i := 3) rfl)) ?_
  refine ZW_sm (pc' := 809) (ls' := [some (.ref x)]) (st' := [.ref (x + 8), .ref (x + 8), .ref x]) (s_dup (dk_X12_init_21 (808, .dup, 1) (List.mem_of_getElem? (i := 4) rfl))) (fun _ => rfl) ?_
  refine ZW_sm (pc' := 811) (ls' := [some (.ref x)]) (st' := [.int 124, .ref (x + 8), .ref (x + 8), .ref x]) (s_bipush (v := 124) (by decide) (dk_X12_init_21 (809, .bipush 124, 2) (List.mem_of_getElem? (i := 5) rfl))) (fun _ => rfl) ?_
  refine ZW_sm (pc' := 813) (ls' := [some (.ref x)]) (st' := [.int 32, .int 124, .ref (x + 8), .ref (x + 8), .ref x]) (s_bipush (v := 32) (by decide) (dk_X12_init_21 (811, .bipush 32, 2) (List.mem_of_getElem? (i := 6) rfl))) (fun _ => rfl) ?_
  refine Z_iasK (AV_in v139 (by omega) (by omega)) hS.2.2.2.2.2.2.2.2.1 (zb_in (by decide)) (j := 124) (by decide) (dk_X12_init_21 (813, .iastore, 1) (List.mem_of_getElem? (i := 7) rfl)) ?_
  refine Z_ptR (AV_in v140 (by omega) (by omega)) hS.1 (by decide) (by decide) rfl (Or.inr ⟨rfl, rfl, rfl⟩) (fun _ => rfl) (fun _ => rfl) cf_RX12_31 (dk_X12_init_21 (814, .putfield 31, 3) (List.mem_of_getElem? (i := 8) rfl)) ?_
  refine ZW_sm (pc' := 818) (ls' := [some (.ref x)]) (st' := [.ref x]) (s_aload_n rfl (dk_X12_init_21 (817, .aload_n 0, 1) (List.mem_of_getElem? (i := 9) rfl))) (fun _ => rfl) ?_
  refine ZW_sm (pc' := 819) (ls' := [some (.ref x)]) (st' := [.int 2, .ref x]) (s_iconst (v := 2) (by decide) (dk_X12_init_21 (818, .iconst 2, 1) (List.mem_of_getElem? (i := 10) rfl))) (fun _ => rfl) ?_
  refine Z_nwI (a := (x + 9)) (n := 2) hS.2.2.2.2.2.2.2.2.2.1 (by decide) (by decide) (by decide) (AV_fr v141 hf (by omega) (by omega)) (AV_fr v0 hf (by omega) (by omega)) (by omega) (AV_cl v141) ⟨by omega, trivial⟩ ⟨by omega, trivial⟩ cb_ai ⟨by decide, by decide⟩ (dk_X12_init_21 (819, .newarray .int, 2) (List.mem_of_getElem? (i := 11) rfl)) ?_
  refine Z_ptR (AV_in v142 (by omega) (by omega)) hS.1 (by decide) (by decide) rfl (Or.inr ⟨rfl, rfl, rfl⟩) (fun _ => rfl) (fun _ => rfl) cf_RX12_34 (dk_X12_init_21 (821, .putfield 34, 3) (List.mem_of_getElem? (i := 12) rfl)) ?_
  refine ZW_sm (pc' := 825) (ls' := [some (.ref x)]) (st' := [.ref x]) (s_aload_n rfl (dk_X12_init_21 (824, .aload_n 0, 1) (List.mem_of_getElem? (i := 13) rfl))) (fun _ => rfl) ?_
  refine ZW_sm (pc' := 827) (ls' := [some (.ref x)]) (st' := [.int 48, .ref x]) (s_bipush (v := 48) (by decide) (dk_X12_init_21 (825, .bipush 48, 2) (List.mem_of_getElem? (i := 14) rfl))) (fun _ => rfl) ?_
  refine Z_nwI (a := (x + 10)) (n := 48) hS.2.2.2.2.2.2.2.2.2.2.1 (by decide) (by decide) (by decide) (AV_fr v143 hf (by omega) (by omega)) (AV_fr v0 hf (by omega) (by omega)) (by omega) (AV_cl v143) ⟨by omega, trivial⟩ ⟨by omega, trivial⟩ cb_ai ⟨by decide, by decide⟩ (dk_X12_init_21 (827, .newarray .int, 2) (List.mem_of_getElem? (i := 15) rfl)) ?_
  refine Z_ptR (AV_in v144 (by omega) (by omega)) hS.1 (by decide) (by decide) rfl (Or.inr ⟨rfl, rfl, rfl⟩) (fun _ => rfl) (fun _ => rfl) cf_RX12_37 (dk_X12_init_21 (829, .putfield 37, 3) (List.mem_of_getElem? (i := 16) rfl)) ?_
  refine ZW_sm (pc' := 833) (ls' := [some (.ref x)]) (st' := [.ref x]) (s_aload_n rfl (dk_X12_init_21 (832, .aload_n 0, 1) (List.mem_of_getElem? (i := 17) rfl))) (fun _ => rfl) ?_
  refine ZW_sm (pc' := 835) (ls' := [some (.ref x)]) (st' := [.int 48, .ref x]) (s_bipush (v := 48) (by decide) (dk_X12_init_21 (833, .bipush 48, 2) (List.mem_of_getElem? (i := 18) rfl))) (fun _ => rfl) ?_
  refine Z_nwI (a := (x + 11)) (n := 48) hS.2.2.2.2.2.2.2.2.2.2.2.1 (by decide) (by decide) (by decide) (AV_fr v145 hf (by omega) (by omega)) (AV_fr v0 hf (by omega) (by omega)) (by omega) (AV_cl v145) ⟨by omega, trivial⟩ ⟨by omega, trivial⟩ cb_ai ⟨by decide, by decide⟩ (dk_X12_init_21 (835, .newarray .int, 2) (List.mem_of_getElem? (i := 19) rfl)) ?_
  refine Z_ptR (AV_in v146 (by omega) (by omega)) hS.1 (by decide) (by decide) rfl (Or.inr ⟨rfl, rfl, rfl⟩) (fun _ => rfl) (fun _ => rfl) cf_RX12_40 (dk_X12_init_21 (837, .putfield 40, 3) (List.mem_of_getElem? (i := 20) rfl)) ?_
  refine ZW_sm (pc' := 841) (ls' := [some (.ref x)]) (st' := [.ref x]) (s_aload_n rfl (dk_X12_init_21 (840, .aload_n 0, 1) (List.mem_of_getElem? (i := 21) rfl))) (fun _ => rfl) ?_
  refine ZW_sm (pc' := 843) (ls' := [some (.ref x)]) (st' := [.int 48, .ref x]) (s_bipush (v := 48) (by decide) (dk_X12_init_21 (841, .bipush 48, 2) (List.mem_of_getElem? (i := 22) rfl))) (fun _ => rfl) ?_
  refine Z_nwI (a := (x + 12)) (n := 48) hS.2.2.2.2.2.2.2.2.2.2.2.2.1 (by decide) (by decide) (by decide) (AV_fr v147 hf (by omega) (by omega)) (AV_fr v0 hf (by omega) (by omega)) (by omega) (AV_cl v147) ⟨by omega, trivial⟩ ⟨by omega, trivial⟩ cb_ai ⟨by decide, by decide⟩ (dk_X12_init_21 (843, .newarray .int, 2) (List.mem_of_getElem? (i := 23) rfl)) ?_
  refine Z_ptR (AV_in v148 (by omega) (by omega)) hS.1 (by decide) (by decide) rfl (Or.inr ⟨rfl, rfl, rfl⟩) (fun _ => rfl) (fun _ => rfl) cf_RX12_43 (dk_X12_init_21 (845, .putfield 43, 3) (List.mem_of_getElem? (i := 24) rfl)) ?_
  refine ZW_sm (pc' := 849) (ls' := [some (.ref x)]) (st' := [.ref x]) (s_aload_n rfl (dk_X12_init_22 (848, .aload_n 0, 1) (List.mem_of_getElem? (i := 0) rfl))) (fun _ => rfl) ?_
  refine ZW_sm (pc' := 851) (ls' := [some (.ref x)]) (st' := [.int 48, .ref x]) (s_bipush (v := 48) (by decide) (dk_X12_init_22 (849, .bipush 48, 2) (List.mem_of_getElem? (i := 1) rfl))) (fun _ => rfl) ?_
  refine Z_nwI (a := (x + 13)) (n := 48) hS.2.2.2.2.2.2.2.2.2.2.2.2.2.1 (by decide) (by decide) (by decide) (AV_fr v149 hf (by omega) (by omega)) (AV_fr v0 hf (by omega) (by omega)) (by omega) (AV_cl v149) ⟨by omega, trivial⟩ ⟨by omega, trivial⟩ cb_ai ⟨by decide, by decide⟩ (dk_X12_init_22 (851, .newarray .int, 2) (List.mem_of_getElem? (i := 2) rfl)) ?_
  refine Z_ptR (AV_in v150 (by omega) (by omega)) hS.1 (by decide) (by decide) rfl (Or.inr ⟨rfl, rfl, rfl⟩) (fun _ => rfl) (fun _ => rfl) cf_RX12_46 (dk_X12_init_22 (853, .putfield 46, 3) (List.mem_of_getElem? (i := 3) rfl)) ?_
  refine ZW_sm (pc' := 857) (ls' := [some (.ref x)]) (st' := [.ref x]) (s_aload_n rfl (dk_X12_init_22 (856, .aload_n 0, 1) (List.mem_of_getElem? (i := 4) rfl))) (fun _ => rfl) ?_
  refine ZW_sm (pc' := 860) (ls' := [some (.ref x)]) (st' := [.int 1200, .ref x]) (s_sipush (v := 1200) (by decide) (dk_X12_init_22 (857, .sipush 1200, 3) (List.mem_of_getElem? (i := 5) rfl))) (fun _ => rfl) ?_
  refine Z_nwI (a := (x + 14)) (n := 1200) hS.2.2.2.2.2.2.2.2.2.2.2.2.2.2.1 (by decide) (by decide) (by decide) (AV_fr v151 hf (by omega) (by omega)) (AV_fr v0 hf (by omega) (by omega)) (by omega) (AV_cl v151) ⟨by omega, trivial⟩ ⟨by omega, trivial⟩ cb_ai ⟨by decide, by decide⟩ (dk_X12_init_22 (860, .newarray .int, 2) (List.mem_of_getElem? (i := 6) rfl)) ?_
  refine Z_ptR (AV_in v152 (by omega) (by omega)) hS.1 (by decide) (by decide) rfl (Or.inr ⟨rfl, rfl, rfl⟩) (fun _ => rfl) (fun _ => rfl) cf_RX12_49 (dk_X12_init_22 (862, .putfield 49, 3) (List.mem_of_getElem? (i := 7) rfl)) ?_
  refine ZW_sm (pc' := 866) (ls' := [some (.ref x)]) (st' := [.ref x]) (s_aload_n rfl (dk_X12_init_22 (865, .aload_n 0, 1) (List.mem_of_getElem? (i := 8) rfl))) (fun _ => rfl) ?_
  refine ZW_sm (pc' := 869) (ls' := [some (.ref x)]) (st' := [.int 1200, .ref x]) (s_sipush (v := 1200) (by decide) (dk_X12_init_22 (866, .sipush 1200, 3) (List.mem_of_getElem? (i := 9) rfl))) (fun _ => rfl) ?_
  refine Z_nwI (a := (x + 15)) (n := 1200) hS.2.2.2.2.2.2.2.2.2.2.2.2.2.2.2.1 (by decide) (by decide) (by decide) (AV_fr v153 hf (by omega) (by omega)) (AV_fr v0 hf (by omega) (by omega)) (by omega) (AV_cl v153) ⟨by omega, trivial⟩ ⟨by omega, trivial⟩ cb_ai ⟨by decide, by decide⟩ (dk_X12_init_22 (869, .newarray .int, 2) (List.mem_of_getElem? (i := 10) rfl)) ?_
  refine Z_ptR (AV_in v154 (by omega) (by omega)) hS.1 (by decide) (by decide) rfl (Or.inr ⟨rfl, rfl, rfl⟩) (fun _ => rfl) (fun _ => rfl) cf_RX12_52 (dk_X12_init_22 (871, .putfield 52, 3) (List.mem_of_getElem? (i := 11) rfl)) ?_
  refine ZW_sm (pc' := 875) (ls' := [some (.ref x)]) (st' := [.ref x]) (s_aload_n rfl (dk_X12_init_22 (874, .aload_n 0, 1) (List.mem_of_getElem? (i := 12) rfl))) (fun _ => rfl) ?_
  refine ZW_sm (pc' := 877) (ls' := [some (.ref x)]) (st' := [.int 40, .ref x]) (s_bipush (v := 40) (by decide) (dk_X12_init_22 (875, .bipush 40, 2) (List.mem_of_getElem? (i := 13) rfl))) (fun _ => rfl) ?_
  refine Z_nwI (a := (x + 16)) (n := 40) hS.2.2.2.2.2.2.2.2.2.2.2.2.2.2.2.2.1 (by decide) (by decide) (by decide) (AV_fr v155 hf (by omega) (by omega)) (AV_fr v0 hf (by omega) (by omega)) (by omega) (AV_cl v155) ⟨by omega, trivial⟩ ⟨by omega, trivial⟩ cb_ai ⟨by decide, by decide⟩ (dk_X12_init_22 (877, .newarray .int, 2) (List.mem_of_getElem? (i := 14) rfl)) ?_
  refine Z_ptR (AV_in v156 (by omega) (by omega)) hS.1 (by decide) (by decide) rfl (Or.inr ⟨rfl, rfl, rfl⟩) (fun _ => rfl) (fun _ => rfl) cf_RX12_55 (dk_X12_init_22 (879, .putfield 55, 3) (List.mem_of_getElem? (i := 15) rfl)) ?_
  refine ZW_sm (pc' := 883) (ls' := [some (.ref x)]) (st' := [.ref x]) (s_aload_n rfl (dk_X12_init_22 (882, .aload_n 0, 1) (List.mem_of_getElem? (i := 16) rfl))) (fun _ => rfl) ?_
  refine ZW_sm (pc' := 884) (ls' := [some (.ref x)]) (st' := [.int (-1), .ref x]) (s_iconst (v := (-1)) (by decide) (dk_X12_init_22 (883, .iconst (-1), 1) (List.mem_of_getElem? (i := 17) rfl))) (fun _ => rfl) ?_
  refine Z_ptI (AV_in v157 (by omega) (by omega)) hS.1 (by decide) (by decide) rfl (Or.inl rfl) rfl rfl cf_RX12_58 (dk_X12_init_22 (884, .putfield 58, 3) (List.mem_of_getElem? (i := 18) rfl)) ?_
  refine ZW_sm (pc' := 888) (ls' := [some (.ref x)]) (st' := [.ref x]) (s_aload_n rfl (dk_X12_init_22 (887, .aload_n 0, 1) (List.mem_of_getElem? (i := 19) rfl))) (fun _ => rfl) ?_
  refine ZW_sm (pc' := 890) (ls' := [some (.ref x)]) (st' := [.int 48, .ref x]) (s_bipush (v := 48) (by decide) (dk_X12_init_22 (888, .bipush 48, 2) (List.mem_of_getElem? (i := 20) rfl))) (fun _ => rfl) ?_
  refine Z_nwI (a := (x + 17)) (n := 48) hS.2.2.2.2.2.2.2.2.2.2.2.2.2.2.2.2.2.1 (by decide) (by decide) (by decide) (AV_fr v158 hf (by omega) (by omega)) (AV_fr v0 hf (by omega) (by omega)) (by omega) (AV_cl v158) ⟨by omega, trivial⟩ ⟨by omega, trivial⟩ cb_ai ⟨by decide, by decide⟩ (dk_X12_init_22 (890, .newarray .int, 2) (List.mem_of_getElem? (i := 21) rfl)) ?_
  refine Z_ptR (AV_in v159 (by omega) (by omega)) hS.1 (by decide) (by decide) rfl (Or.inr ⟨rfl, rfl, rfl⟩) (fun _ => rfl) (fun _ => rfl) cf_RX12_62 (dk_X12_init_22 (892, .putfield 62, 3) (List.mem_of_getElem? (i := 22) rfl)) ?_
  refine ZW_sm (pc' := 896) (ls' := [some (.ref x)]) (st' := [.ref x]) (s_aload_n rfl (dk_X12_init_22 (895, .aload_n 0, 1) (List.mem_of_getElem? (i := 23) rfl))) (fun _ => rfl) ?_
  refine ZW_sm (pc' := 899) (ls' := [some (.ref x)]) (st' := [.int 128, .ref x]) (s_sipush (v := 128) (by decide) (dk_X12_init_22 (896, .sipush 128, 3) (List.mem_of_getElem? (i := 24) rfl))) (fun _ => rfl) ?_
  refine Z_nwI (a := (x + 18)) (n := 128) hS.2.2.2.2.2.2.2.2.2.2.2.2.2.2.2.2.2.2.1 (by decide) (by decide) (by decide) (AV_fr v160 hf (by omega) (by omega)) (AV_fr v0 hf (by omega) (by omega)) (by omega) (AV_cl v160) ⟨by omega, trivial⟩ ⟨by omega, trivial⟩ cb_ai ⟨by decide, by decide⟩ (dk_X12_init_23 (899, .newarray .int, 2) (List.mem_of_getElem? (i := 0) rfl)) ?_
  refine Z_ptR (AV_in v161 (by omega) (by omega)) hS.1 (by decide) (by decide) rfl (Or.inr ⟨rfl, rfl, rfl⟩) (fun _ => rfl) (fun _ => rfl) cf_RX12_65 (dk_X12_init_23 (901, .putfield 65, 3) (List.mem_of_getElem? (i := 1) rfl)) ?_
  refine ZW_sm (pc' := 905) (ls' := [some (.ref x)]) (st' := [.ref x]) (s_aload_n rfl (dk_X12_init_23 (904, .aload_n 0, 1) (List.mem_of_getElem? (i := 2) rfl))) (fun _ => rfl) ?_
  refine ZW_sm (pc' := 907) (ls' := [some (.ref x)]) (st' := [.int 9, .ref x]) (s_bipush (v := 9) (by decide) (dk_X12_init_23 (905, .bipush 9, 2) (List.mem_of_getElem? (i := 3) rfl))) (fun _ => rfl) ?_
  refine Z_nwI (a := (x + 19)) (n := 9) hS.2.2.2.2.2.2.2.2.2.2.2.2.2.2.2.2.2.2.2.1 (by decide) (by decide) (by decide) (AV_fr v162 hf (by omega) (by omega)) (AV_fr v0 hf (by omega) (by omega)) (by omega) (AV_cl v162) ⟨by omega, trivial⟩ ⟨by omega, trivial⟩ cb_ai ⟨by decide, by decide⟩ (dk_X12_init_23 (907, .newarray .int, 2) (List.mem_of_getElem? (i := 4) rfl)) ?_
  refine Z_ptR (AV_in v163 (by omega) (by omega)) hS.1 (by decide) (by decide) rfl (Or.inr ⟨rfl, rfl, rfl⟩) (fun _ => rfl) (fun _ => rfl) cf_RX12_68 (dk_X12_init_23 (909, .putfield 68, 3) (List.mem_of_getElem? (i := 5) rfl)) ?_
  refine ZW_sm (pc' := 913) (ls' := [some (.ref x)]) (st' := [.ref x]) (s_aload_n rfl (dk_X12_init_23 (912, .aload_n 0, 1) (List.mem_of_getElem? (i := 6) rfl))) (fun _ => rfl) ?_
  refine ZW_sm (pc' := 916) (ls' := [some (.ref x)]) (st' := [.int 420, .ref x]) (s_sipush (v := 420) (by decide) (dk_X12_init_23 (913, .sipush 420, 3) (List.mem_of_getElem? (i := 7) rfl))) (fun _ => rfl) ?_
  refine Z_nwI (a := (x + 20)) (n := 420) hS.2.2.2.2.2.2.2.2.2.2.2.2.2.2.2.2.2.2.2.2.1 (by decide) (by decide) (by decide) (AV_fr v164 hf (by omega) (by omega)) (AV_fr v0 hf (by omega) (by omega)) (by omega) (AV_cl v164) ⟨by omega, trivial⟩ ⟨by omega, trivial⟩ cb_ai ⟨by decide, by decide⟩ (dk_X12_init_23 (916, .newarray .int, 2) (List.mem_of_getElem? (i := 8) rfl)) ?_
  refine Z_ptR (AV_in v165 (by omega) (by omega)) hS.1 (by decide) (by decide) rfl (Or.inr ⟨rfl, rfl, rfl⟩) (fun _ => rfl) (fun _ => rfl) cf_RX12_71 (dk_X12_init_23 (918, .putfield 71, 3) (List.mem_of_getElem? (i := 9) rfl)) ?_
  refine ZW_sm (pc' := 922) (ls' := [some (.ref x)]) (st' := [.ref x]) (s_aload_n rfl (dk_X12_init_23 (921, .aload_n 0, 1) (List.mem_of_getElem? (i := 10) rfl))) (fun _ => rfl) ?_
  refine ZW_sm (pc' := 924) (ls' := [some (.ref x)]) (st' := [.int 12, .ref x]) (s_bipush (v := 12) (by decide) (dk_X12_init_23 (922, .bipush 12, 2) (List.mem_of_getElem? (i := 11) rfl))) (fun _ => rfl) ?_
  refine Z_nwI (a := (x + 21)) (n := 12) hS.2.2.2.2.2.2.2.2.2.2.2.2.2.2.2.2.2.2.2.2.2.1 (by decide) (by decide) (by decide) (AV_fr v166 hf (by omega) (by omega)) (AV_fr v0 hf (by omega) (by omega)) (by omega) (AV_cl v166) ⟨by omega, trivial⟩ ⟨by omega, trivial⟩ cb_ai ⟨by decide, by decide⟩ (dk_X12_init_23 (924, .newarray .int, 2) (List.mem_of_getElem? (i := 12) rfl)) ?_
  refine Z_ptR (AV_in v167 (by omega) (by omega)) hS.1 (by decide) (by decide) rfl (Or.inr ⟨rfl, rfl, rfl⟩) (fun _ => rfl) (fun _ => rfl) cf_RX12_74 (dk_X12_init_23 (926, .putfield 74, 3) (List.mem_of_getElem? (i := 13) rfl)) ?_
  refine ZW_sm (pc' := 930) (ls' := [some (.ref x)]) (st' := [.ref x]) (s_aload_n rfl (dk_X12_init_23 (929, .aload_n 0, 1) (List.mem_of_getElem? (i := 14) rfl))) (fun _ => rfl) ?_
  refine ZW_sm (pc' := 932) (ls' := [some (.ref x)]) (st' := [.int 10, .ref x]) (s_bipush (v := 10) (by decide) (dk_X12_init_23 (930, .bipush 10, 2) (List.mem_of_getElem? (i := 15) rfl))) (fun _ => rfl) ?_
  refine Z_nwI (a := (x + 22)) (n := 10) hS.2.2.2.2.2.2.2.2.2.2.2.2.2.2.2.2.2.2.2.2.2.2.1 (by decide) (by decide) (by decide) (AV_fr v168 hf (by omega) (by omega)) (AV_fr v0 hf (by omega) (by omega)) (by omega) (AV_cl v168) ⟨by omega, trivial⟩ ⟨by omega, trivial⟩ cb_ai ⟨by decide, by decide⟩ (dk_X12_init_23 (932, .newarray .int, 2) (List.mem_of_getElem? (i := 16) rfl)) ?_
  refine Z_ptR (AV_in v169 (by omega) (by omega)) hS.1 (by decide) (by decide) rfl (Or.inr ⟨rfl, rfl, rfl⟩) (fun _ => rfl) (fun _ => rfl) cf_RX12_77 (dk_X12_init_23 (934, .putfield 77, 3) (List.mem_of_getElem? (i := 17) rfl)) ?_
  refine ZW_sm (pc' := 938) (ls' := [some (.ref x)]) (st' := [.ref x]) (s_aload_n rfl (dk_X12_init_23 (937, .aload_n 0, 1) (List.mem_of_getElem? (i := 18) rfl))) (fun _ => rfl) ?_
  refine ZW_sm (pc' := 940) (ls' := [some (.ref x)]) (st' := [.int 6, .ref x]) (s_bipush (v := 6) (by decide) (dk_X12_init_23 (938, .bipush 6, 2) (List.mem_of_getElem? (i := 19) rfl))) (fun _ => rfl) ?_
  refine Z_nwI (a := (x + 23)) (n := 6) hS.2.2.2.2.2.2.2.2.2.2.2.2.2.2.2.2.2.2.2.2.2.2.2.1 (by decide) (by decide) (by decide) (AV_fr v170 hf (by omega) (by omega)) (AV_fr v0 hf (by omega) (by omega)) (by omega) (AV_cl v170) ⟨by omega, trivial⟩ ⟨by omega, trivial⟩ cb_ai ⟨by decide, by decide⟩ (dk_X12_init_23 (940, .newarray .int, 2) (List.mem_of_getElem? (i := 20) rfl)) ?_
  refine Z_ptR (AV_in v171 (by omega) (by omega)) hS.1 (by decide) (by decide) rfl (Or.inr ⟨rfl, rfl, rfl⟩) (fun _ => rfl) (fun _ => rfl) cf_RX12_80 (dk_X12_init_23 (942, .putfield 80, 3) (List.mem_of_getElem? (i := 21) rfl)) ?_
  refine ZW_sm (pc' := 946) (ls' := [some (.ref x)]) (st' := [.ref x]) (s_aload_n rfl (dk_X12_init_23 (945, .aload_n 0, 1) (List.mem_of_getElem? (i := 22) rfl))) (fun _ => rfl) ?_
  refine ZW_sm (pc' := 948) (ls' := [some (.ref x)]) (st' := [.int 6, .ref x]) (s_bipush (v := 6) (by decide) (dk_X12_init_23 (946, .bipush 6, 2) (List.mem_of_getElem? (i := 23) rfl))) (fun _ => rfl) ?_
  refine Z_nwI (a := (x + 24)) (n := 6) hS.2.2.2.2.2.2.2.2.2.2.2.2.2.2.2.2.2.2.2.2.2.2.2.2.1 (by decide) (by decide) (by decide) (AV_fr v172 hf (by omega) (by omega)) (AV_fr v0 hf (by omega) (by omega)) (by omega) (AV_cl v172) ⟨by omega, trivial⟩ ⟨by omega, trivial⟩ cb_ai ⟨by decide, by decide⟩ (dk_X12_init_23 (948, .newarray .int, 2) (List.mem_of_getElem? (i := 24) rfl)) ?_
  refine Z_ptR (AV_in v173 (by omega) (by omega)) hS.1 (by decide) (by decide) rfl (Or.inr ⟨rfl, rfl, rfl⟩) (fun _ => rfl) (fun _ => rfl) cf_RX12_83 (dk_X12_init_24 (950, .putfield 83, 3) (List.mem_of_getElem? (i := 0) rfl)) ?_
  refine ZW_sm (pc' := 954) (ls' := [some (.ref x)]) (st' := [.ref x]) (s_aload_n rfl (dk_X12_init_24 (953, .aload_n 0, 1) (List.mem_of_getElem? (i := 1) rfl))) (fun _ => rfl) ?_
  refine ZW_sm (pc' := 957) (ls' := [some (.ref x)]) (st' := [.int 7168, .ref x]) (s_sipush (v := 7168) (by decide) (dk_X12_init_24 (954, .sipush 7168, 3) (List.mem_of_getElem? (i := 2) rfl))) (fun _ => rfl) ?_
  refine Z_nwI (a := (x + 25)) (n := 7168) hS.2.2.2.2.2.2.2.2.2.2.2.2.2.2.2.2.2.2.2.2.2.2.2.2.2.1 (by decide) (by decide) (by decide) (AV_fr v174 hf (by omega) (by omega)) (AV_fr v0 hf (by omega) (by omega)) (by omega) (AV_cl v174) ⟨by omega, trivial⟩ ⟨by omega, trivial⟩ cb_ai ⟨by decide, by decide⟩ (dk_X12_init_24 (957, .newarray .int, 2) (List.mem_of_getElem? (i := 3) rfl)) ?_
  refine Z_ptR (AV_in v175 (by omega) (by omega)) hS.1 (by decide) (by decide) rfl (Or.inr ⟨rfl, rfl, rfl⟩) (fun _ => rfl) (fun _ => rfl) cf_RX12_86 (dk_X12_init_24 (959, .putfield 86, 3) (List.mem_of_getElem? (i := 4) rfl)) ?_
  refine ZW_sm (pc' := 963) (ls' := [some (.ref x)]) (st' := [.ref x]) (s_aload_n rfl (dk_X12_init_24 (962, .aload_n 0, 1) (List.mem_of_getElem? (i := 5) rfl))) (fun _ => rfl) ?_
  refine ZW_sm (pc' := 966) (ls' := [some (.ref x)]) (st' := [.int 1024, .ref x]) (s_sipush (v := 1024) (by decide) (dk_X12_init_24 (963, .sipush 1024, 3) (List.mem_of_getElem? (i := 6) rfl))) (fun _ => rfl) ?_
  refine Z_nwI (a := (x + 26)) (n := 1024) hS.2.2.2.2.2.2.2.2.2.2.2.2.2.2.2.2.2.2.2.2.2.2.2.2.2.2.1 (by decide) (by decide) (by decide) (AV_fr v176 hf (by omega) (by omega)) (AV_fr v0 hf (by omega) (by omega)) (by omega) (AV_cl v176) ⟨by omega, trivial⟩ ⟨by omega, trivial⟩ cb_ai ⟨by decide, by decide⟩ (dk_X12_init_24 (966, .newarray .int, 2) (List.mem_of_getElem? (i := 7) rfl)) ?_
  refine Z_ptR (AV_in v177 (by omega) (by omega)) hS.1 (by decide) (by decide) rfl (Or.inr ⟨rfl, rfl, rfl⟩) (fun _ => rfl) (fun _ => rfl) cf_RX12_89 (dk_X12_init_24 (968, .putfield 89, 3) (List.mem_of_getElem? (i := 8) rfl)) ?_
  refine ZW_sm (pc' := 972) (ls' := [some (.ref x)]) (st' := [.ref x]) (s_aload_n rfl (dk_X12_init_24 (971, .aload_n 0, 1) (List.mem_of_getElem? (i := 9) rfl))) (fun _ => rfl) ?_
  refine ZW_sm (pc' := 973) (ls' := [some (.ref x)]) (st' := [.int 4, .ref x]) (s_iconst (v := 4) (by decide) (dk_X12_init_24 (972, .iconst 4, 1) (List.mem_of_getElem? (i := 10) rfl))) (fun _ => rfl) ?_
  refine Z_nwI (a := (x + 27)) (n := 4) hS.2.2.2.2.2.2.2.2.2.2.2.2.2.2.2.2.2.2.2.2.2.2.2.2.2.2.2.1 (by decide) (by decide) (by decide) (AV_fr v178 hf (by omega) (by omega)) (AV_fr v0 hf (by omega) (by omega)) (by omega) (AV_cl v178) ⟨by omega, trivial⟩ ⟨by omega, trivial⟩ cb_ai ⟨by decide, by decide⟩ (dk_X12_init_24 (973, .newarray .int, 2) (List.mem_of_getElem? (i := 11) rfl)) ?_
  refine Z_ptR (AV_in v179 (by omega) (by omega)) hS.1 (by decide) (by decide) rfl (Or.inr ⟨rfl, rfl, rfl⟩) (fun _ => rfl) (fun _ => rfl) cf_RX12_92 (dk_X12_init_24 (975, .putfield 92, 3) (List.mem_of_getElem? (i := 12) rfl)) ?_
  refine ZW_sm (pc' := 979) (ls' := [some (.ref x)]) (st' := [.ref x]) (s_aload_n rfl (dk_X12_init_24 (978, .aload_n 0, 1) (List.mem_of_getElem? (i := 13) rfl))) (fun _ => rfl) ?_
  refine ZW_sm (pc' := 982) (ls' := [some (.ref x)]) (st' := [.int 2100, .ref x]) (s_sipush (v := 2100) (by decide) (dk_X12_init_24 (979, .sipush 2100, 3) (List.mem_of_getElem? (i := 14) rfl))) (fun _ => rfl) ?_
  refine Z_nwI (a := (x + 28)) (n := 2100) hS.2.2.2.2.2.2.2.2.2.2.2.2.2.2.2.2.2.2.2.2.2.2.2.2.2.2.2.2 (by decide) (by decide) (by decide) (AV_fr v180 hf (by omega) (by omega)) (AV_fr v0 hf (by omega) (by omega)) (by omega) (AV_cl v180) ⟨by omega, trivial⟩ ⟨by omega, trivial⟩ cb_ai ⟨by decide, by decide⟩ (dk_X12_init_24 (982, .newarray .int, 2) (List.mem_of_getElem? (i := 15) rfl)) ?_
  refine Z_ptR (AV_in v181 (by omega) (by omega)) hS.1 (by decide) (by decide) rfl (Or.inr ⟨rfl, rfl, rfl⟩) (fun _ => rfl) (fun _ => rfl) cf_RX12_95 (dk_X12_init_24 (984, .putfield 95, 3) (List.mem_of_getElem? (i := 16) rfl)) ?_
  exact ZW_rt (s_vret rfl rfl rfl (dk_X12_init_24 (987, .return_, 1) (List.mem_of_getElem? (i := 17) rfl))) (fun _ => rfl)
