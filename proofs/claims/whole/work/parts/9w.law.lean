/-! ===== the law: by program (wip/gen/lawgen.py) ===== -/
def m_LAW (L : Nat) (xs : Nat → Int32) : AMt := (x, code, 4, ret, some (L, xs))
def drl_0 : List (Nat × Instr × Nat) := [(0, .new 7, 3), (3, .dup, 1), (4, .invokespecial 9, 3), (7, .astore_n 1, 1), (8, .new 10, 3), (11, .dup, 1), (12, .invokespecial 12, 3), (15, .astore_n 2, 1), (16, .iconst 0, 1), (17, .istore_n 3, 1)]
theorem dcl_0 : a_dec code drl_0 = true := by decide +kernel
def drl_h : List (Nat × Instr × Nat) := [(18, .iload_n 3, 1), (19, .aload_n 0, 1), (20, .arraylength, 1), (21, .bipush 6, 2), (23, .isub, 1), (24, .if_icmp .gt 1456, 3), (27, .aload_n 0, 1), (28, .iload_n 3, 1), (29, .iaload, 1), (30, .bipush 63, 2), (32, .iand, 1), (33, .tableswitch 1441 0 44 #[195, 258, 281, 304, 337, 370, 403, 436, 469, 502, 525, 568, 601, 634, 657, 690, 713, 746, 759, 772, 785, 808, 831, 844, 867, 890, 903, 916, 929, 952, 975, 988, 1031, 1044, 1067, 1090, 1123, 1156, 1189, 1222, 1265, 1339, 1372, 1395, 1418], 195)]
theorem dcl_h : a_dec code drl_h = true := by decide +kernel
def drl_c0 : List (Nat × Instr × Nat) := [(228, .aload_n 1, 1), (229, .aload_n 0, 1), (230, .iload_n 3, 1), (231, .iconst 1, 1), (232, .iadd, 1), (233, .iaload, 1), (234, .aload_n 0, 1), (235, .iload_n 3, 1), (236, .iconst 2, 1), (237, .iadd, 1), (238, .iaload, 1), (239, .aload_n 0, 1), (240, .iload_n 3, 1), (241, .iconst 3, 1), (242, .iadd, 1), (243, .iaload, 1), (244, .aload_n 0, 1), (245, .iload_n 3, 1), (246, .iconst 4, 1), (247, .iadd, 1), (248, .iaload, 1), (249, .aload_n 0, 1), (250, .iload_n 3, 1), (251, .iconst 5, 1), (252, .iadd, 1), (253, .iaload, 1), (254, .invokevirtual 13, 3), (257, .aload_n 2, 1), (258, .aload_n 0, 1), (259, .iload_n 3, 1), (260, .iconst 1, 1), (261, .iadd, 1), (262, .iaload, 1), (263, .aload_n 0, 1), (264, .iload_n 3, 1), (265, .iconst 2, 1), (266, .iadd, 1), (267, .iaload, 1), (268, .aload_n 0, 1), (269, .iload_n 3, 1), (270, .iconst 3, 1), (271, .iadd, 1), (272, .iaload, 1), (273, .aload_n 0, 1), (274, .iload_n 3, 1), (275, .iconst 4, 1), (276, .iadd, 1), (277, .iaload, 1), (278, .aload_n 0, 1), (279, .iload_n 3, 1), (280, .iconst 5, 1), (281, .iadd, 1), (282, .iaload, 1), (283, .invokevirtual 17, 3), (286, .if_icmp .eq 1188, 3), (289, .iconst 0, 1), (290, .ireturn, 1)]
theorem dcl_c0 : a_dec code drl_c0 = true := by decide +kernel
def drl_c1 : List (Nat × Instr × Nat) := [(291, .aload_n 1, 1), (292, .aload_n 0, 1), (293, .iload_n 3, 1), (294, .iconst 1, 1), (295, .iadd, 1), (296, .iaload, 1), (297, .invokevirtual 18, 3), (300, .aload_n 2, 1), (301, .aload_n 0, 1), (302, .iload_n 3, 1), (303, .iconst 1, 1), (304, .iadd, 1), (305, .iaload, 1), (306, .invokevirtual 22, 3), (309, .if_icmp .eq 1165, 3), (312, .iconst 0, 1), (313, .ireturn, 1)]
theorem dcl_c1 : a_dec code drl_c1 = true := by decide +kernel
def drl_c2 : List (Nat × Instr × Nat) := [(314, .aload_n 1, 1), (315, .aload_n 0, 1), (316, .iload_n 3, 1), (317, .iconst 1, 1), (318, .iadd, 1), (319, .iaload, 1), (320, .invokevirtual 23, 3), (323, .aload_n 2, 1), (324, .aload_n 0, 1), (325, .iload_n 3, 1), (326, .iconst 1, 1), (327, .iadd, 1), (328, .iaload, 1), (329, .invokevirtual 26, 3), (332, .if_icmp .eq 1142, 3), (335, .iconst 0, 1), (336, .ireturn, 1)]
theorem dcl_c2 : a_dec code drl_c2 = true := by decide +kernel
def drl_c3 : List (Nat × Instr × Nat) := [(337, .aload_n 1, 1), (338, .aload_n 0, 1), (339, .iload_n 3, 1), (340, .iconst 1, 1), (341, .iadd, 1), (342, .iaload, 1), (343, .aload_n 0, 1), (344, .iload_n 3, 1), (345, .iconst 2, 1), (346, .iadd, 1), (347, .iaload, 1), (348, .invokevirtual 27, 3), (351, .aload_n 2, 1), (352, .aload_n 0, 1), (353, .iload_n 3, 1), (354, .iconst 1, 1), (355, .iadd, 1), (356, .iaload, 1), (357, .aload_n 0, 1), (358, .iload_n 3, 1), (359, .iconst 2, 1), (360, .iadd, 1), (361, .iaload, 1), (362, .invokevirtual 31, 3), (365, .if_icmp .eq 1109, 3), (368, .iconst 0, 1), (369, .ireturn, 1)]
theorem dcl_c3 : a_dec code drl_c3 = true := by decide +kernel
def drl_c4 : List (Nat × Instr × Nat) := [(370, .aload_n 1, 1), (371, .aload_n 0, 1), (372, .iload_n 3, 1), (373, .iconst 1, 1), (374, .iadd, 1), (375, .iaload, 1), (376, .aload_n 0, 1), (377, .iload_n 3, 1), (378, .iconst 2, 1), (379, .iadd, 1), (380, .iaload, 1), (381, .invokevirtual 32, 3), (384, .aload_n 2, 1), (385, .aload_n 0, 1), (386, .iload_n 3, 1), (387, .iconst 1, 1), (388, .iadd, 1), (389, .iaload, 1), (390, .aload_n 0, 1), (391, .iload_n 3, 1), (392, .iconst 2, 1), (393, .iadd, 1), (394, .iaload, 1), (395, .invokevirtual 35, 3), (398, .if_icmp .eq 1076, 3), (401, .iconst 0, 1), (402, .ireturn, 1)]
theorem dcl_c4 : a_dec code drl_c4 = true := by decide +kernel
def drl_c5 : List (Nat × Instr × Nat) := [(403, .aload_n 1, 1), (404, .aload_n 0, 1), (405, .iload_n 3, 1), (406, .iconst 1, 1), (407, .iadd, 1), (408, .iaload, 1), (409, .aload_n 0, 1), (410, .iload_n 3, 1), (411, .iconst 2, 1), (412, .iadd, 1), (413, .iaload, 1), (414, .invokevirtual 36, 3), (417, .aload_n 2, 1), (418, .aload_n 0, 1), (419, .iload_n 3, 1), (420, .iconst 1, 1), (421, .iadd, 1), (422, .iaload, 1), (423, .aload_n 0, 1), (424, .iload_n 3, 1), (425, .iconst 2, 1), (426, .iadd, 1), (427, .iaload, 1), (428, .invokevirtual 39, 3), (431, .if_icmp .eq 1043, 3), (434, .iconst 0, 1), (435, .ireturn, 1)]
theorem dcl_c5 : a_dec code drl_c5 = true := by decide +kernel
def drl_c6 : List (Nat × Instr × Nat) := [(436, .aload_n 1, 1), (437, .aload_n 0, 1), (438, .iload_n 3, 1), (439, .iconst 1, 1), (440, .iadd, 1), (441, .iaload, 1), (442, .aload_n 0, 1), (443, .iload_n 3, 1), (444, .iconst 2, 1), (445, .iadd, 1), (446, .iaload, 1), (447, .invokevirtual 40, 3), (450, .aload_n 2, 1), (451, .aload_n 0, 1), (452, .iload_n 3, 1), (453, .iconst 1, 1), (454, .iadd, 1), (455, .iaload, 1), (456, .aload_n 0, 1), (457, .iload_n 3, 1), (458, .iconst 2, 1), (459, .iadd, 1), (460, .iaload, 1), (461, .invokevirtual 43, 3), (464, .if_icmp .eq 1010, 3), (467, .iconst 0, 1), (468, .ireturn, 1)]
theorem dcl_c6 : a_dec code drl_c6 = true := by decide +kernel
def drl_c7 : List (Nat × Instr × Nat) := [(469, .aload_n 1, 1), (470, .aload_n 0, 1), (471, .iload_n 3, 1), (472, .iconst 1, 1), (473, .iadd, 1), (474, .iaload, 1), (475, .aload_n 0, 1), (476, .iload_n 3, 1), (477, .iconst 2, 1), (478, .iadd, 1), (479, .iaload, 1), (480, .invokevirtual 44, 3), (483, .aload_n 2, 1), (484, .aload_n 0, 1), (485, .iload_n 3, 1), (486, .iconst 1, 1), (487, .iadd, 1), (488, .iaload, 1), (489, .aload_n 0, 1), (490, .iload_n 3, 1), (491, .iconst 2, 1), (492, .iadd, 1), (493, .iaload, 1), (494, .invokevirtual 47, 3), (497, .if_icmp .eq 977, 3), (500, .iconst 0, 1), (501, .ireturn, 1)]
theorem dcl_c7 : a_dec code drl_c7 = true := by decide +kernel
def drl_c8 : List (Nat × Instr × Nat) := [(502, .aload_n 1, 1), (503, .aload_n 0, 1), (504, .iload_n 3, 1), (505, .iconst 1, 1), (506, .iadd, 1), (507, .iaload, 1), (508, .aload_n 0, 1), (509, .iload_n 3, 1), (510, .iconst 2, 1), (511, .iadd, 1), (512, .iaload, 1), (513, .invokevirtual 48, 3), (516, .aload_n 2, 1), (517, .aload_n 0, 1), (518, .iload_n 3, 1), (519, .iconst 1, 1), (520, .iadd, 1), (521, .iaload, 1), (522, .aload_n 0, 1), (523, .iload_n 3, 1), (524, .iconst 2, 1), (525, .iadd, 1), (526, .iaload, 1), (527, .invokevirtual 51, 3), (530, .if_icmp .eq 944, 3), (533, .iconst 0, 1), (534, .ireturn, 1)]
theorem dcl_c8 : a_dec code drl_c8 = true := by decide +kernel
def drl_c9 : List (Nat × Instr × Nat) := [(535, .aload_n 1, 1), (536, .aload_n 0, 1), (537, .iload_n 3, 1), (538, .iconst 1, 1), (539, .iadd, 1), (540, .iaload, 1), (541, .invokevirtual 52, 3), (544, .aload_n 2, 1), (545, .aload_n 0, 1), (546, .iload_n 3, 1), (547, .iconst 1, 1), (548, .iadd, 1), (549, .iaload, 1), (550, .invokevirtual 55, 3), (553, .if_icmp .eq 921, 3), (556, .iconst 0, 1), (557, .ireturn, 1)]
theorem dcl_c9 : a_dec code drl_c9 = true := by decide +kernel
def drl_c10 : List (Nat × Instr × Nat) := [(558, .aload_n 1, 1), (559, .aload_n 0, 1), (560, .iload_n 3, 1), (561, .iconst 1, 1), (562, .iadd, 1), (563, .iaload, 1), (564, .aload_n 0, 1), (565, .iload_n 3, 1), (566, .iconst 2, 1), (567, .iadd, 1), (568, .iaload, 1), (569, .aload_n 0, 1), (570, .iload_n 3, 1), (571, .iconst 3, 1), (572, .iadd, 1), (573, .iaload, 1), (574, .invokevirtual 56, 3), (577, .aload_n 2, 1), (578, .aload_n 0, 1), (579, .iload_n 3, 1), (580, .iconst 1, 1), (581, .iadd, 1), (582, .iaload, 1), (583, .aload_n 0, 1), (584, .iload_n 3, 1), (585, .iconst 2, 1), (586, .iadd, 1), (587, .iaload, 1), (588, .aload_n 0, 1), (589, .iload_n 3, 1), (590, .iconst 3, 1), (591, .iadd, 1), (592, .iaload, 1), (593, .invokevirtual 60, 3), (596, .if_icmp .eq 878, 3), (599, .iconst 0, 1), (600, .ireturn, 1)]
theorem dcl_c10 : a_dec code drl_c10 = true := by decide +kernel
def drl_c11 : List (Nat × Instr × Nat) := [(601, .aload_n 1, 1), (602, .aload_n 0, 1), (603, .iload_n 3, 1), (604, .iconst 1, 1), (605, .iadd, 1), (606, .iaload, 1), (607, .aload_n 0, 1), (608, .iload_n 3, 1), (609, .iconst 2, 1), (610, .iadd, 1), (611, .iaload, 1), (612, .invokevirtual 61, 3), (615, .aload_n 2, 1), (616, .aload_n 0, 1), (617, .iload_n 3, 1), (618, .iconst 1, 1), (619, .iadd, 1), (620, .iaload, 1), (621, .aload_n 0, 1), (622, .iload_n 3, 1), (623, .iconst 2, 1), (624, .iadd, 1), (625, .iaload, 1), (626, .invokevirtual 64, 3), (629, .if_icmp .eq 845, 3), (632, .iconst 0, 1), (633, .ireturn, 1)]
theorem dcl_c11 : a_dec code drl_c11 = true := by decide +kernel
def drl_c12 : List (Nat × Instr × Nat) := [(634, .aload_n 1, 1), (635, .aload_n 0, 1), (636, .iload_n 3, 1), (637, .iconst 1, 1), (638, .iadd, 1), (639, .iaload, 1), (640, .aload_n 0, 1), (641, .iload_n 3, 1), (642, .iconst 2, 1), (643, .iadd, 1), (644, .iaload, 1), (645, .invokevirtual 65, 3), (648, .aload_n 2, 1), (649, .aload_n 0, 1), (650, .iload_n 3, 1), (651, .iconst 1, 1), (652, .iadd, 1), (653, .iaload, 1), (654, .aload_n 0, 1), (655, .iload_n 3, 1), (656, .iconst 2, 1), (657, .iadd, 1), (658, .iaload, 1), (659, .invokevirtual 68, 3), (662, .if_icmp .eq 812, 3), (665, .iconst 0, 1), (666, .ireturn, 1)]
theorem dcl_c12 : a_dec code drl_c12 = true := by decide +kernel
def drl_c13 : List (Nat × Instr × Nat) := [(667, .aload_n 1, 1), (668, .aload_n 0, 1), (669, .iload_n 3, 1), (670, .iconst 1, 1), (671, .iadd, 1), (672, .iaload, 1), (673, .invokevirtual 69, 3), (676, .aload_n 2, 1), (677, .aload_n 0, 1), (678, .iload_n 3, 1), (679, .iconst 1, 1), (680, .iadd, 1), (681, .iaload, 1), (682, .invokevirtual 72, 3), (685, .if_icmp .eq 789, 3), (688, .iconst 0, 1), (689, .ireturn, 1)]
theorem dcl_c13 : a_dec code drl_c13 = true := by decide +kernel
def drl_c14 : List (Nat × Instr × Nat) := [(690, .aload_n 1, 1), (691, .aload_n 0, 1), (692, .iload_n 3, 1), (693, .iconst 1, 1), (694, .iadd, 1), (695, .iaload, 1), (696, .aload_n 0, 1), (697, .iload_n 3, 1), (698, .iconst 2, 1), (699, .iadd, 1), (700, .iaload, 1), (701, .invokevirtual 73, 3), (704, .aload_n 2, 1), (705, .aload_n 0, 1), (706, .iload_n 3, 1), (707, .iconst 1, 1), (708, .iadd, 1), (709, .iaload, 1), (710, .aload_n 0, 1), (711, .iload_n 3, 1), (712, .iconst 2, 1), (713, .iadd, 1), (714, .iaload, 1), (715, .invokevirtual 76, 3), (718, .if_icmp .eq 756, 3), (721, .iconst 0, 1), (722, .ireturn, 1)]
theorem dcl_c14 : a_dec code drl_c14 = true := by decide +kernel
def drl_c15 : List (Nat × Instr × Nat) := [(723, .aload_n 1, 1), (724, .aload_n 0, 1), (725, .iload_n 3, 1), (726, .iconst 1, 1), (727, .iadd, 1), (728, .iaload, 1), (729, .invokevirtual 77, 3), (732, .aload_n 2, 1), (733, .aload_n 0, 1), (734, .iload_n 3, 1), (735, .iconst 1, 1), (736, .iadd, 1), (737, .iaload, 1), (738, .invokevirtual 80, 3), (741, .if_icmp .eq 733, 3), (744, .iconst 0, 1), (745, .ireturn, 1)]
theorem dcl_c15 : a_dec code drl_c15 = true := by decide +kernel
def drl_c16 : List (Nat × Instr × Nat) := [(746, .aload_n 1, 1), (747, .aload_n 0, 1), (748, .iload_n 3, 1), (749, .iconst 1, 1), (750, .iadd, 1), (751, .iaload, 1), (752, .aload_n 0, 1), (753, .iload_n 3, 1), (754, .iconst 2, 1), (755, .iadd, 1), (756, .iaload, 1), (757, .invokevirtual 81, 3), (760, .aload_n 2, 1), (761, .aload_n 0, 1), (762, .iload_n 3, 1), (763, .iconst 1, 1), (764, .iadd, 1), (765, .iaload, 1), (766, .aload_n 0, 1), (767, .iload_n 3, 1), (768, .iconst 2, 1), (769, .iadd, 1), (770, .iaload, 1), (771, .invokevirtual 84, 3), (774, .if_icmp .eq 700, 3), (777, .iconst 0, 1), (778, .ireturn, 1)]
theorem dcl_c16 : a_dec code drl_c16 = true := by decide +kernel
def drl_c17 : List (Nat × Instr × Nat) := [(779, .aload_n 1, 1), (780, .invokevirtual 85, 3), (783, .aload_n 2, 1), (784, .invokevirtual 89, 3), (787, .if_icmp .eq 687, 3), (790, .iconst 0, 1), (791, .ireturn, 1)]
theorem dcl_c17 : a_dec code drl_c17 = true := by decide +kernel
def drl_c18 : List (Nat × Instr × Nat) := [(792, .aload_n 1, 1), (793, .invokevirtual 90, 3), (796, .aload_n 2, 1), (797, .invokevirtual 93, 3), (800, .if_icmp .eq 674, 3), (803, .iconst 0, 1), (804, .ireturn, 1)]
theorem dcl_c18 : a_dec code drl_c18 = true := by decide +kernel
def drl_c19 : List (Nat × Instr × Nat) := [(805, .aload_n 1, 1), (806, .invokevirtual 94, 3), (809, .aload_n 2, 1), (810, .invokevirtual 97, 3), (813, .if_icmp .eq 661, 3), (816, .iconst 0, 1), (817, .ireturn, 1)]
theorem dcl_c19 : a_dec code drl_c19 = true := by decide +kernel
def drl_c20 : List (Nat × Instr × Nat) := [(818, .aload_n 1, 1), (819, .aload_n 0, 1), (820, .iload_n 3, 1), (821, .iconst 1, 1), (822, .iadd, 1), (823, .iaload, 1), (824, .invokevirtual 98, 3), (827, .aload_n 2, 1), (828, .aload_n 0, 1), (829, .iload_n 3, 1), (830, .iconst 1, 1), (831, .iadd, 1), (832, .iaload, 1), (833, .invokevirtual 101, 3), (836, .if_icmp .eq 638, 3), (839, .iconst 0, 1), (840, .ireturn, 1)]
theorem dcl_c20 : a_dec code drl_c20 = true := by decide +kernel
def drl_c21 : List (Nat × Instr × Nat) := [(841, .aload_n 1, 1), (842, .aload_n 0, 1), (843, .iload_n 3, 1), (844, .iconst 1, 1), (845, .iadd, 1), (846, .iaload, 1), (847, .invokevirtual 102, 3), (850, .aload_n 2, 1), (851, .aload_n 0, 1), (852, .iload_n 3, 1), (853, .iconst 1, 1), (854, .iadd, 1), (855, .iaload, 1), (856, .invokevirtual 105, 3), (859, .if_icmp .eq 615, 3), (862, .iconst 0, 1), (863, .ireturn, 1)]
theorem dcl_c21 : a_dec code drl_c21 = true := by decide +kernel
def drl_c22 : List (Nat × Instr × Nat) := [(864, .aload_n 1, 1), (865, .invokevirtual 106, 3), (868, .aload_n 2, 1), (869, .invokevirtual 109, 3), (872, .if_icmp .eq 602, 3), (875, .iconst 0, 1), (876, .ireturn, 1)]
theorem dcl_c22 : a_dec code drl_c22 = true := by decide +kernel
def drl_c23 : List (Nat × Instr × Nat) := [(877, .aload_n 1, 1), (878, .aload_n 0, 1), (879, .iload_n 3, 1), (880, .iconst 1, 1), (881, .iadd, 1), (882, .iaload, 1), (883, .invokevirtual 110, 3), (886, .aload_n 2, 1), (887, .aload_n 0, 1), (888, .iload_n 3, 1), (889, .iconst 1, 1), (890, .iadd, 1), (891, .iaload, 1), (892, .invokevirtual 113, 3), (895, .if_icmp .eq 579, 3), (898, .iconst 0, 1), (899, .ireturn, 1)]
theorem dcl_c23 : a_dec code drl_c23 = true := by decide +kernel
def drl_c24 : List (Nat × Instr × Nat) := [(900, .aload_n 1, 1), (901, .aload_n 0, 1), (902, .iload_n 3, 1), (903, .iconst 1, 1), (904, .iadd, 1), (905, .iaload, 1), (906, .invokevirtual 114, 3), (909, .aload_n 2, 1), (910, .aload_n 0, 1), (911, .iload_n 3, 1), (912, .iconst 1, 1), (913, .iadd, 1), (914, .iaload, 1), (915, .invokevirtual 117, 3), (918, .if_icmp .eq 556, 3), (921, .iconst 0, 1), (922, .ireturn, 1)]
theorem dcl_c24 : a_dec code drl_c24 = true := by decide +kernel
def drl_c25 : List (Nat × Instr × Nat) := [(923, .aload_n 1, 1), (924, .invokevirtual 118, 3), (927, .aload_n 2, 1), (928, .invokevirtual 121, 3), (931, .if_icmp .eq 543, 3), (934, .iconst 0, 1), (935, .ireturn, 1)]
theorem dcl_c25 : a_dec code drl_c25 = true := by decide +kernel
def drl_c26 : List (Nat × Instr × Nat) := [(936, .aload_n 1, 1), (937, .invokevirtual 122, 3), (940, .aload_n 2, 1), (941, .invokevirtual 125, 3), (944, .if_icmp .eq 530, 3), (947, .iconst 0, 1), (948, .ireturn, 1)]
theorem dcl_c26 : a_dec code drl_c26 = true := by decide +kernel
def drl_c27 : List (Nat × Instr × Nat) := [(949, .aload_n 1, 1), (950, .invokevirtual 126, 3), (953, .aload_n 2, 1), (954, .invokevirtual 129, 3), (957, .if_icmp .eq 517, 3), (960, .iconst 0, 1), (961, .ireturn, 1)]
theorem dcl_c27 : a_dec code drl_c27 = true := by decide +kernel
def drl_c28 : List (Nat × Instr × Nat) := [(962, .aload_n 1, 1), (963, .aload_n 0, 1), (964, .iload_n 3, 1), (965, .iconst 1, 1), (966, .iadd, 1), (967, .iaload, 1), (968, .invokevirtual 130, 3), (971, .aload_n 2, 1), (972, .aload_n 0, 1), (973, .iload_n 3, 1), (974, .iconst 1, 1), (975, .iadd, 1), (976, .iaload, 1), (977, .invokevirtual 133, 3), (980, .if_icmp .eq 494, 3), (983, .iconst 0, 1), (984, .ireturn, 1)]
theorem dcl_c28 : a_dec code drl_c28 = true := by decide +kernel
def drl_c29 : List (Nat × Instr × Nat) := [(985, .aload_n 1, 1), (986, .aload_n 0, 1), (987, .iload_n 3, 1), (988, .iconst 1, 1), (989, .iadd, 1), (990, .iaload, 1), (991, .invokevirtual 134, 3), (994, .aload_n 2, 1), (995, .aload_n 0, 1), (996, .iload_n 3, 1), (997, .iconst 1, 1), (998, .iadd, 1), (999, .iaload, 1), (1000, .invokevirtual 137, 3), (1003, .if_icmp .eq 471, 3), (1006, .iconst 0, 1), (1007, .ireturn, 1)]
theorem dcl_c29 : a_dec code drl_c29 = true := by decide +kernel
def drl_c30 : List (Nat × Instr × Nat) := [(1008, .aload_n 1, 1), (1009, .invokevirtual 138, 3), (1012, .aload_n 2, 1), (1013, .invokevirtual 141, 3), (1016, .if_icmp .eq 458, 3), (1019, .iconst 0, 1), (1020, .ireturn, 1)]
theorem dcl_c30 : a_dec code drl_c30 = true := by decide +kernel
def drl_c31 : List (Nat × Instr × Nat) := [(1021, .aload_n 1, 1), (1022, .aload_n 0, 1), (1023, .iload_n 3, 1), (1024, .iconst 1, 1), (1025, .iadd, 1), (1026, .iaload, 1), (1027, .aload_n 0, 1), (1028, .iload_n 3, 1), (1029, .iconst 2, 1), (1030, .iadd, 1), (1031, .iaload, 1), (1032, .aload_n 0, 1), (1033, .iload_n 3, 1), (1034, .iconst 3, 1), (1035, .iadd, 1), (1036, .iaload, 1), (1037, .invokevirtual 142, 3), (1040, .aload_n 2, 1), (1041, .aload_n 0, 1), (1042, .iload_n 3, 1), (1043, .iconst 1, 1), (1044, .iadd, 1), (1045, .iaload, 1), (1046, .aload_n 0, 1), (1047, .iload_n 3, 1), (1048, .iconst 2, 1), (1049, .iadd, 1), (1050, .iaload, 1), (1051, .aload_n 0, 1), (1052, .iload_n 3, 1), (1053, .iconst 3, 1), (1054, .iadd, 1), (1055, .iaload, 1), (1056, .invokevirtual 145, 3), (1059, .if_icmp .eq 415, 3), (1062, .iconst 0, 1), (1063, .ireturn, 1)]
theorem dcl_c31 : a_dec code drl_c31 = true := by decide +kernel
def drl_c32 : List (Nat × Instr × Nat) := [(1064, .aload_n 1, 1), (1065, .invokevirtual 146, 3), (1068, .aload_n 2, 1), (1069, .invokevirtual 149, 3), (1072, .if_icmp .eq 402, 3), (1075, .iconst 0, 1), (1076, .ireturn, 1)]
theorem dcl_c32 : a_dec code drl_c32 = true := by decide +kernel
def drl_c33 : List (Nat × Instr × Nat) := [(1077, .aload_n 1, 1), (1078, .aload_n 0, 1), (1079, .iload_n 3, 1), (1080, .iconst 1, 1), (1081, .iadd, 1), (1082, .iaload, 1), (1083, .invokevirtual 150, 3), (1086, .aload_n 2, 1), (1087, .aload_n 0, 1), (1088, .iload_n 3, 1), (1089, .iconst 1, 1), (1090, .iadd, 1), (1091, .iaload, 1), (1092, .invokevirtual 153, 3), (1095, .if_icmp .eq 379, 3), (1098, .iconst 0, 1), (1099, .ireturn, 1)]
theorem dcl_c33 : a_dec code drl_c33 = true := by decide +kernel
def drl_c34 : List (Nat × Instr × Nat) := [(1100, .aload_n 1, 1), (1101, .aload_n 0, 1), (1102, .iload_n 3, 1), (1103, .iconst 1, 1), (1104, .iadd, 1), (1105, .iaload, 1), (1106, .invokevirtual 154, 3), (1109, .aload_n 2, 1), (1110, .aload_n 0, 1), (1111, .iload_n 3, 1), (1112, .iconst 1, 1), (1113, .iadd, 1), (1114, .iaload, 1), (1115, .invokevirtual 157, 3), (1118, .if_icmp .eq 356, 3), (1121, .iconst 0, 1), (1122, .ireturn, 1)]
theorem dcl_c34 : a_dec code drl_c34 = true := by decide +kernel
def drl_c35 : List (Nat × Instr × Nat) := [(1123, .aload_n 1, 1), (1124, .aload_n 0, 1), (1125, .iload_n 3, 1), (1126, .iconst 1, 1), (1127, .iadd, 1), (1128, .iaload, 1), (1129, .aload_n 0, 1), (1130, .iload_n 3, 1), (1131, .iconst 2, 1), (1132, .iadd, 1), (1133, .iaload, 1), (1134, .invokevirtual 158, 3), (1137, .aload_n 2, 1), (1138, .aload_n 0, 1), (1139, .iload_n 3, 1), (1140, .iconst 1, 1), (1141, .iadd, 1), (1142, .iaload, 1), (1143, .aload_n 0, 1), (1144, .iload_n 3, 1), (1145, .iconst 2, 1), (1146, .iadd, 1), (1147, .iaload, 1), (1148, .invokevirtual 161, 3), (1151, .if_icmp .eq 323, 3), (1154, .iconst 0, 1), (1155, .ireturn, 1)]
theorem dcl_c35 : a_dec code drl_c35 = true := by decide +kernel
def drl_c36 : List (Nat × Instr × Nat) := [(1156, .aload_n 1, 1), (1157, .aload_n 0, 1), (1158, .iload_n 3, 1), (1159, .iconst 1, 1), (1160, .iadd, 1), (1161, .iaload, 1), (1162, .aload_n 0, 1), (1163, .iload_n 3, 1), (1164, .iconst 2, 1), (1165, .iadd, 1), (1166, .iaload, 1), (1167, .invokevirtual 162, 3), (1170, .aload_n 2, 1), (1171, .aload_n 0, 1), (1172, .iload_n 3, 1), (1173, .iconst 1, 1), (1174, .iadd, 1), (1175, .iaload, 1), (1176, .aload_n 0, 1), (1177, .iload_n 3, 1), (1178, .iconst 2, 1), (1179, .iadd, 1), (1180, .iaload, 1), (1181, .invokevirtual 165, 3), (1184, .if_icmp .eq 290, 3), (1187, .iconst 0, 1), (1188, .ireturn, 1)]
theorem dcl_c36 : a_dec code drl_c36 = true := by decide +kernel
def drl_c37 : List (Nat × Instr × Nat) := [(1189, .aload_n 1, 1), (1190, .aload_n 0, 1), (1191, .iload_n 3, 1), (1192, .iconst 1, 1), (1193, .iadd, 1), (1194, .iaload, 1), (1195, .aload_n 0, 1), (1196, .iload_n 3, 1), (1197, .iconst 2, 1), (1198, .iadd, 1), (1199, .iaload, 1), (1200, .invokevirtual 166, 3), (1203, .aload_n 2, 1), (1204, .aload_n 0, 1), (1205, .iload_n 3, 1), (1206, .iconst 1, 1), (1207, .iadd, 1), (1208, .iaload, 1), (1209, .aload_n 0, 1), (1210, .iload_n 3, 1), (1211, .iconst 2, 1), (1212, .iadd, 1), (1213, .iaload, 1), (1214, .invokevirtual 169, 3), (1217, .if_icmp .eq 257, 3), (1220, .iconst 0, 1), (1221, .ireturn, 1)]
theorem dcl_c37 : a_dec code drl_c37 = true := by decide +kernel
def drl_c38 : List (Nat × Instr × Nat) := [(1222, .aload_n 1, 1), (1223, .aload_n 0, 1), (1224, .iload_n 3, 1), (1225, .iconst 1, 1), (1226, .iadd, 1), (1227, .iaload, 1), (1228, .aload_n 0, 1), (1229, .iload_n 3, 1), (1230, .iconst 2, 1), (1231, .iadd, 1), (1232, .iaload, 1), (1233, .invokevirtual 170, 3), (1236, .aload_n 2, 1), (1237, .aload_n 0, 1), (1238, .iload_n 3, 1), (1239, .iconst 1, 1), (1240, .iadd, 1), (1241, .iaload, 1), (1242, .aload_n 0, 1), (1243, .iload_n 3, 1), (1244, .iconst 2, 1), (1245, .iadd, 1), (1246, .iaload, 1), (1247, .invokevirtual 173, 3), (1250, .if_icmp .eq 224, 3), (1253, .iconst 0, 1), (1254, .ireturn, 1)]
theorem dcl_c38 : a_dec code drl_c38 = true := by decide +kernel
def drl_c39 : List (Nat × Instr × Nat) := [(1255, .aload_n 1, 1), (1256, .aload_n 0, 1), (1257, .iload_n 3, 1), (1258, .iconst 1, 1), (1259, .iadd, 1), (1260, .iaload, 1), (1261, .aload_n 0, 1), (1262, .iload_n 3, 1), (1263, .iconst 2, 1), (1264, .iadd, 1), (1265, .iaload, 1), (1266, .aload_n 0, 1), (1267, .iload_n 3, 1), (1268, .iconst 3, 1), (1269, .iadd, 1), (1270, .iaload, 1), (1271, .invokevirtual 174, 3), (1274, .aload_n 2, 1), (1275, .aload_n 0, 1), (1276, .iload_n 3, 1), (1277, .iconst 1, 1), (1278, .iadd, 1), (1279, .iaload, 1), (1280, .aload_n 0, 1), (1281, .iload_n 3, 1), (1282, .iconst 2, 1), (1283, .iadd, 1), (1284, .iaload, 1), (1285, .aload_n 0, 1), (1286, .iload_n 3, 1), (1287, .iconst 3, 1), (1288, .iadd, 1), (1289, .iaload, 1), (1290, .invokevirtual 177, 3), (1293, .if_icmp .eq 181, 3), (1296, .iconst 0, 1), (1297, .ireturn, 1)]
theorem dcl_c39 : a_dec code drl_c39 = true := by decide +kernel
def drl_c40 : List (Nat × Instr × Nat) := [(1298, .aload_n 1, 1), (1299, .aload_n 0, 1), (1300, .iload_n 3, 1), (1301, .iconst 1, 1), (1302, .iadd, 1), (1303, .iaload, 1), (1304, .aload_n 0, 1), (1305, .iload_n 3, 1), (1306, .iconst 2, 1), (1307, .iadd, 1), (1308, .iaload, 1), (1309, .aload_n 0, 1), (1310, .iload_n 3, 1), (1311, .iconst 3, 1), (1312, .iadd, 1), (1313, .iaload, 1), (1314, .i2l, 1), (1315, .bipush 32, 2), (1317, .lshl, 1), (1318, .aload_n 0, 1), (1319, .iload_n 3, 1), (1320, .iconst 4, 1), (1321, .iadd, 1), (1322, .iaload, 1), (1323, .i2l, 1), (1324, .ldc2_w 178, 3), (1327, .land, 1), (1328, .lor, 1), (1329, .invokevirtual 180, 3), (1332, .aload_n 2, 1), (1333, .aload_n 0, 1), (1334, .iload_n 3, 1), (1335, .iconst 1, 1), (1336, .iadd, 1), (1337, .iaload, 1), (1338, .aload_n 0, 1), (1339, .iload_n 3, 1), (1340, .iconst 2, 1), (1341, .iadd, 1), (1342, .iaload, 1), (1343, .aload_n 0, 1), (1344, .iload_n 3, 1), (1345, .iconst 3, 1), (1346, .iadd, 1), (1347, .iaload, 1), (1348, .i2l, 1), (1349, .bipush 32, 2), (1351, .lshl, 1), (1352, .aload_n 0, 1), (1353, .iload_n 3, 1), (1354, .iconst 4, 1), (1355, .iadd, 1), (1356, .iaload, 1), (1357, .i2l, 1), (1358, .ldc2_w 178, 3), (1361, .land, 1), (1362, .lor, 1), (1363, .invokevirtual 184, 3), (1366, .lcmp, 1), (1367, .ifCond .eq 107, 3), (1370, .iconst 0, 1), (1371, .ireturn, 1)]
theorem dcl_c40 : a_dec code drl_c40 = true := by decide +kernel
def drl_c41 : List (Nat × Instr × Nat) := [(1372, .aload_n 1, 1), (1373, .aload_n 0, 1), (1374, .iload_n 3, 1), (1375, .iconst 1, 1), (1376, .iadd, 1), (1377, .iaload, 1), (1378, .aload_n 0, 1), (1379, .iload_n 3, 1), (1380, .iconst 2, 1), (1381, .iadd, 1), (1382, .iaload, 1), (1383, .invokevirtual 185, 3), (1386, .aload_n 2, 1), (1387, .aload_n 0, 1), (1388, .iload_n 3, 1), (1389, .iconst 1, 1), (1390, .iadd, 1), (1391, .iaload, 1), (1392, .aload_n 0, 1), (1393, .iload_n 3, 1), (1394, .iconst 2, 1), (1395, .iadd, 1), (1396, .iaload, 1), (1397, .invokevirtual 188, 3), (1400, .if_icmp .eq 74, 3), (1403, .iconst 0, 1), (1404, .ireturn, 1)]
theorem dcl_c41 : a_dec code drl_c41 = true := by decide +kernel
def drl_c42 : List (Nat × Instr × Nat) := [(1405, .aload_n 1, 1), (1406, .aload_n 0, 1), (1407, .iload_n 3, 1), (1408, .iconst 1, 1), (1409, .iadd, 1), (1410, .iaload, 1), (1411, .invokevirtual 189, 3), (1414, .aload_n 2, 1), (1415, .aload_n 0, 1), (1416, .iload_n 3, 1), (1417, .iconst 1, 1), (1418, .iadd, 1), (1419, .iaload, 1), (1420, .invokevirtual 192, 3), (1423, .if_icmp .eq 51, 3), (1426, .iconst 0, 1), (1427, .ireturn, 1)]
theorem dcl_c42 : a_dec code drl_c42 = true := by decide +kernel
def drl_c43 : List (Nat × Instr × Nat) := [(1428, .aload_n 1, 1), (1429, .aload_n 0, 1), (1430, .iload_n 3, 1), (1431, .iconst 1, 1), (1432, .iadd, 1), (1433, .iaload, 1), (1434, .invokevirtual 193, 3), (1437, .aload_n 2, 1), (1438, .aload_n 0, 1), (1439, .iload_n 3, 1), (1440, .iconst 1, 1), (1441, .iadd, 1), (1442, .iaload, 1), (1443, .invokevirtual 196, 3), (1446, .if_icmp .eq 28, 3), (1449, .iconst 0, 1), (1450, .ireturn, 1)]
theorem dcl_c43 : a_dec code drl_c43 = true := by decide +kernel
def drl_c44 : List (Nat × Instr × Nat) := [(1451, .aload_n 1, 1), (1452, .aload_n 0, 1), (1453, .iload_n 3, 1), (1454, .iconst 1, 1), (1455, .iadd, 1), (1456, .iaload, 1), (1457, .invokevirtual 197, 3), (1460, .aload_n 2, 1), (1461, .aload_n 0, 1), (1462, .iload_n 3, 1), (1463, .iconst 1, 1), (1464, .iadd, 1), (1465, .iaload, 1), (1466, .invokevirtual 200, 3), (1469, .if_icmp .eq 5, 3), (1472, .iconst 0, 1), (1473, .ireturn, 1)]
theorem dcl_c44 : a_dec code drl_c44 = true := by decide +kernel
def drl_e : List (Nat × Instr × Nat) := [(1474, .iinc 3 6, 3), (1477, .goto (-1459), 3), (1480, .iconst 1, 1), (1481, .ireturn, 1)]
theorem dcl_e : a_dec code drl_e = true := by decide +kernel
set_option maxRecDepth 20000 in
theorem lc_feed {l : Launch} {L : Nat} {xs : Nat → Int32} {mi : TMi} {ml : TMl} {z : Nat} {Q : Option Value → ASt → Prop} {v : Int32} (h1 : vp_in (v + 1) L) (h2 : vp_in (v + 2) L) (h3 : vp_in (v + 3) L) (h4 : vp_in (v + 4) L) (h5 : vp_in (v + 5) L) (hJ : JJ mi ml) (H : ∀ m2 l2 z2, JJ m2 l2 → Ev l (100 + 1) (m_LAW L xs) 1474 ([.ref 2000000, .ref 1, .ref 119, .int v], [], st m2 l2 z2) Q) : Ev l (100 + 1) (m_LAW L xs) 228 ([.ref 2000000, .ref 1, .ref 119, .int v], [], st mi ml z) Q := by
  refine ev_aload_n (i := 1) rfl rfl (a_dec_at dcl_c0 0 rfl) ?_
  refine ev_aload_n (i := 0) rfl rfl (a_dec_at dcl_c0 1 rfl) ?_
  refine ev_iload_n (i := 3) rfl rfl (a_dec_at dcl_c0 2 rfl) ?_
  refine ev_iconst (v := 1) rfl (a_dec_at dcl_c0 3 rfl) ?_
  refine ev_iadd (a_dec_at dcl_c0 4 rfl) ?_
  refine ev_scr rfl h1 (a_dec_at dcl_c0 5 rfl) ?_
  refine ev_aload_n (i := 0) rfl rfl (a_dec_at dcl_c0 6 rfl) ?_
  refine ev_iload_n (i := 3) rfl rfl (a_dec_at dcl_c0 7 rfl) ?_
  refine ev_iconst (v := 2) rfl (a_dec_at dcl_c0 8 rfl) ?_
  refine ev_iadd (a_dec_at dcl_c0 9 rfl) ?_
  refine ev_scr rfl h2 (a_dec_at dcl_c0 10 rfl) ?_
  refine ev_aload_n (i := 0) rfl rfl (a_dec_at dcl_c0 11 rfl) ?_
  refine ev_iload_n (i := 3) rfl rfl (a_dec_at dcl_c0 12 rfl) ?_
  refine ev_iconst (v := 3) rfl (a_dec_at dcl_c0 13 rfl) ?_
  refine ev_iadd (a_dec_at dcl_c0 14 rfl) ?_
  refine ev_scr rfl h3 (a_dec_at dcl_c0 15 rfl) ?_
  refine ev_aload_n (i := 0) rfl rfl (a_dec_at dcl_c0 16 rfl) ?_
  refine ev_iload_n (i := 3) rfl rfl (a_dec_at dcl_c0 17 rfl) ?_
  refine ev_iconst (v := 4) rfl (a_dec_at dcl_c0 18 rfl) ?_
  refine ev_iadd (a_dec_at dcl_c0 19 rfl) ?_
  refine ev_scr rfl h4 (a_dec_at dcl_c0 20 rfl) ?_
  refine ev_aload_n (i := 0) rfl rfl (a_dec_at dcl_c0 21 rfl) ?_
  refine ev_iload_n (i := 3) rfl rfl (a_dec_at dcl_c0 22 rfl) ?_
  refine ev_iconst (v := 5) rfl (a_dec_at dcl_c0 23 rfl) ?_
  refine ev_iadd (a_dec_at dcl_c0 24 rfl) ?_
  refine ev_scr rfl h5 (a_dec_at dcl_c0 25 rfl) ?_
  refine cV5I cs_LAW_13 sh1 rfl (Nat.le_of_ble_eq_true rfl) (Nat.le_of_ble_eq_true rfl) (a_dec_at dcl_c0 26 rfl) ?_
  refine CI.mono (fun r1 m1 l1 z1 H1 => ?_) (j_feed _ _ _ _ _ hJ)
  refine ev_aload_n (i := 2) rfl rfl (a_dec_at dcl_c0 27 rfl) ?_
  refine ev_aload_n (i := 0) rfl rfl (a_dec_at dcl_c0 28 rfl) ?_
  refine ev_iload_n (i := 3) rfl rfl (a_dec_at dcl_c0 29 rfl) ?_
  refine ev_iconst (v := 1) rfl (a_dec_at dcl_c0 30 rfl) ?_
  refine ev_iadd (a_dec_at dcl_c0 31 rfl) ?_
  refine ev_scr rfl h1 (a_dec_at dcl_c0 32 rfl) ?_
  refine ev_aload_n (i := 0) rfl rfl (a_dec_at dcl_c0 33 rfl) ?_
  refine ev_iload_n (i := 3) rfl rfl (a_dec_at dcl_c0 34 rfl) ?_
  refine ev_iconst (v := 2) rfl (a_dec_at dcl_c0 35 rfl) ?_
  refine ev_iadd (a_dec_at dcl_c0 36 rfl) ?_
  refine ev_scr rfl h2 (a_dec_at dcl_c0 37 rfl) ?_
  refine ev_aload_n (i := 0) rfl rfl (a_dec_at dcl_c0 38 rfl) ?_
  refine ev_iload_n (i := 3) rfl rfl (a_dec_at dcl_c0 39 rfl) ?_
  refine ev_iconst (v := 3) rfl (a_dec_at dcl_c0 40 rfl) ?_
  refine ev_iadd (a_dec_at dcl_c0 41 rfl) ?_
  refine ev_scr rfl h3 (a_dec_at dcl_c0 42 rfl) ?_
  refine ev_aload_n (i := 0) rfl rfl (a_dec_at dcl_c0 43 rfl) ?_
  refine ev_iload_n (i := 3) rfl rfl (a_dec_at dcl_c0 44 rfl) ?_
  refine ev_iconst (v := 4) rfl (a_dec_at dcl_c0 45 rfl) ?_
  refine ev_iadd (a_dec_at dcl_c0 46 rfl) ?_
  refine ev_scr rfl h4 (a_dec_at dcl_c0 47 rfl) ?_
  refine ev_aload_n (i := 0) rfl rfl (a_dec_at dcl_c0 48 rfl) ?_
  refine ev_iload_n (i := 3) rfl rfl (a_dec_at dcl_c0 49 rfl) ?_
  refine ev_iconst (v := 5) rfl (a_dec_at dcl_c0 50 rfl) ?_
  refine ev_iadd (a_dec_at dcl_c0 51 rfl) ?_
  refine ev_scr rfl h5 (a_dec_at dcl_c0 52 rfl) ?_
  refine cV5I cs_LAW_17 sh119 rfl (Nat.le_of_ble_eq_true rfl) (Nat.le_of_ble_eq_true rfl) (a_dec_at dcl_c0 53 rfl) ?_
  refine CI.mono (fun r2 m2 l2 z2 H2 => ?_) H1
  exact ev_icmp_eq (tgt := 1474) (a_dec_at dcl_c0 54 rfl) (by decide) (fun _ => H m2 l2 z2 H2.2) (fun b => absurd H2.1 b)
set_option maxRecDepth 20000 in
theorem lc_land {l : Launch} {L : Nat} {xs : Nat → Int32} {mi : TMi} {ml : TMl} {z : Nat} {Q : Option Value → ASt → Prop} {v : Int32} (h1 : vp_in (v + 1) L) (h2 : vp_in (v + 2) L) (h3 : vp_in (v + 3) L) (h4 : vp_in (v + 4) L) (h5 : vp_in (v + 5) L) (hJ : JJ mi ml) (H : ∀ m2 l2 z2, JJ m2 l2 → Ev l (100 + 1) (m_LAW L xs) 1474 ([.ref 2000000, .ref 1, .ref 119, .int v], [], st m2 l2 z2) Q) : Ev l (100 + 1) (m_LAW L xs) 291 ([.ref 2000000, .ref 1, .ref 119, .int v], [], st mi ml z) Q := by
  refine ev_aload_n (i := 1) rfl rfl (a_dec_at dcl_c1 0 rfl) ?_
  refine ev_aload_n (i := 0) rfl rfl (a_dec_at dcl_c1 1 rfl) ?_
  refine ev_iload_n (i := 3) rfl rfl (a_dec_at dcl_c1 2 rfl) ?_
  refine ev_iconst (v := 1) rfl (a_dec_at dcl_c1 3 rfl) ?_
  refine ev_iadd (a_dec_at dcl_c1 4 rfl) ?_
  refine ev_scr rfl h1 (a_dec_at dcl_c1 5 rfl) ?_
  refine cV1I cs_LAW_18 sh1 rfl (Nat.le_of_ble_eq_true rfl) (Nat.le_of_ble_eq_true rfl) (a_dec_at dcl_c1 6 rfl) ?_
  refine CI.mono (fun r1 m1 l1 z1 H1 => ?_) (j_land _ hJ)
  refine ev_aload_n (i := 2) rfl rfl (a_dec_at dcl_c1 7 rfl) ?_
  refine ev_aload_n (i := 0) rfl rfl (a_dec_at dcl_c1 8 rfl) ?_
  refine ev_iload_n (i := 3) rfl rfl (a_dec_at dcl_c1 9 rfl) ?_
  refine ev_iconst (v := 1) rfl (a_dec_at dcl_c1 10 rfl) ?_
  refine ev_iadd (a_dec_at dcl_c1 11 rfl) ?_
  refine ev_scr rfl h1 (a_dec_at dcl_c1 12 rfl) ?_
  refine cV1I cs_LAW_22 sh119 rfl (Nat.le_of_ble_eq_true rfl) (Nat.le_of_ble_eq_true rfl) (a_dec_at dcl_c1 13 rfl) ?_
  refine CI.mono (fun r2 m2 l2 z2 H2 => ?_) H1
  exact ev_icmp_eq (tgt := 1474) (a_dec_at dcl_c1 14 rfl) (by decide) (fun _ => H m2 l2 z2 H2.2) (fun b => absurd H2.1 b)
set_option maxRecDepth 20000 in
theorem lc_fault {l : Launch} {L : Nat} {xs : Nat → Int32} {mi : TMi} {ml : TMl} {z : Nat} {Q : Option Value → ASt → Prop} {v : Int32} (h1 : vp_in (v + 1) L) (h2 : vp_in (v + 2) L) (h3 : vp_in (v + 3) L) (h4 : vp_in (v + 4) L) (h5 : vp_in (v + 5) L) (hJ : JJ mi ml) (H : ∀ m2 l2 z2, JJ m2 l2 → Ev l (100 + 1) (m_LAW L xs) 1474 ([.ref 2000000, .ref 1, .ref 119, .int v], [], st m2 l2 z2) Q) : Ev l (100 + 1) (m_LAW L xs) 314 ([.ref 2000000, .ref 1, .ref 119, .int v], [], st mi ml z) Q := by
  refine ev_aload_n (i := 1) rfl rfl (a_dec_at dcl_c2 0 rfl) ?_
  refine ev_aload_n (i := 0) rfl rfl (a_dec_at dcl_c2 1 rfl) ?_
  refine ev_iload_n (i := 3) rfl rfl (a_dec_at dcl_c2 2 rfl) ?_
  refine ev_iconst (v := 1) rfl (a_dec_at dcl_c2 3 rfl) ?_
  refine ev_iadd (a_dec_at dcl_c2 4 rfl) ?_
  refine ev_scr rfl h1 (a_dec_at dcl_c2 5 rfl) ?_
  refine cV1I cs_LAW_23 sh1 rfl (Nat.le_of_ble_eq_true rfl) (Nat.le_of_ble_eq_true rfl) (a_dec_at dcl_c2 6 rfl) ?_
  refine CI.mono (fun r1 m1 l1 z1 H1 => ?_) (j_fault _ hJ)
  refine ev_aload_n (i := 2) rfl rfl (a_dec_at dcl_c2 7 rfl) ?_
  refine ev_aload_n (i := 0) rfl rfl (a_dec_at dcl_c2 8 rfl) ?_
  refine ev_iload_n (i := 3) rfl rfl (a_dec_at dcl_c2 9 rfl) ?_
  refine ev_iconst (v := 1) rfl (a_dec_at dcl_c2 10 rfl) ?_
  refine ev_iadd (a_dec_at dcl_c2 11 rfl) ?_
  refine ev_scr rfl h1 (a_dec_at dcl_c2 12 rfl) ?_
  refine cV1I cs_LAW_26 sh119 rfl (Nat.le_of_ble_eq_true rfl) (Nat.le_of_ble_eq_true rfl) (a_dec_at dcl_c2 13 rfl) ?_
  refine CI.mono (fun r2 m2 l2 z2 H2 => ?_) H1
  exact ev_icmp_eq (tgt := 1474) (a_dec_at dcl_c2 14 rfl) (by decide) (fun _ => H m2 l2 z2 H2.2) (fun b => absurd H2.1 b)
set_option maxRecDepth 20000 in
theorem lc_beck {l : Launch} {L : Nat} {xs : Nat → Int32} {mi : TMi} {ml : TMl} {z : Nat} {Q : Option Value → ASt → Prop} {v : Int32} (h1 : vp_in (v + 1) L) (h2 : vp_in (v + 2) L) (h3 : vp_in (v + 3) L) (h4 : vp_in (v + 4) L) (h5 : vp_in (v + 5) L) (hJ : JJ mi ml) (H : ∀ m2 l2 z2, JJ m2 l2 → Ev l (100 + 1) (m_LAW L xs) 1474 ([.ref 2000000, .ref 1, .ref 119, .int v], [], st m2 l2 z2) Q) : Ev l (100 + 1) (m_LAW L xs) 337 ([.ref 2000000, .ref 1, .ref 119, .int v], [], st mi ml z) Q := by
  refine ev_aload_n (i := 1) rfl rfl (a_dec_at dcl_c3 0 rfl) ?_
  refine ev_aload_n (i := 0) rfl rfl (a_dec_at dcl_c3 1 rfl) ?_
  refine ev_iload_n (i := 3) rfl rfl (a_dec_at dcl_c3 2 rfl) ?_
  refine ev_iconst (v := 1) rfl (a_dec_at dcl_c3 3 rfl) ?_
  refine ev_iadd (a_dec_at dcl_c3 4 rfl) ?_
  refine ev_scr rfl h1 (a_dec_at dcl_c3 5 rfl) ?_
  refine ev_aload_n (i := 0) rfl rfl (a_dec_at dcl_c3 6 rfl) ?_
  refine ev_iload_n (i := 3) rfl rfl (a_dec_at dcl_c3 7 rfl) ?_
  refine ev_iconst (v := 2) rfl (a_dec_at dcl_c3 8 rfl) ?_
  refine ev_iadd (a_dec_at dcl_c3 9 rfl) ?_
  refine ev_scr rfl h2 (a_dec_at dcl_c3 10 rfl) ?_
  refine cV2I cs_LAW_27 sh1 rfl (Nat.le_of_ble_eq_true rfl) (Nat.le_of_ble_eq_true rfl) (a_dec_at dcl_c3 11 rfl) ?_
  refine CI.mono (fun r1 m1 l1 z1 H1 => ?_) (j_beck _ _ hJ)
  refine ev_aload_n (i := 2) rfl rfl (a_dec_at dcl_c3 12 rfl) ?_
  refine ev_aload_n (i := 0) rfl rfl (a_dec_at dcl_c3 13 rfl) ?_
  refine ev_iload_n (i := 3) rfl rfl (a_dec_at dcl_c3 14 rfl) ?_
  refine ev_iconst (v := 1) rfl (a_dec_at dcl_c3 15 rfl) ?_
  refine ev_iadd (a_dec_at dcl_c3 16 rfl) ?_
  refine ev_scr rfl h1 (a_dec_at dcl_c3 17 rfl) ?_
  refine ev_aload_n (i := 0) rfl rfl (a_dec_at dcl_c3 18 rfl) ?_
  refine ev_iload_n (i := 3) rfl rfl (a_dec_at dcl_c3 19 rfl) ?_
  refine ev_iconst (v := 2) rfl (a_dec_at dcl_c3 20 rfl) ?_
  refine ev_iadd (a_dec_at dcl_c3 21 rfl) ?_
  refine ev_scr rfl h2 (a_dec_at dcl_c3 22 rfl) ?_
  refine cV2I cs_LAW_31 sh119 rfl (Nat.le_of_ble_eq_true rfl) (Nat.le_of_ble_eq_true rfl) (a_dec_at dcl_c3 23 rfl) ?_
  refine CI.mono (fun r2 m2 l2 z2 H2 => ?_) H1
  exact ev_icmp_eq (tgt := 1474) (a_dec_at dcl_c3 24 rfl) (by decide) (fun _ => H m2 l2 z2 H2.2) (fun b => absurd H2.1 b)
set_option maxRecDepth 20000 in
theorem lc_river {l : Launch} {L : Nat} {xs : Nat → Int32} {mi : TMi} {ml : TMl} {z : Nat} {Q : Option Value → ASt → Prop} {v : Int32} (h1 : vp_in (v + 1) L) (h2 : vp_in (v + 2) L) (h3 : vp_in (v + 3) L) (h4 : vp_in (v + 4) L) (h5 : vp_in (v + 5) L) (hJ : JJ mi ml) (H : ∀ m2 l2 z2, JJ m2 l2 → Ev l (100 + 1) (m_LAW L xs) 1474 ([.ref 2000000, .ref 1, .ref 119, .int v], [], st m2 l2 z2) Q) : Ev l (100 + 1) (m_LAW L xs) 370 ([.ref 2000000, .ref 1, .ref 119, .int v], [], st mi ml z) Q := by
  refine ev_aload_n (i := 1) rfl rfl (a_dec_at dcl_c4 0 rfl) ?_
  refine ev_aload_n (i := 0) rfl rfl (a_dec_at dcl_c4 1 rfl) ?_
  refine ev_iload_n (i := 3) rfl rfl (a_dec_at dcl_c4 2 rfl) ?_
  refine ev_iconst (v := 1) rfl (a_dec_at dcl_c4 3 rfl) ?_
  refine ev_iadd (a_dec_at dcl_c4 4 rfl) ?_
  refine ev_scr rfl h1 (a_dec_at dcl_c4 5 rfl) ?_
  refine ev_aload_n (i := 0) rfl rfl (a_dec_at dcl_c4 6 rfl) ?_
  refine ev_iload_n (i := 3) rfl rfl (a_dec_at dcl_c4 7 rfl) ?_
  refine ev_iconst (v := 2) rfl (a_dec_at dcl_c4 8 rfl) ?_
  refine ev_iadd (a_dec_at dcl_c4 9 rfl) ?_
  refine ev_scr rfl h2 (a_dec_at dcl_c4 10 rfl) ?_
  refine cV2I cs_LAW_32 sh1 rfl (Nat.le_of_ble_eq_true rfl) (Nat.le_of_ble_eq_true rfl) (a_dec_at dcl_c4 11 rfl) ?_
  refine CI.mono (fun r1 m1 l1 z1 H1 => ?_) (j_river _ _ hJ)
  refine ev_aload_n (i := 2) rfl rfl (a_dec_at dcl_c4 12 rfl) ?_
  refine ev_aload_n (i := 0) rfl rfl (a_dec_at dcl_c4 13 rfl) ?_
  refine ev_iload_n (i := 3) rfl rfl (a_dec_at dcl_c4 14 rfl) ?_
  refine ev_iconst (v := 1) rfl (a_dec_at dcl_c4 15 rfl) ?_
  refine ev_iadd (a_dec_at dcl_c4 16 rfl) ?_
  refine ev_scr rfl h1 (a_dec_at dcl_c4 17 rfl) ?_
  refine ev_aload_n (i := 0) rfl rfl (a_dec_at dcl_c4 18 rfl) ?_
  refine ev_iload_n (i := 3) rfl rfl (a_dec_at dcl_c4 19 rfl) ?_
  refine ev_iconst (v := 2) rfl (a_dec_at dcl_c4 20 rfl) ?_
  refine ev_iadd (a_dec_at dcl_c4 21 rfl) ?_
  refine ev_scr rfl h2 (a_dec_at dcl_c4 22 rfl) ?_
  refine cV2I cs_LAW_35 sh119 rfl (Nat.le_of_ble_eq_true rfl) (Nat.le_of_ble_eq_true rfl) (a_dec_at dcl_c4 23 rfl) ?_
  refine CI.mono (fun r2 m2 l2 z2 H2 => ?_) H1
  exact ev_icmp_eq (tgt := 1474) (a_dec_at dcl_c4 24 rfl) (by decide) (fun _ => H m2 l2 z2 H2.2) (fun b => absurd H2.1 b)
set_option maxRecDepth 20000 in
theorem lc_likes {l : Launch} {L : Nat} {xs : Nat → Int32} {mi : TMi} {ml : TMl} {z : Nat} {Q : Option Value → ASt → Prop} {v : Int32} (h1 : vp_in (v + 1) L) (h2 : vp_in (v + 2) L) (h3 : vp_in (v + 3) L) (h4 : vp_in (v + 4) L) (h5 : vp_in (v + 5) L) (hJ : JJ mi ml) (H : ∀ m2 l2 z2, JJ m2 l2 → Ev l (100 + 1) (m_LAW L xs) 1474 ([.ref 2000000, .ref 1, .ref 119, .int v], [], st m2 l2 z2) Q) : Ev l (100 + 1) (m_LAW L xs) 403 ([.ref 2000000, .ref 1, .ref 119, .int v], [], st mi ml z) Q := by
  refine ev_aload_n (i := 1) rfl rfl (a_dec_at dcl_c5 0 rfl) ?_
  refine ev_aload_n (i := 0) rfl rfl (a_dec_at dcl_c5 1 rfl) ?_
  refine ev_iload_n (i := 3) rfl rfl (a_dec_at dcl_c5 2 rfl) ?_
  refine ev_iconst (v := 1) rfl (a_dec_at dcl_c5 3 rfl) ?_
  refine ev_iadd (a_dec_at dcl_c5 4 rfl) ?_
  refine ev_scr rfl h1 (a_dec_at dcl_c5 5 rfl) ?_
  refine ev_aload_n (i := 0) rfl rfl (a_dec_at dcl_c5 6 rfl) ?_
  refine ev_iload_n (i := 3) rfl rfl (a_dec_at dcl_c5 7 rfl) ?_
  refine ev_iconst (v := 2) rfl (a_dec_at dcl_c5 8 rfl) ?_
  refine ev_iadd (a_dec_at dcl_c5 9 rfl) ?_
  refine ev_scr rfl h2 (a_dec_at dcl_c5 10 rfl) ?_
  refine cV2I cs_LAW_36 sh1 rfl (Nat.le_of_ble_eq_true rfl) (Nat.le_of_ble_eq_true rfl) (a_dec_at dcl_c5 11 rfl) ?_
  refine CI.mono (fun r1 m1 l1 z1 H1 => ?_) (j_likes _ _ hJ)
  refine ev_aload_n (i := 2) rfl rfl (a_dec_at dcl_c5 12 rfl) ?_
  refine ev_aload_n (i := 0) rfl rfl (a_dec_at dcl_c5 13 rfl) ?_
  refine ev_iload_n (i := 3) rfl rfl (a_dec_at dcl_c5 14 rfl) ?_
  refine ev_iconst (v := 1) rfl (a_dec_at dcl_c5 15 rfl) ?_
  refine ev_iadd (a_dec_at dcl_c5 16 rfl) ?_
  refine ev_scr rfl h1 (a_dec_at dcl_c5 17 rfl) ?_
  refine ev_aload_n (i := 0) rfl rfl (a_dec_at dcl_c5 18 rfl) ?_
  refine ev_iload_n (i := 3) rfl rfl (a_dec_at dcl_c5 19 rfl) ?_
  refine ev_iconst (v := 2) rfl (a_dec_at dcl_c5 20 rfl) ?_
  refine ev_iadd (a_dec_at dcl_c5 21 rfl) ?_
  refine ev_scr rfl h2 (a_dec_at dcl_c5 22 rfl) ?_
  refine cV2I cs_LAW_39 sh119 rfl (Nat.le_of_ble_eq_true rfl) (Nat.le_of_ble_eq_true rfl) (a_dec_at dcl_c5 23 rfl) ?_
  refine CI.mono (fun r2 m2 l2 z2 H2 => ?_) H1
  exact ev_icmp_eq (tgt := 1474) (a_dec_at dcl_c5 24 rfl) (by decide) (fun _ => H m2 l2 z2 H2.2) (fun b => absurd H2.1 b)
set_option maxRecDepth 20000 in
theorem lc_takes {l : Launch} {L : Nat} {xs : Nat → Int32} {mi : TMi} {ml : TMl} {z : Nat} {Q : Option Value → ASt → Prop} {v : Int32} (h1 : vp_in (v + 1) L) (h2 : vp_in (v + 2) L) (h3 : vp_in (v + 3) L) (h4 : vp_in (v + 4) L) (h5 : vp_in (v + 5) L) (hJ : JJ mi ml) (H : ∀ m2 l2 z2, JJ m2 l2 → Ev l (100 + 1) (m_LAW L xs) 1474 ([.ref 2000000, .ref 1, .ref 119, .int v], [], st m2 l2 z2) Q) : Ev l (100 + 1) (m_LAW L xs) 436 ([.ref 2000000, .ref 1, .ref 119, .int v], [], st mi ml z) Q := by
  refine ev_aload_n (i := 1) rfl rfl (a_dec_at dcl_c6 0 rfl) ?_
  refine ev_aload_n (i := 0) rfl rfl (a_dec_at dcl_c6 1 rfl) ?_
  refine ev_iload_n (i := 3) rfl rfl (a_dec_at dcl_c6 2 rfl) ?_
  refine ev_iconst (v := 1) rfl (a_dec_at dcl_c6 3 rfl) ?_
  refine ev_iadd (a_dec_at dcl_c6 4 rfl) ?_
  refine ev_scr rfl h1 (a_dec_at dcl_c6 5 rfl) ?_
  refine ev_aload_n (i := 0) rfl rfl (a_dec_at dcl_c6 6 rfl) ?_
  refine ev_iload_n (i := 3) rfl rfl (a_dec_at dcl_c6 7 rfl) ?_
  refine ev_iconst (v := 2) rfl (a_dec_at dcl_c6 8 rfl) ?_
  refine ev_iadd (a_dec_at dcl_c6 9 rfl) ?_
  refine ev_scr rfl h2 (a_dec_at dcl_c6 10 rfl) ?_
  refine cV2I cs_LAW_40 sh1 rfl (Nat.le_of_ble_eq_true rfl) (Nat.le_of_ble_eq_true rfl) (a_dec_at dcl_c6 11 rfl) ?_
  refine CI.mono (fun r1 m1 l1 z1 H1 => ?_) (j_takes _ _ hJ)
  refine ev_aload_n (i := 2) rfl rfl (a_dec_at dcl_c6 12 rfl) ?_
  refine ev_aload_n (i := 0) rfl rfl (a_dec_at dcl_c6 13 rfl) ?_
  refine ev_iload_n (i := 3) rfl rfl (a_dec_at dcl_c6 14 rfl) ?_
  refine ev_iconst (v := 1) rfl (a_dec_at dcl_c6 15 rfl) ?_
  refine ev_iadd (a_dec_at dcl_c6 16 rfl) ?_
  refine ev_scr rfl h1 (a_dec_at dcl_c6 17 rfl) ?_
  refine ev_aload_n (i := 0) rfl rfl (a_dec_at dcl_c6 18 rfl) ?_
  refine ev_iload_n (i := 3) rfl rfl (a_dec_at dcl_c6 19 rfl) ?_
  refine ev_iconst (v := 2) rfl (a_dec_at dcl_c6 20 rfl) ?_
  refine ev_iadd (a_dec_at dcl_c6 21 rfl) ?_
  refine ev_scr rfl h2 (a_dec_at dcl_c6 22 rfl) ?_
  refine cV2I cs_LAW_43 sh119 rfl (Nat.le_of_ble_eq_true rfl) (Nat.le_of_ble_eq_true rfl) (a_dec_at dcl_c6 23 rfl) ?_
  refine CI.mono (fun r2 m2 l2 z2 H2 => ?_) H1
  exact ev_icmp_eq (tgt := 1474) (a_dec_at dcl_c6 24 rfl) (by decide) (fun _ => H m2 l2 z2 H2.2) (fun b => absurd H2.1 b)
set_option maxRecDepth 20000 in
theorem lc_gifts {l : Launch} {L : Nat} {xs : Nat → Int32} {mi : TMi} {ml : TMl} {z : Nat} {Q : Option Value → ASt → Prop} {v : Int32} (h1 : vp_in (v + 1) L) (h2 : vp_in (v + 2) L) (h3 : vp_in (v + 3) L) (h4 : vp_in (v + 4) L) (h5 : vp_in (v + 5) L) (hJ : JJ mi ml) (H : ∀ m2 l2 z2, JJ m2 l2 → Ev l (100 + 1) (m_LAW L xs) 1474 ([.ref 2000000, .ref 1, .ref 119, .int v], [], st m2 l2 z2) Q) : Ev l (100 + 1) (m_LAW L xs) 469 ([.ref 2000000, .ref 1, .ref 119, .int v], [], st mi ml z) Q := by
  refine ev_aload_n (i := 1) rfl rfl (a_dec_at dcl_c7 0 rfl) ?_
  refine ev_aload_n (i := 0) rfl rfl (a_dec_at dcl_c7 1 rfl) ?_
  refine ev_iload_n (i := 3) rfl rfl (a_dec_at dcl_c7 2 rfl) ?_
  refine ev_iconst (v := 1) rfl (a_dec_at dcl_c7 3 rfl) ?_
  refine ev_iadd (a_dec_at dcl_c7 4 rfl) ?_
  refine ev_scr rfl h1 (a_dec_at dcl_c7 5 rfl) ?_
  refine ev_aload_n (i := 0) rfl rfl (a_dec_at dcl_c7 6 rfl) ?_
  refine ev_iload_n (i := 3) rfl rfl (a_dec_at dcl_c7 7 rfl) ?_
  refine ev_iconst (v := 2) rfl (a_dec_at dcl_c7 8 rfl) ?_
  refine ev_iadd (a_dec_at dcl_c7 9 rfl) ?_
  refine ev_scr rfl h2 (a_dec_at dcl_c7 10 rfl) ?_
  refine cV2I cs_LAW_44 sh1 rfl (Nat.le_of_ble_eq_true rfl) (Nat.le_of_ble_eq_true rfl) (a_dec_at dcl_c7 11 rfl) ?_
  refine CI.mono (fun r1 m1 l1 z1 H1 => ?_) (j_gifts _ _ hJ)
  refine ev_aload_n (i := 2) rfl rfl (a_dec_at dcl_c7 12 rfl) ?_
  refine ev_aload_n (i := 0) rfl rfl (a_dec_at dcl_c7 13 rfl) ?_
  refine ev_iload_n (i := 3) rfl rfl (a_dec_at dcl_c7 14 rfl) ?_
  refine ev_iconst (v := 1) rfl (a_dec_at dcl_c7 15 rfl) ?_
  refine ev_iadd (a_dec_at dcl_c7 16 rfl) ?_
  refine ev_scr rfl h1 (a_dec_at dcl_c7 17 rfl) ?_
  refine ev_aload_n (i := 0) rfl rfl (a_dec_at dcl_c7 18 rfl) ?_
  refine ev_iload_n (i := 3) rfl rfl (a_dec_at dcl_c7 19 rfl) ?_
  refine ev_iconst (v := 2) rfl (a_dec_at dcl_c7 20 rfl) ?_
  refine ev_iadd (a_dec_at dcl_c7 21 rfl) ?_
  refine ev_scr rfl h2 (a_dec_at dcl_c7 22 rfl) ?_
  refine cV2I cs_LAW_47 sh119 rfl (Nat.le_of_ble_eq_true rfl) (Nat.le_of_ble_eq_true rfl) (a_dec_at dcl_c7 23 rfl) ?_
  refine CI.mono (fun r2 m2 l2 z2 H2 => ?_) H1
  exact ev_icmp_eq (tgt := 1474) (a_dec_at dcl_c7 24 rfl) (by decide) (fun _ => H m2 l2 z2 H2.2) (fun b => absurd H2.1 b)
set_option maxRecDepth 20000 in
theorem lc_declare {l : Launch} {L : Nat} {xs : Nat → Int32} {mi : TMi} {ml : TMl} {z : Nat} {Q : Option Value → ASt → Prop} {v : Int32} (h1 : vp_in (v + 1) L) (h2 : vp_in (v + 2) L) (h3 : vp_in (v + 3) L) (h4 : vp_in (v + 4) L) (h5 : vp_in (v + 5) L) (hJ : JJ mi ml) (H : ∀ m2 l2 z2, JJ m2 l2 → Ev l (100 + 1) (m_LAW L xs) 1474 ([.ref 2000000, .ref 1, .ref 119, .int v], [], st m2 l2 z2) Q) : Ev l (100 + 1) (m_LAW L xs) 502 ([.ref 2000000, .ref 1, .ref 119, .int v], [], st mi ml z) Q := by
  refine ev_aload_n (i := 1) rfl rfl (a_dec_at dcl_c8 0 rfl) ?_
  refine ev_aload_n (i := 0) rfl rfl (a_dec_at dcl_c8 1 rfl) ?_
  refine ev_iload_n (i := 3) rfl rfl (a_dec_at dcl_c8 2 rfl) ?_
  refine ev_iconst (v := 1) rfl (a_dec_at dcl_c8 3 rfl) ?_
  refine ev_iadd (a_dec_at dcl_c8 4 rfl) ?_
  refine ev_scr rfl h1 (a_dec_at dcl_c8 5 rfl) ?_
  refine ev_aload_n (i := 0) rfl rfl (a_dec_at dcl_c8 6 rfl) ?_
  refine ev_iload_n (i := 3) rfl rfl (a_dec_at dcl_c8 7 rfl) ?_
  refine ev_iconst (v := 2) rfl (a_dec_at dcl_c8 8 rfl) ?_
  refine ev_iadd (a_dec_at dcl_c8 9 rfl) ?_
  refine ev_scr rfl h2 (a_dec_at dcl_c8 10 rfl) ?_
  refine cV2I cs_LAW_48 sh1 rfl (Nat.le_of_ble_eq_true rfl) (Nat.le_of_ble_eq_true rfl) (a_dec_at dcl_c8 11 rfl) ?_
  refine CI.mono (fun r1 m1 l1 z1 H1 => ?_) (j_declare _ _ hJ)
  refine ev_aload_n (i := 2) rfl rfl (a_dec_at dcl_c8 12 rfl) ?_
  refine ev_aload_n (i := 0) rfl rfl (a_dec_at dcl_c8 13 rfl) ?_
  refine ev_iload_n (i := 3) rfl rfl (a_dec_at dcl_c8 14 rfl) ?_
  refine ev_iconst (v := 1) rfl (a_dec_at dcl_c8 15 rfl) ?_
  refine ev_iadd (a_dec_at dcl_c8 16 rfl) ?_
  refine ev_scr rfl h1 (a_dec_at dcl_c8 17 rfl) ?_
  refine ev_aload_n (i := 0) rfl rfl (a_dec_at dcl_c8 18 rfl) ?_
  refine ev_iload_n (i := 3) rfl rfl (a_dec_at dcl_c8 19 rfl) ?_
  refine ev_iconst (v := 2) rfl (a_dec_at dcl_c8 20 rfl) ?_
  refine ev_iadd (a_dec_at dcl_c8 21 rfl) ?_
  refine ev_scr rfl h2 (a_dec_at dcl_c8 22 rfl) ?_
  refine cV2I cs_LAW_51 sh119 rfl (Nat.le_of_ble_eq_true rfl) (Nat.le_of_ble_eq_true rfl) (a_dec_at dcl_c8 23 rfl) ?_
  refine CI.mono (fun r2 m2 l2 z2 H2 => ?_) H1
  exact ev_icmp_eq (tgt := 1474) (a_dec_at dcl_c8 24 rfl) (by decide) (fun _ => H m2 l2 z2 H2.2) (fun b => absurd H2.1 b)
set_option maxRecDepth 20000 in
theorem lc_leave {l : Launch} {L : Nat} {xs : Nat → Int32} {mi : TMi} {ml : TMl} {z : Nat} {Q : Option Value → ASt → Prop} {v : Int32} (h1 : vp_in (v + 1) L) (h2 : vp_in (v + 2) L) (h3 : vp_in (v + 3) L) (h4 : vp_in (v + 4) L) (h5 : vp_in (v + 5) L) (hJ : JJ mi ml) (H : ∀ m2 l2 z2, JJ m2 l2 → Ev l (100 + 1) (m_LAW L xs) 1474 ([.ref 2000000, .ref 1, .ref 119, .int v], [], st m2 l2 z2) Q) : Ev l (100 + 1) (m_LAW L xs) 535 ([.ref 2000000, .ref 1, .ref 119, .int v], [], st mi ml z) Q := by
  refine ev_aload_n (i := 1) rfl rfl (a_dec_at dcl_c9 0 rfl) ?_
  refine ev_aload_n (i := 0) rfl rfl (a_dec_at dcl_c9 1 rfl) ?_
  refine ev_iload_n (i := 3) rfl rfl (a_dec_at dcl_c9 2 rfl) ?_
  refine ev_iconst (v := 1) rfl (a_dec_at dcl_c9 3 rfl) ?_
  refine ev_iadd (a_dec_at dcl_c9 4 rfl) ?_
  refine ev_scr rfl h1 (a_dec_at dcl_c9 5 rfl) ?_
  refine cV1I cs_LAW_52 sh1 rfl (Nat.le_of_ble_eq_true rfl) (Nat.le_of_ble_eq_true rfl) (a_dec_at dcl_c9 6 rfl) ?_
  refine CI.mono (fun r1 m1 l1 z1 H1 => ?_) (j_leave _ hJ)
  refine ev_aload_n (i := 2) rfl rfl (a_dec_at dcl_c9 7 rfl) ?_
  refine ev_aload_n (i := 0) rfl rfl (a_dec_at dcl_c9 8 rfl) ?_
  refine ev_iload_n (i := 3) rfl rfl (a_dec_at dcl_c9 9 rfl) ?_
  refine ev_iconst (v := 1) rfl (a_dec_at dcl_c9 10 rfl) ?_
  refine ev_iadd (a_dec_at dcl_c9 11 rfl) ?_
  refine ev_scr rfl h1 (a_dec_at dcl_c9 12 rfl) ?_
  refine cV1I cs_LAW_55 sh119 rfl (Nat.le_of_ble_eq_true rfl) (Nat.le_of_ble_eq_true rfl) (a_dec_at dcl_c9 13 rfl) ?_
  refine CI.mono (fun r2 m2 l2 z2 H2 => ?_) H1
  exact ev_icmp_eq (tgt := 1474) (a_dec_at dcl_c9 14 rfl) (by decide) (fun _ => H m2 l2 z2 H2.2) (fun b => absurd H2.1 b)
set_option maxRecDepth 20000 in
theorem lc_send {l : Launch} {L : Nat} {xs : Nat → Int32} {mi : TMi} {ml : TMl} {z : Nat} {Q : Option Value → ASt → Prop} {v : Int32} (h1 : vp_in (v + 1) L) (h2 : vp_in (v + 2) L) (h3 : vp_in (v + 3) L) (h4 : vp_in (v + 4) L) (h5 : vp_in (v + 5) L) (hJ : JJ mi ml) (H : ∀ m2 l2 z2, JJ m2 l2 → Ev l (100 + 1) (m_LAW L xs) 1474 ([.ref 2000000, .ref 1, .ref 119, .int v], [], st m2 l2 z2) Q) : Ev l (100 + 1) (m_LAW L xs) 558 ([.ref 2000000, .ref 1, .ref 119, .int v], [], st mi ml z) Q := by
  refine ev_aload_n (i := 1) rfl rfl (a_dec_at dcl_c10 0 rfl) ?_
  refine ev_aload_n (i := 0) rfl rfl (a_dec_at dcl_c10 1 rfl) ?_
  refine ev_iload_n (i := 3) rfl rfl (a_dec_at dcl_c10 2 rfl) ?_
  refine ev_iconst (v := 1) rfl (a_dec_at dcl_c10 3 rfl) ?_
  refine ev_iadd (a_dec_at dcl_c10 4 rfl) ?_
  refine ev_scr rfl h1 (a_dec_at dcl_c10 5 rfl) ?_
  refine ev_aload_n (i := 0) rfl rfl (a_dec_at dcl_c10 6 rfl) ?_
  refine ev_iload_n (i := 3) rfl rfl (a_dec_at dcl_c10 7 rfl) ?_
  refine ev_iconst (v := 2) rfl (a_dec_at dcl_c10 8 rfl) ?_
  refine ev_iadd (a_dec_at dcl_c10 9 rfl) ?_
  refine ev_scr rfl h2 (a_dec_at dcl_c10 10 rfl) ?_
  refine ev_aload_n (i := 0) rfl rfl (a_dec_at dcl_c10 11 rfl) ?_
  refine ev_iload_n (i := 3) rfl rfl (a_dec_at dcl_c10 12 rfl) ?_
  refine ev_iconst (v := 3) rfl (a_dec_at dcl_c10 13 rfl) ?_
  refine ev_iadd (a_dec_at dcl_c10 14 rfl) ?_
  refine ev_scr rfl h3 (a_dec_at dcl_c10 15 rfl) ?_
  refine cV3I cs_LAW_56 sh1 rfl (Nat.le_of_ble_eq_true rfl) (Nat.le_of_ble_eq_true rfl) (a_dec_at dcl_c10 16 rfl) ?_
  refine CI.mono (fun r1 m1 l1 z1 H1 => ?_) (j_send _ _ _ hJ)
  refine ev_aload_n (i := 2) rfl rfl (a_dec_at dcl_c10 17 rfl) ?_
  refine ev_aload_n (i := 0) rfl rfl (a_dec_at dcl_c10 18 rfl) ?_
  refine ev_iload_n (i := 3) rfl rfl (a_dec_at dcl_c10 19 rfl) ?_
  refine ev_iconst (v := 1) rfl (a_dec_at dcl_c10 20 rfl) ?_
  refine ev_iadd (a_dec_at dcl_c10 21 rfl) ?_
  refine ev_scr rfl h1 (a_dec_at dcl_c10 22 rfl) ?_
  refine ev_aload_n (i := 0) rfl rfl (a_dec_at dcl_c10 23 rfl) ?_
  refine ev_iload_n (i := 3) rfl rfl (a_dec_at dcl_c10 24 rfl) ?_
  refine ev_iconst (v := 2) rfl (a_dec_at dcl_c10 25 rfl) ?_
  refine ev_iadd (a_dec_at dcl_c10 26 rfl) ?_
  refine ev_scr rfl h2 (a_dec_at dcl_c10 27 rfl) ?_
  refine ev_aload_n (i := 0) rfl rfl (a_dec_at dcl_c10 28 rfl) ?_
  refine ev_iload_n (i := 3) rfl rfl (a_dec_at dcl_c10 29 rfl) ?_
  refine ev_iconst (v := 3) rfl (a_dec_at dcl_c10 30 rfl) ?_
  refine ev_iadd (a_dec_at dcl_c10 31 rfl) ?_
  refine ev_scr rfl h3 (a_dec_at dcl_c10 32 rfl) ?_
  refine cV3I cs_LAW_60 sh119 rfl (Nat.le_of_ble_eq_true rfl) (Nat.le_of_ble_eq_true rfl) (a_dec_at dcl_c10 33 rfl) ?_
  refine CI.mono (fun r2 m2 l2 z2 H2 => ?_) H1
  exact ev_icmp_eq (tgt := 1474) (a_dec_at dcl_c10 34 rfl) (by decide) (fun _ => H m2 l2 z2 H2.2) (fun b => absurd H2.1 b)
set_option maxRecDepth 20000 in
theorem lc_rain {l : Launch} {L : Nat} {xs : Nat → Int32} {mi : TMi} {ml : TMl} {z : Nat} {Q : Option Value → ASt → Prop} {v : Int32} (h1 : vp_in (v + 1) L) (h2 : vp_in (v + 2) L) (h3 : vp_in (v + 3) L) (h4 : vp_in (v + 4) L) (h5 : vp_in (v + 5) L) (hJ : JJ mi ml) (H : ∀ m2 l2 z2, JJ m2 l2 → Ev l (100 + 1) (m_LAW L xs) 1474 ([.ref 2000000, .ref 1, .ref 119, .int v], [], st m2 l2 z2) Q) : Ev l (100 + 1) (m_LAW L xs) 601 ([.ref 2000000, .ref 1, .ref 119, .int v], [], st mi ml z) Q := by
  refine ev_aload_n (i := 1) rfl rfl (a_dec_at dcl_c11 0 rfl) ?_
  refine ev_aload_n (i := 0) rfl rfl (a_dec_at dcl_c11 1 rfl) ?_
  refine ev_iload_n (i := 3) rfl rfl (a_dec_at dcl_c11 2 rfl) ?_
  refine ev_iconst (v := 1) rfl (a_dec_at dcl_c11 3 rfl) ?_
  refine ev_iadd (a_dec_at dcl_c11 4 rfl) ?_
  refine ev_scr rfl h1 (a_dec_at dcl_c11 5 rfl) ?_
  refine ev_aload_n (i := 0) rfl rfl (a_dec_at dcl_c11 6 rfl) ?_
  refine ev_iload_n (i := 3) rfl rfl (a_dec_at dcl_c11 7 rfl) ?_
  refine ev_iconst (v := 2) rfl (a_dec_at dcl_c11 8 rfl) ?_
  refine ev_iadd (a_dec_at dcl_c11 9 rfl) ?_
  refine ev_scr rfl h2 (a_dec_at dcl_c11 10 rfl) ?_
  refine cV2I cs_LAW_61 sh1 rfl (Nat.le_of_ble_eq_true rfl) (Nat.le_of_ble_eq_true rfl) (a_dec_at dcl_c11 11 rfl) ?_
  refine CI.mono (fun r1 m1 l1 z1 H1 => ?_) (j_rain _ _ hJ)
  refine ev_aload_n (i := 2) rfl rfl (a_dec_at dcl_c11 12 rfl) ?_
  refine ev_aload_n (i := 0) rfl rfl (a_dec_at dcl_c11 13 rfl) ?_
  refine ev_iload_n (i := 3) rfl rfl (a_dec_at dcl_c11 14 rfl) ?_
  refine ev_iconst (v := 1) rfl (a_dec_at dcl_c11 15 rfl) ?_
  refine ev_iadd (a_dec_at dcl_c11 16 rfl) ?_
  refine ev_scr rfl h1 (a_dec_at dcl_c11 17 rfl) ?_
  refine ev_aload_n (i := 0) rfl rfl (a_dec_at dcl_c11 18 rfl) ?_
  refine ev_iload_n (i := 3) rfl rfl (a_dec_at dcl_c11 19 rfl) ?_
  refine ev_iconst (v := 2) rfl (a_dec_at dcl_c11 20 rfl) ?_
  refine ev_iadd (a_dec_at dcl_c11 21 rfl) ?_
  refine ev_scr rfl h2 (a_dec_at dcl_c11 22 rfl) ?_
  refine cV2I cs_LAW_64 sh119 rfl (Nat.le_of_ble_eq_true rfl) (Nat.le_of_ble_eq_true rfl) (a_dec_at dcl_c11 23 rfl) ?_
  refine CI.mono (fun r2 m2 l2 z2 H2 => ?_) H1
  exact ev_icmp_eq (tgt := 1474) (a_dec_at dcl_c11 24 rfl) (by decide) (fun _ => H m2 l2 z2 H2.2) (fun b => absurd H2.1 b)
set_option maxRecDepth 20000 in
theorem lc_room {l : Launch} {L : Nat} {xs : Nat → Int32} {mi : TMi} {ml : TMl} {z : Nat} {Q : Option Value → ASt → Prop} {v : Int32} (h1 : vp_in (v + 1) L) (h2 : vp_in (v + 2) L) (h3 : vp_in (v + 3) L) (h4 : vp_in (v + 4) L) (h5 : vp_in (v + 5) L) (hJ : JJ mi ml) (H : ∀ m2 l2 z2, JJ m2 l2 → Ev l (100 + 1) (m_LAW L xs) 1474 ([.ref 2000000, .ref 1, .ref 119, .int v], [], st m2 l2 z2) Q) : Ev l (100 + 1) (m_LAW L xs) 634 ([.ref 2000000, .ref 1, .ref 119, .int v], [], st mi ml z) Q := by
  refine ev_aload_n (i := 1) rfl rfl (a_dec_at dcl_c12 0 rfl) ?_
  refine ev_aload_n (i := 0) rfl rfl (a_dec_at dcl_c12 1 rfl) ?_
  refine ev_iload_n (i := 3) rfl rfl (a_dec_at dcl_c12 2 rfl) ?_
  refine ev_iconst (v := 1) rfl (a_dec_at dcl_c12 3 rfl) ?_
  refine ev_iadd (a_dec_at dcl_c12 4 rfl) ?_
  refine ev_scr rfl h1 (a_dec_at dcl_c12 5 rfl) ?_
  refine ev_aload_n (i := 0) rfl rfl (a_dec_at dcl_c12 6 rfl) ?_
  refine ev_iload_n (i := 3) rfl rfl (a_dec_at dcl_c12 7 rfl) ?_
  refine ev_iconst (v := 2) rfl (a_dec_at dcl_c12 8 rfl) ?_
  refine ev_iadd (a_dec_at dcl_c12 9 rfl) ?_
  refine ev_scr rfl h2 (a_dec_at dcl_c12 10 rfl) ?_
  refine cV2I cs_LAW_65 sh1 rfl (Nat.le_of_ble_eq_true rfl) (Nat.le_of_ble_eq_true rfl) (a_dec_at dcl_c12 11 rfl) ?_
  refine CI.mono (fun r1 m1 l1 z1 H1 => ?_) (j_room _ _ hJ)
  refine ev_aload_n (i := 2) rfl rfl (a_dec_at dcl_c12 12 rfl) ?_
  refine ev_aload_n (i := 0) rfl rfl (a_dec_at dcl_c12 13 rfl) ?_
  refine ev_iload_n (i := 3) rfl rfl (a_dec_at dcl_c12 14 rfl) ?_
  refine ev_iconst (v := 1) rfl (a_dec_at dcl_c12 15 rfl) ?_
  refine ev_iadd (a_dec_at dcl_c12 16 rfl) ?_
  refine ev_scr rfl h1 (a_dec_at dcl_c12 17 rfl) ?_
  refine ev_aload_n (i := 0) rfl rfl (a_dec_at dcl_c12 18 rfl) ?_
  refine ev_iload_n (i := 3) rfl rfl (a_dec_at dcl_c12 19 rfl) ?_
  refine ev_iconst (v := 2) rfl (a_dec_at dcl_c12 20 rfl) ?_
  refine ev_iadd (a_dec_at dcl_c12 21 rfl) ?_
  refine ev_scr rfl h2 (a_dec_at dcl_c12 22 rfl) ?_
  refine cV2I cs_LAW_68 sh119 rfl (Nat.le_of_ble_eq_true rfl) (Nat.le_of_ble_eq_true rfl) (a_dec_at dcl_c12 23 rfl) ?_
  refine CI.mono (fun r2 m2 l2 z2 H2 => ?_) H1
  exact ev_icmp_eq (tgt := 1474) (a_dec_at dcl_c12 24 rfl) (by decide) (fun _ => H m2 l2 z2 H2.2) (fun b => absurd H2.1 b)
set_option maxRecDepth 20000 in
theorem lc_undo {l : Launch} {L : Nat} {xs : Nat → Int32} {mi : TMi} {ml : TMl} {z : Nat} {Q : Option Value → ASt → Prop} {v : Int32} (h1 : vp_in (v + 1) L) (h2 : vp_in (v + 2) L) (h3 : vp_in (v + 3) L) (h4 : vp_in (v + 4) L) (h5 : vp_in (v + 5) L) (hJ : JJ mi ml) (H : ∀ m2 l2 z2, JJ m2 l2 → Ev l (100 + 1) (m_LAW L xs) 1474 ([.ref 2000000, .ref 1, .ref 119, .int v], [], st m2 l2 z2) Q) : Ev l (100 + 1) (m_LAW L xs) 667 ([.ref 2000000, .ref 1, .ref 119, .int v], [], st mi ml z) Q := by
  refine ev_aload_n (i := 1) rfl rfl (a_dec_at dcl_c13 0 rfl) ?_
  refine ev_aload_n (i := 0) rfl rfl (a_dec_at dcl_c13 1 rfl) ?_
  refine ev_iload_n (i := 3) rfl rfl (a_dec_at dcl_c13 2 rfl) ?_
  refine ev_iconst (v := 1) rfl (a_dec_at dcl_c13 3 rfl) ?_
  refine ev_iadd (a_dec_at dcl_c13 4 rfl) ?_
  refine ev_scr rfl h1 (a_dec_at dcl_c13 5 rfl) ?_
  refine cV1I cs_LAW_69 sh1 rfl (Nat.le_of_ble_eq_true rfl) (Nat.le_of_ble_eq_true rfl) (a_dec_at dcl_c13 6 rfl) ?_
  refine CI.mono (fun r1 m1 l1 z1 H1 => ?_) (j_undo _ hJ)
  refine ev_aload_n (i := 2) rfl rfl (a_dec_at dcl_c13 7 rfl) ?_
  refine ev_aload_n (i := 0) rfl rfl (a_dec_at dcl_c13 8 rfl) ?_
  refine ev_iload_n (i := 3) rfl rfl (a_dec_at dcl_c13 9 rfl) ?_
  refine ev_iconst (v := 1) rfl (a_dec_at dcl_c13 10 rfl) ?_
  refine ev_iadd (a_dec_at dcl_c13 11 rfl) ?_
  refine ev_scr rfl h1 (a_dec_at dcl_c13 12 rfl) ?_
  refine cV1I cs_LAW_72 sh119 rfl (Nat.le_of_ble_eq_true rfl) (Nat.le_of_ble_eq_true rfl) (a_dec_at dcl_c13 13 rfl) ?_
  refine CI.mono (fun r2 m2 l2 z2 H2 => ?_) H1
  exact ev_icmp_eq (tgt := 1474) (a_dec_at dcl_c13 14 rfl) (by decide) (fun _ => H m2 l2 z2 H2.2) (fun b => absurd H2.1 b)
set_option maxRecDepth 20000 in
theorem lc_judge {l : Launch} {L : Nat} {xs : Nat → Int32} {mi : TMi} {ml : TMl} {z : Nat} {Q : Option Value → ASt → Prop} {v : Int32} (h1 : vp_in (v + 1) L) (h2 : vp_in (v + 2) L) (h3 : vp_in (v + 3) L) (h4 : vp_in (v + 4) L) (h5 : vp_in (v + 5) L) (hJ : JJ mi ml) (H : ∀ m2 l2 z2, JJ m2 l2 → Ev l (100 + 1) (m_LAW L xs) 1474 ([.ref 2000000, .ref 1, .ref 119, .int v], [], st m2 l2 z2) Q) : Ev l (100 + 1) (m_LAW L xs) 690 ([.ref 2000000, .ref 1, .ref 119, .int v], [], st mi ml z) Q := by
  refine ev_aload_n (i := 1) rfl rfl (a_dec_at dcl_c14 0 rfl) ?_
  refine ev_aload_n (i := 0) rfl rfl (a_dec_at dcl_c14 1 rfl) ?_
  refine ev_iload_n (i := 3) rfl rfl (a_dec_at dcl_c14 2 rfl) ?_
  refine ev_iconst (v := 1) rfl (a_dec_at dcl_c14 3 rfl) ?_
  refine ev_iadd (a_dec_at dcl_c14 4 rfl) ?_
  refine ev_scr rfl h1 (a_dec_at dcl_c14 5 rfl) ?_
  refine ev_aload_n (i := 0) rfl rfl (a_dec_at dcl_c14 6 rfl) ?_
  refine ev_iload_n (i := 3) rfl rfl (a_dec_at dcl_c14 7 rfl) ?_
  refine ev_iconst (v := 2) rfl (a_dec_at dcl_c14 8 rfl) ?_
  refine ev_iadd (a_dec_at dcl_c14 9 rfl) ?_
  refine ev_scr rfl h2 (a_dec_at dcl_c14 10 rfl) ?_
  refine cV2I cs_LAW_73 sh1 rfl (Nat.le_of_ble_eq_true rfl) (Nat.le_of_ble_eq_true rfl) (a_dec_at dcl_c14 11 rfl) ?_
  refine CI.mono (fun r1 m1 l1 z1 H1 => ?_) (j_judge _ _ hJ)
  refine ev_aload_n (i := 2) rfl rfl (a_dec_at dcl_c14 12 rfl) ?_
  refine ev_aload_n (i := 0) rfl rfl (a_dec_at dcl_c14 13 rfl) ?_
  refine ev_iload_n (i := 3) rfl rfl (a_dec_at dcl_c14 14 rfl) ?_
  refine ev_iconst (v := 1) rfl (a_dec_at dcl_c14 15 rfl) ?_
  refine ev_iadd (a_dec_at dcl_c14 16 rfl) ?_
  refine ev_scr rfl h1 (a_dec_at dcl_c14 17 rfl) ?_
  refine ev_aload_n (i := 0) rfl rfl (a_dec_at dcl_c14 18 rfl) ?_
  refine ev_iload_n (i := 3) rfl rfl (a_dec_at dcl_c14 19 rfl) ?_
  refine ev_iconst (v := 2) rfl (a_dec_at dcl_c14 20 rfl) ?_
  refine ev_iadd (a_dec_at dcl_c14 21 rfl) ?_
  refine ev_scr rfl h2 (a_dec_at dcl_c14 22 rfl) ?_
  refine cV2I cs_LAW_76 sh119 rfl (Nat.le_of_ble_eq_true rfl) (Nat.le_of_ble_eq_true rfl) (a_dec_at dcl_c14 23 rfl) ?_
  refine CI.mono (fun r2 m2 l2 z2 H2 => ?_) H1
  exact ev_icmp_eq (tgt := 1474) (a_dec_at dcl_c14 24 rfl) (by decide) (fun _ => H m2 l2 z2 H2.2) (fun b => absurd H2.1 b)
set_option maxRecDepth 20000 in
theorem lc_perform {l : Launch} {L : Nat} {xs : Nat → Int32} {mi : TMi} {ml : TMl} {z : Nat} {Q : Option Value → ASt → Prop} {v : Int32} (h1 : vp_in (v + 1) L) (h2 : vp_in (v + 2) L) (h3 : vp_in (v + 3) L) (h4 : vp_in (v + 4) L) (h5 : vp_in (v + 5) L) (hJ : JJ mi ml) (H : ∀ m2 l2 z2, JJ m2 l2 → Ev l (100 + 1) (m_LAW L xs) 1474 ([.ref 2000000, .ref 1, .ref 119, .int v], [], st m2 l2 z2) Q) : Ev l (100 + 1) (m_LAW L xs) 723 ([.ref 2000000, .ref 1, .ref 119, .int v], [], st mi ml z) Q := by
  refine ev_aload_n (i := 1) rfl rfl (a_dec_at dcl_c15 0 rfl) ?_
  refine ev_aload_n (i := 0) rfl rfl (a_dec_at dcl_c15 1 rfl) ?_
  refine ev_iload_n (i := 3) rfl rfl (a_dec_at dcl_c15 2 rfl) ?_
  refine ev_iconst (v := 1) rfl (a_dec_at dcl_c15 3 rfl) ?_
  refine ev_iadd (a_dec_at dcl_c15 4 rfl) ?_
  refine ev_scr rfl h1 (a_dec_at dcl_c15 5 rfl) ?_
  refine cV1I cs_LAW_77 sh1 rfl (Nat.le_of_ble_eq_true rfl) (Nat.le_of_ble_eq_true rfl) (a_dec_at dcl_c15 6 rfl) ?_
  refine CI.mono (fun r1 m1 l1 z1 H1 => ?_) (j_perform _ hJ)
  refine ev_aload_n (i := 2) rfl rfl (a_dec_at dcl_c15 7 rfl) ?_
  refine ev_aload_n (i := 0) rfl rfl (a_dec_at dcl_c15 8 rfl) ?_
  refine ev_iload_n (i := 3) rfl rfl (a_dec_at dcl_c15 9 rfl) ?_
  refine ev_iconst (v := 1) rfl (a_dec_at dcl_c15 10 rfl) ?_
  refine ev_iadd (a_dec_at dcl_c15 11 rfl) ?_
  refine ev_scr rfl h1 (a_dec_at dcl_c15 12 rfl) ?_
  refine cV1I cs_LAW_80 sh119 rfl (Nat.le_of_ble_eq_true rfl) (Nat.le_of_ble_eq_true rfl) (a_dec_at dcl_c15 13 rfl) ?_
  refine CI.mono (fun r2 m2 l2 z2 H2 => ?_) H1
  exact ev_icmp_eq (tgt := 1474) (a_dec_at dcl_c15 14 rfl) (by decide) (fun _ => H m2 l2 z2 H2.2) (fun b => absurd H2.1 b)
set_option maxRecDepth 20000 in
theorem lc_year {l : Launch} {L : Nat} {xs : Nat → Int32} {mi : TMi} {ml : TMl} {z : Nat} {Q : Option Value → ASt → Prop} {v : Int32} (h1 : vp_in (v + 1) L) (h2 : vp_in (v + 2) L) (h3 : vp_in (v + 3) L) (h4 : vp_in (v + 4) L) (h5 : vp_in (v + 5) L) (hJ : JJ mi ml) (H : ∀ m2 l2 z2, JJ m2 l2 → Ev l (100 + 1) (m_LAW L xs) 1474 ([.ref 2000000, .ref 1, .ref 119, .int v], [], st m2 l2 z2) Q) : Ev l (100 + 1) (m_LAW L xs) 746 ([.ref 2000000, .ref 1, .ref 119, .int v], [], st mi ml z) Q := by
  refine ev_aload_n (i := 1) rfl rfl (a_dec_at dcl_c16 0 rfl) ?_
  refine ev_aload_n (i := 0) rfl rfl (a_dec_at dcl_c16 1 rfl) ?_
  refine ev_iload_n (i := 3) rfl rfl (a_dec_at dcl_c16 2 rfl) ?_
  refine ev_iconst (v := 1) rfl (a_dec_at dcl_c16 3 rfl) ?_
  refine ev_iadd (a_dec_at dcl_c16 4 rfl) ?_
  refine ev_scr rfl h1 (a_dec_at dcl_c16 5 rfl) ?_
  refine ev_aload_n (i := 0) rfl rfl (a_dec_at dcl_c16 6 rfl) ?_
  refine ev_iload_n (i := 3) rfl rfl (a_dec_at dcl_c16 7 rfl) ?_
  refine ev_iconst (v := 2) rfl (a_dec_at dcl_c16 8 rfl) ?_
  refine ev_iadd (a_dec_at dcl_c16 9 rfl) ?_
  refine ev_scr rfl h2 (a_dec_at dcl_c16 10 rfl) ?_
  refine cV2I cs_LAW_81 sh1 rfl (Nat.le_of_ble_eq_true rfl) (Nat.le_of_ble_eq_true rfl) (a_dec_at dcl_c16 11 rfl) ?_
  refine CI.mono (fun r1 m1 l1 z1 H1 => ?_) (j_year _ _ hJ)
  refine ev_aload_n (i := 2) rfl rfl (a_dec_at dcl_c16 12 rfl) ?_
  refine ev_aload_n (i := 0) rfl rfl (a_dec_at dcl_c16 13 rfl) ?_
  refine ev_iload_n (i := 3) rfl rfl (a_dec_at dcl_c16 14 rfl) ?_
  refine ev_iconst (v := 1) rfl (a_dec_at dcl_c16 15 rfl) ?_
  refine ev_iadd (a_dec_at dcl_c16 16 rfl) ?_
  refine ev_scr rfl h1 (a_dec_at dcl_c16 17 rfl) ?_
  refine ev_aload_n (i := 0) rfl rfl (a_dec_at dcl_c16 18 rfl) ?_
  refine ev_iload_n (i := 3) rfl rfl (a_dec_at dcl_c16 19 rfl) ?_
  refine ev_iconst (v := 2) rfl (a_dec_at dcl_c16 20 rfl) ?_
  refine ev_iadd (a_dec_at dcl_c16 21 rfl) ?_
  refine ev_scr rfl h2 (a_dec_at dcl_c16 22 rfl) ?_
  refine cV2I cs_LAW_84 sh119 rfl (Nat.le_of_ble_eq_true rfl) (Nat.le_of_ble_eq_true rfl) (a_dec_at dcl_c16 23 rfl) ?_
  refine CI.mono (fun r2 m2 l2 z2 H2 => ?_) H1
  exact ev_icmp_eq (tgt := 1474) (a_dec_at dcl_c16 24 rfl) (by decide) (fun _ => H m2 l2 z2 H2.2) (fun b => absurd H2.1 b)
set_option maxRecDepth 20000 in
theorem lc_holds {l : Launch} {L : Nat} {xs : Nat → Int32} {mi : TMi} {ml : TMl} {z : Nat} {Q : Option Value → ASt → Prop} {v : Int32} (h1 : vp_in (v + 1) L) (h2 : vp_in (v + 2) L) (h3 : vp_in (v + 3) L) (h4 : vp_in (v + 4) L) (h5 : vp_in (v + 5) L) (hJ : JJ mi ml) (H : ∀ m2 l2 z2, JJ m2 l2 → Ev l (100 + 1) (m_LAW L xs) 1474 ([.ref 2000000, .ref 1, .ref 119, .int v], [], st m2 l2 z2) Q) : Ev l (100 + 1) (m_LAW L xs) 779 ([.ref 2000000, .ref 1, .ref 119, .int v], [], st mi ml z) Q := by
  refine ev_aload_n (i := 1) rfl rfl (a_dec_at dcl_c17 0 rfl) ?_
  refine cV0I cs_LAW_85 sh1 rfl (Nat.le_of_ble_eq_true rfl) (Nat.le_of_ble_eq_true rfl) (a_dec_at dcl_c17 1 rfl) ?_
  refine CI.mono (fun r1 m1 l1 z1 H1 => ?_) (j_holds hJ)
  refine ev_aload_n (i := 2) rfl rfl (a_dec_at dcl_c17 2 rfl) ?_
  refine cV0I cs_LAW_89 sh119 rfl (Nat.le_of_ble_eq_true rfl) (Nat.le_of_ble_eq_true rfl) (a_dec_at dcl_c17 3 rfl) ?_
  refine CI.mono (fun r2 m2 l2 z2 H2 => ?_) H1
  exact ev_icmp_eq (tgt := 1474) (a_dec_at dcl_c17 4 rfl) (by decide) (fun _ => H m2 l2 z2 H2.2) (fun b => absurd H2.1 b)
set_option maxRecDepth 20000 in
theorem lc_breaks {l : Launch} {L : Nat} {xs : Nat → Int32} {mi : TMi} {ml : TMl} {z : Nat} {Q : Option Value → ASt → Prop} {v : Int32} (h1 : vp_in (v + 1) L) (h2 : vp_in (v + 2) L) (h3 : vp_in (v + 3) L) (h4 : vp_in (v + 4) L) (h5 : vp_in (v + 5) L) (hJ : JJ mi ml) (H : ∀ m2 l2 z2, JJ m2 l2 → Ev l (100 + 1) (m_LAW L xs) 1474 ([.ref 2000000, .ref 1, .ref 119, .int v], [], st m2 l2 z2) Q) : Ev l (100 + 1) (m_LAW L xs) 792 ([.ref 2000000, .ref 1, .ref 119, .int v], [], st mi ml z) Q := by
  refine ev_aload_n (i := 1) rfl rfl (a_dec_at dcl_c18 0 rfl) ?_
  refine cV0I cs_LAW_90 sh1 rfl (Nat.le_of_ble_eq_true rfl) (Nat.le_of_ble_eq_true rfl) (a_dec_at dcl_c18 1 rfl) ?_
  refine CI.mono (fun r1 m1 l1 z1 H1 => ?_) (j_breaks hJ)
  refine ev_aload_n (i := 2) rfl rfl (a_dec_at dcl_c18 2 rfl) ?_
  refine cV0I cs_LAW_93 sh119 rfl (Nat.le_of_ble_eq_true rfl) (Nat.le_of_ble_eq_true rfl) (a_dec_at dcl_c18 3 rfl) ?_
  refine CI.mono (fun r2 m2 l2 z2 H2 => ?_) H1
  exact ev_icmp_eq (tgt := 1474) (a_dec_at dcl_c18 4 rfl) (by decide) (fun _ => H m2 l2 z2 H2.2) (fun b => absurd H2.1 b)
set_option maxRecDepth 20000 in
theorem lc_breaking {l : Launch} {L : Nat} {xs : Nat → Int32} {mi : TMi} {ml : TMl} {z : Nat} {Q : Option Value → ASt → Prop} {v : Int32} (h1 : vp_in (v + 1) L) (h2 : vp_in (v + 2) L) (h3 : vp_in (v + 3) L) (h4 : vp_in (v + 4) L) (h5 : vp_in (v + 5) L) (hJ : JJ mi ml) (H : ∀ m2 l2 z2, JJ m2 l2 → Ev l (100 + 1) (m_LAW L xs) 1474 ([.ref 2000000, .ref 1, .ref 119, .int v], [], st m2 l2 z2) Q) : Ev l (100 + 1) (m_LAW L xs) 805 ([.ref 2000000, .ref 1, .ref 119, .int v], [], st mi ml z) Q := by
  refine ev_aload_n (i := 1) rfl rfl (a_dec_at dcl_c19 0 rfl) ?_
  refine cV0I cs_LAW_94 sh1 rfl (Nat.le_of_ble_eq_true rfl) (Nat.le_of_ble_eq_true rfl) (a_dec_at dcl_c19 1 rfl) ?_
  refine CI.mono (fun r1 m1 l1 z1 H1 => ?_) (j_breaking hJ)
  refine ev_aload_n (i := 2) rfl rfl (a_dec_at dcl_c19 2 rfl) ?_
  refine cV0I cs_LAW_97 sh119 rfl (Nat.le_of_ble_eq_true rfl) (Nat.le_of_ble_eq_true rfl) (a_dec_at dcl_c19 3 rfl) ?_
  refine CI.mono (fun r2 m2 l2 z2 H2 => ?_) H1
  exact ev_icmp_eq (tgt := 1474) (a_dec_at dcl_c19 4 rfl) (by decide) (fun _ => H m2 l2 z2 H2.2) (fun b => absurd H2.1 b)
set_option maxRecDepth 20000 in
theorem lc_forBecks {l : Launch} {L : Nat} {xs : Nat → Int32} {mi : TMi} {ml : TMl} {z : Nat} {Q : Option Value → ASt → Prop} {v : Int32} (h1 : vp_in (v + 1) L) (h2 : vp_in (v + 2) L) (h3 : vp_in (v + 3) L) (h4 : vp_in (v + 4) L) (h5 : vp_in (v + 5) L) (hJ : JJ mi ml) (H : ∀ m2 l2 z2, JJ m2 l2 → Ev l (100 + 1) (m_LAW L xs) 1474 ([.ref 2000000, .ref 1, .ref 119, .int v], [], st m2 l2 z2) Q) : Ev l (100 + 1) (m_LAW L xs) 818 ([.ref 2000000, .ref 1, .ref 119, .int v], [], st mi ml z) Q := by
  refine ev_aload_n (i := 1) rfl rfl (a_dec_at dcl_c20 0 rfl) ?_
  refine ev_aload_n (i := 0) rfl rfl (a_dec_at dcl_c20 1 rfl) ?_
  refine ev_iload_n (i := 3) rfl rfl (a_dec_at dcl_c20 2 rfl) ?_
  refine ev_iconst (v := 1) rfl (a_dec_at dcl_c20 3 rfl) ?_
  refine ev_iadd (a_dec_at dcl_c20 4 rfl) ?_
  refine ev_scr rfl h1 (a_dec_at dcl_c20 5 rfl) ?_
  refine cV1I cs_LAW_98 sh1 rfl (Nat.le_of_ble_eq_true rfl) (Nat.le_of_ble_eq_true rfl) (a_dec_at dcl_c20 6 rfl) ?_
  refine CI.mono (fun r1 m1 l1 z1 H1 => ?_) (j_forBecks _ hJ)
  refine ev_aload_n (i := 2) rfl rfl (a_dec_at dcl_c20 7 rfl) ?_
  refine ev_aload_n (i := 0) rfl rfl (a_dec_at dcl_c20 8 rfl) ?_
  refine ev_iload_n (i := 3) rfl rfl (a_dec_at dcl_c20 9 rfl) ?_
  refine ev_iconst (v := 1) rfl (a_dec_at dcl_c20 10 rfl) ?_
  refine ev_iadd (a_dec_at dcl_c20 11 rfl) ?_
  refine ev_scr rfl h1 (a_dec_at dcl_c20 12 rfl) ?_
  refine cV1I cs_LAW_101 sh119 rfl (Nat.le_of_ble_eq_true rfl) (Nat.le_of_ble_eq_true rfl) (a_dec_at dcl_c20 13 rfl) ?_
  refine CI.mono (fun r2 m2 l2 z2 H2 => ?_) H1
  exact ev_icmp_eq (tgt := 1474) (a_dec_at dcl_c20 14 rfl) (by decide) (fun _ => H m2 l2 z2 H2.2) (fun b => absurd H2.1 b)
set_option maxRecDepth 20000 in
theorem lc_forRivers {l : Launch} {L : Nat} {xs : Nat → Int32} {mi : TMi} {ml : TMl} {z : Nat} {Q : Option Value → ASt → Prop} {v : Int32} (h1 : vp_in (v + 1) L) (h2 : vp_in (v + 2) L) (h3 : vp_in (v + 3) L) (h4 : vp_in (v + 4) L) (h5 : vp_in (v + 5) L) (hJ : JJ mi ml) (H : ∀ m2 l2 z2, JJ m2 l2 → Ev l (100 + 1) (m_LAW L xs) 1474 ([.ref 2000000, .ref 1, .ref 119, .int v], [], st m2 l2 z2) Q) : Ev l (100 + 1) (m_LAW L xs) 841 ([.ref 2000000, .ref 1, .ref 119, .int v], [], st mi ml z) Q := by
  refine ev_aload_n (i := 1) rfl rfl (a_dec_at dcl_c21 0 rfl) ?_
  refine ev_aload_n (i := 0) rfl rfl (a_dec_at dcl_c21 1 rfl) ?_
  refine ev_iload_n (i := 3) rfl rfl (a_dec_at dcl_c21 2 rfl) ?_
  refine ev_iconst (v := 1) rfl (a_dec_at dcl_c21 3 rfl) ?_
  refine ev_iadd (a_dec_at dcl_c21 4 rfl) ?_
  refine ev_scr rfl h1 (a_dec_at dcl_c21 5 rfl) ?_
  refine cV1I cs_LAW_102 sh1 rfl (Nat.le_of_ble_eq_true rfl) (Nat.le_of_ble_eq_true rfl) (a_dec_at dcl_c21 6 rfl) ?_
  refine CI.mono (fun r1 m1 l1 z1 H1 => ?_) (j_forRivers _ hJ)
  refine ev_aload_n (i := 2) rfl rfl (a_dec_at dcl_c21 7 rfl) ?_
  refine ev_aload_n (i := 0) rfl rfl (a_dec_at dcl_c21 8 rfl) ?_
  refine ev_iload_n (i := 3) rfl rfl (a_dec_at dcl_c21 9 rfl) ?_
  refine ev_iconst (v := 1) rfl (a_dec_at dcl_c21 10 rfl) ?_
  refine ev_iadd (a_dec_at dcl_c21 11 rfl) ?_
  refine ev_scr rfl h1 (a_dec_at dcl_c21 12 rfl) ?_
  refine cV1I cs_LAW_105 sh119 rfl (Nat.le_of_ble_eq_true rfl) (Nat.le_of_ble_eq_true rfl) (a_dec_at dcl_c21 13 rfl) ?_
  refine CI.mono (fun r2 m2 l2 z2 H2 => ?_) H1
  exact ev_icmp_eq (tgt := 1474) (a_dec_at dcl_c21 14 rfl) (by decide) (fun _ => H m2 l2 z2 H2.2) (fun b => absurd H2.1 b)
set_option maxRecDepth 20000 in
theorem lc_choices {l : Launch} {L : Nat} {xs : Nat → Int32} {mi : TMi} {ml : TMl} {z : Nat} {Q : Option Value → ASt → Prop} {v : Int32} (h1 : vp_in (v + 1) L) (h2 : vp_in (v + 2) L) (h3 : vp_in (v + 3) L) (h4 : vp_in (v + 4) L) (h5 : vp_in (v + 5) L) (hJ : JJ mi ml) (H : ∀ m2 l2 z2, JJ m2 l2 → Ev l (100 + 1) (m_LAW L xs) 1474 ([.ref 2000000, .ref 1, .ref 119, .int v], [], st m2 l2 z2) Q) : Ev l (100 + 1) (m_LAW L xs) 864 ([.ref 2000000, .ref 1, .ref 119, .int v], [], st mi ml z) Q := by
  refine ev_aload_n (i := 1) rfl rfl (a_dec_at dcl_c22 0 rfl) ?_
  refine cV0I cs_LAW_106 sh1 rfl (Nat.le_of_ble_eq_true rfl) (Nat.le_of_ble_eq_true rfl) (a_dec_at dcl_c22 1 rfl) ?_
  refine CI.mono (fun r1 m1 l1 z1 H1 => ?_) (j_choices hJ)
  refine ev_aload_n (i := 2) rfl rfl (a_dec_at dcl_c22 2 rfl) ?_
  refine cV0I cs_LAW_109 sh119 rfl (Nat.le_of_ble_eq_true rfl) (Nat.le_of_ble_eq_true rfl) (a_dec_at dcl_c22 3 rfl) ?_
  refine CI.mono (fun r2 m2 l2 z2 H2 => ?_) H1
  exact ev_icmp_eq (tgt := 1474) (a_dec_at dcl_c22 4 rfl) (by decide) (fun _ => H m2 l2 z2 H2.2) (fun b => absurd H2.1 b)
set_option maxRecDepth 20000 in
theorem lc_choice {l : Launch} {L : Nat} {xs : Nat → Int32} {mi : TMi} {ml : TMl} {z : Nat} {Q : Option Value → ASt → Prop} {v : Int32} (h1 : vp_in (v + 1) L) (h2 : vp_in (v + 2) L) (h3 : vp_in (v + 3) L) (h4 : vp_in (v + 4) L) (h5 : vp_in (v + 5) L) (hJ : JJ mi ml) (H : ∀ m2 l2 z2, JJ m2 l2 → Ev l (100 + 1) (m_LAW L xs) 1474 ([.ref 2000000, .ref 1, .ref 119, .int v], [], st m2 l2 z2) Q) : Ev l (100 + 1) (m_LAW L xs) 877 ([.ref 2000000, .ref 1, .ref 119, .int v], [], st mi ml z) Q := by
  refine ev_aload_n (i := 1) rfl rfl (a_dec_at dcl_c23 0 rfl) ?_
  refine ev_aload_n (i := 0) rfl rfl (a_dec_at dcl_c23 1 rfl) ?_
  refine ev_iload_n (i := 3) rfl rfl (a_dec_at dcl_c23 2 rfl) ?_
  refine ev_iconst (v := 1) rfl (a_dec_at dcl_c23 3 rfl) ?_
  refine ev_iadd (a_dec_at dcl_c23 4 rfl) ?_
  refine ev_scr rfl h1 (a_dec_at dcl_c23 5 rfl) ?_
  refine cV1I cs_LAW_110 sh1 rfl (Nat.le_of_ble_eq_true rfl) (Nat.le_of_ble_eq_true rfl) (a_dec_at dcl_c23 6 rfl) ?_
  refine CI.mono (fun r1 m1 l1 z1 H1 => ?_) (j_choice _ hJ)
  refine ev_aload_n (i := 2) rfl rfl (a_dec_at dcl_c23 7 rfl) ?_
  refine ev_aload_n (i := 0) rfl rfl (a_dec_at dcl_c23 8 rfl) ?_
  refine ev_iload_n (i := 3) rfl rfl (a_dec_at dcl_c23 9 rfl) ?_
  refine ev_iconst (v := 1) rfl (a_dec_at dcl_c23 10 rfl) ?_
  refine ev_iadd (a_dec_at dcl_c23 11 rfl) ?_
  refine ev_scr rfl h1 (a_dec_at dcl_c23 12 rfl) ?_
  refine cV1I cs_LAW_113 sh119 rfl (Nat.le_of_ble_eq_true rfl) (Nat.le_of_ble_eq_true rfl) (a_dec_at dcl_c23 13 rfl) ?_
  refine CI.mono (fun r2 m2 l2 z2 H2 => ?_) H1
  exact ev_icmp_eq (tgt := 1474) (a_dec_at dcl_c23 14 rfl) (by decide) (fun _ => H m2 l2 z2 H2.2) (fun b => absurd H2.1 b)
set_option maxRecDepth 20000 in
theorem lc_can {l : Launch} {L : Nat} {xs : Nat → Int32} {mi : TMi} {ml : TMl} {z : Nat} {Q : Option Value → ASt → Prop} {v : Int32} (h1 : vp_in (v + 1) L) (h2 : vp_in (v + 2) L) (h3 : vp_in (v + 3) L) (h4 : vp_in (v + 4) L) (h5 : vp_in (v + 5) L) (hJ : JJ mi ml) (H : ∀ m2 l2 z2, JJ m2 l2 → Ev l (100 + 1) (m_LAW L xs) 1474 ([.ref 2000000, .ref 1, .ref 119, .int v], [], st m2 l2 z2) Q) : Ev l (100 + 1) (m_LAW L xs) 900 ([.ref 2000000, .ref 1, .ref 119, .int v], [], st mi ml z) Q := by
  refine ev_aload_n (i := 1) rfl rfl (a_dec_at dcl_c24 0 rfl) ?_
  refine ev_aload_n (i := 0) rfl rfl (a_dec_at dcl_c24 1 rfl) ?_
  refine ev_iload_n (i := 3) rfl rfl (a_dec_at dcl_c24 2 rfl) ?_
  refine ev_iconst (v := 1) rfl (a_dec_at dcl_c24 3 rfl) ?_
  refine ev_iadd (a_dec_at dcl_c24 4 rfl) ?_
  refine ev_scr rfl h1 (a_dec_at dcl_c24 5 rfl) ?_
  refine cV1I cs_LAW_114 sh1 rfl (Nat.le_of_ble_eq_true rfl) (Nat.le_of_ble_eq_true rfl) (a_dec_at dcl_c24 6 rfl) ?_
  refine CI.mono (fun r1 m1 l1 z1 H1 => ?_) (j_can _ hJ)
  refine ev_aload_n (i := 2) rfl rfl (a_dec_at dcl_c24 7 rfl) ?_
  refine ev_aload_n (i := 0) rfl rfl (a_dec_at dcl_c24 8 rfl) ?_
  refine ev_iload_n (i := 3) rfl rfl (a_dec_at dcl_c24 9 rfl) ?_
  refine ev_iconst (v := 1) rfl (a_dec_at dcl_c24 10 rfl) ?_
  refine ev_iadd (a_dec_at dcl_c24 11 rfl) ?_
  refine ev_scr rfl h1 (a_dec_at dcl_c24 12 rfl) ?_
  refine cV1I cs_LAW_117 sh119 rfl (Nat.le_of_ble_eq_true rfl) (Nat.le_of_ble_eq_true rfl) (a_dec_at dcl_c24 13 rfl) ?_
  refine CI.mono (fun r2 m2 l2 z2 H2 => ?_) H1
  exact ev_icmp_eq (tgt := 1474) (a_dec_at dcl_c24 14 rfl) (by decide) (fun _ => H m2 l2 z2 H2.2) (fun b => absurd H2.1 b)
set_option maxRecDepth 20000 in
theorem lc_sure {l : Launch} {L : Nat} {xs : Nat → Int32} {mi : TMi} {ml : TMl} {z : Nat} {Q : Option Value → ASt → Prop} {v : Int32} (h1 : vp_in (v + 1) L) (h2 : vp_in (v + 2) L) (h3 : vp_in (v + 3) L) (h4 : vp_in (v + 4) L) (h5 : vp_in (v + 5) L) (hJ : JJ mi ml) (H : ∀ m2 l2 z2, JJ m2 l2 → Ev l (100 + 1) (m_LAW L xs) 1474 ([.ref 2000000, .ref 1, .ref 119, .int v], [], st m2 l2 z2) Q) : Ev l (100 + 1) (m_LAW L xs) 923 ([.ref 2000000, .ref 1, .ref 119, .int v], [], st mi ml z) Q := by
  refine ev_aload_n (i := 1) rfl rfl (a_dec_at dcl_c25 0 rfl) ?_
  refine cV0I cs_LAW_118 sh1 rfl (Nat.le_of_ble_eq_true rfl) (Nat.le_of_ble_eq_true rfl) (a_dec_at dcl_c25 1 rfl) ?_
  refine CI.mono (fun r1 m1 l1 z1 H1 => ?_) (j_sure hJ)
  refine ev_aload_n (i := 2) rfl rfl (a_dec_at dcl_c25 2 rfl) ?_
  refine cV0I cs_LAW_121 sh119 rfl (Nat.le_of_ble_eq_true rfl) (Nat.le_of_ble_eq_true rfl) (a_dec_at dcl_c25 3 rfl) ?_
  refine CI.mono (fun r2 m2 l2 z2 H2 => ?_) H1
  exact ev_icmp_eq (tgt := 1474) (a_dec_at dcl_c25 4 rfl) (by decide) (fun _ => H m2 l2 z2 H2.2) (fun b => absurd H2.1 b)
set_option maxRecDepth 20000 in
theorem lc_fairest {l : Launch} {L : Nat} {xs : Nat → Int32} {mi : TMi} {ml : TMl} {z : Nat} {Q : Option Value → ASt → Prop} {v : Int32} (h1 : vp_in (v + 1) L) (h2 : vp_in (v + 2) L) (h3 : vp_in (v + 3) L) (h4 : vp_in (v + 4) L) (h5 : vp_in (v + 5) L) (hJ : JJ mi ml) (H : ∀ m2 l2 z2, JJ m2 l2 → Ev l (100 + 1) (m_LAW L xs) 1474 ([.ref 2000000, .ref 1, .ref 119, .int v], [], st m2 l2 z2) Q) : Ev l (100 + 1) (m_LAW L xs) 936 ([.ref 2000000, .ref 1, .ref 119, .int v], [], st mi ml z) Q := by
  refine ev_aload_n (i := 1) rfl rfl (a_dec_at dcl_c26 0 rfl) ?_
  refine cV0I cs_LAW_122 sh1 rfl (Nat.le_of_ble_eq_true rfl) (Nat.le_of_ble_eq_true rfl) (a_dec_at dcl_c26 1 rfl) ?_
  refine CI.mono (fun r1 m1 l1 z1 H1 => ?_) (j_fairest hJ)
  refine ev_aload_n (i := 2) rfl rfl (a_dec_at dcl_c26 2 rfl) ?_
  refine cV0I cs_LAW_125 sh119 rfl (Nat.le_of_ble_eq_true rfl) (Nat.le_of_ble_eq_true rfl) (a_dec_at dcl_c26 3 rfl) ?_
  refine CI.mono (fun r2 m2 l2 z2 H2 => ?_) H1
  exact ev_icmp_eq (tgt := 1474) (a_dec_at dcl_c26 4 rfl) (by decide) (fun _ => H m2 l2 z2 H2.2) (fun b => absurd H2.1 b)
set_option maxRecDepth 20000 in
theorem lc_fullest {l : Launch} {L : Nat} {xs : Nat → Int32} {mi : TMi} {ml : TMl} {z : Nat} {Q : Option Value → ASt → Prop} {v : Int32} (h1 : vp_in (v + 1) L) (h2 : vp_in (v + 2) L) (h3 : vp_in (v + 3) L) (h4 : vp_in (v + 4) L) (h5 : vp_in (v + 5) L) (hJ : JJ mi ml) (H : ∀ m2 l2 z2, JJ m2 l2 → Ev l (100 + 1) (m_LAW L xs) 1474 ([.ref 2000000, .ref 1, .ref 119, .int v], [], st m2 l2 z2) Q) : Ev l (100 + 1) (m_LAW L xs) 949 ([.ref 2000000, .ref 1, .ref 119, .int v], [], st mi ml z) Q := by
  refine ev_aload_n (i := 1) rfl rfl (a_dec_at dcl_c27 0 rfl) ?_
  refine cV0I cs_LAW_126 sh1 rfl (Nat.le_of_ble_eq_true rfl) (Nat.le_of_ble_eq_true rfl) (a_dec_at dcl_c27 1 rfl) ?_
  refine CI.mono (fun r1 m1 l1 z1 H1 => ?_) (j_fullest hJ)
  refine ev_aload_n (i := 2) rfl rfl (a_dec_at dcl_c27 2 rfl) ?_
  refine cV0I cs_LAW_129 sh119 rfl (Nat.le_of_ble_eq_true rfl) (Nat.le_of_ble_eq_true rfl) (a_dec_at dcl_c27 3 rfl) ?_
  refine CI.mono (fun r2 m2 l2 z2 H2 => ?_) H1
  exact ev_icmp_eq (tgt := 1474) (a_dec_at dcl_c27 4 rfl) (by decide) (fun _ => H m2 l2 z2 H2.2) (fun b => absurd H2.1 b)
set_option maxRecDepth 20000 in
theorem lc_gains {l : Launch} {L : Nat} {xs : Nat → Int32} {mi : TMi} {ml : TMl} {z : Nat} {Q : Option Value → ASt → Prop} {v : Int32} (h1 : vp_in (v + 1) L) (h2 : vp_in (v + 2) L) (h3 : vp_in (v + 3) L) (h4 : vp_in (v + 4) L) (h5 : vp_in (v + 5) L) (hJ : JJ mi ml) (H : ∀ m2 l2 z2, JJ m2 l2 → Ev l (100 + 1) (m_LAW L xs) 1474 ([.ref 2000000, .ref 1, .ref 119, .int v], [], st m2 l2 z2) Q) : Ev l (100 + 1) (m_LAW L xs) 962 ([.ref 2000000, .ref 1, .ref 119, .int v], [], st mi ml z) Q := by
  refine ev_aload_n (i := 1) rfl rfl (a_dec_at dcl_c28 0 rfl) ?_
  refine ev_aload_n (i := 0) rfl rfl (a_dec_at dcl_c28 1 rfl) ?_
  refine ev_iload_n (i := 3) rfl rfl (a_dec_at dcl_c28 2 rfl) ?_
  refine ev_iconst (v := 1) rfl (a_dec_at dcl_c28 3 rfl) ?_
  refine ev_iadd (a_dec_at dcl_c28 4 rfl) ?_
  refine ev_scr rfl h1 (a_dec_at dcl_c28 5 rfl) ?_
  refine cV1I cs_LAW_130 sh1 rfl (Nat.le_of_ble_eq_true rfl) (Nat.le_of_ble_eq_true rfl) (a_dec_at dcl_c28 6 rfl) ?_
  refine CI.mono (fun r1 m1 l1 z1 H1 => ?_) (j_gains _ hJ)
  refine ev_aload_n (i := 2) rfl rfl (a_dec_at dcl_c28 7 rfl) ?_
  refine ev_aload_n (i := 0) rfl rfl (a_dec_at dcl_c28 8 rfl) ?_
  refine ev_iload_n (i := 3) rfl rfl (a_dec_at dcl_c28 9 rfl) ?_
  refine ev_iconst (v := 1) rfl (a_dec_at dcl_c28 10 rfl) ?_
  refine ev_iadd (a_dec_at dcl_c28 11 rfl) ?_
  refine ev_scr rfl h1 (a_dec_at dcl_c28 12 rfl) ?_
  refine cV1I cs_LAW_133 sh119 rfl (Nat.le_of_ble_eq_true rfl) (Nat.le_of_ble_eq_true rfl) (a_dec_at dcl_c28 13 rfl) ?_
  refine CI.mono (fun r2 m2 l2 z2 H2 => ?_) H1
  exact ev_icmp_eq (tgt := 1474) (a_dec_at dcl_c28 14 rfl) (by decide) (fun _ => H m2 l2 z2 H2.2) (fun b => absurd H2.1 b)
set_option maxRecDepth 20000 in
theorem lc_lie {l : Launch} {L : Nat} {xs : Nat → Int32} {mi : TMi} {ml : TMl} {z : Nat} {Q : Option Value → ASt → Prop} {v : Int32} (h1 : vp_in (v + 1) L) (h2 : vp_in (v + 2) L) (h3 : vp_in (v + 3) L) (h4 : vp_in (v + 4) L) (h5 : vp_in (v + 5) L) (hJ : JJ mi ml) (H : ∀ m2 l2 z2, JJ m2 l2 → Ev l (100 + 1) (m_LAW L xs) 1474 ([.ref 2000000, .ref 1, .ref 119, .int v], [], st m2 l2 z2) Q) : Ev l (100 + 1) (m_LAW L xs) 985 ([.ref 2000000, .ref 1, .ref 119, .int v], [], st mi ml z) Q := by
  refine ev_aload_n (i := 1) rfl rfl (a_dec_at dcl_c29 0 rfl) ?_
  refine ev_aload_n (i := 0) rfl rfl (a_dec_at dcl_c29 1 rfl) ?_
  refine ev_iload_n (i := 3) rfl rfl (a_dec_at dcl_c29 2 rfl) ?_
  refine ev_iconst (v := 1) rfl (a_dec_at dcl_c29 3 rfl) ?_
  refine ev_iadd (a_dec_at dcl_c29 4 rfl) ?_
  refine ev_scr rfl h1 (a_dec_at dcl_c29 5 rfl) ?_
  refine cV1I cs_LAW_134 sh1 rfl (Nat.le_of_ble_eq_true rfl) (Nat.le_of_ble_eq_true rfl) (a_dec_at dcl_c29 6 rfl) ?_
  refine CI.mono (fun r1 m1 l1 z1 H1 => ?_) (j_lie _ hJ)
  refine ev_aload_n (i := 2) rfl rfl (a_dec_at dcl_c29 7 rfl) ?_
  refine ev_aload_n (i := 0) rfl rfl (a_dec_at dcl_c29 8 rfl) ?_
  refine ev_iload_n (i := 3) rfl rfl (a_dec_at dcl_c29 9 rfl) ?_
  refine ev_iconst (v := 1) rfl (a_dec_at dcl_c29 10 rfl) ?_
  refine ev_iadd (a_dec_at dcl_c29 11 rfl) ?_
  refine ev_scr rfl h1 (a_dec_at dcl_c29 12 rfl) ?_
  refine cV1I cs_LAW_137 sh119 rfl (Nat.le_of_ble_eq_true rfl) (Nat.le_of_ble_eq_true rfl) (a_dec_at dcl_c29 13 rfl) ?_
  refine CI.mono (fun r2 m2 l2 z2 H2 => ?_) H1
  exact ev_icmp_eq (tgt := 1474) (a_dec_at dcl_c29 14 rfl) (by decide) (fun _ => H m2 l2 z2 H2.2) (fun b => absurd H2.1 b)
set_option maxRecDepth 20000 in
theorem lc_liars {l : Launch} {L : Nat} {xs : Nat → Int32} {mi : TMi} {ml : TMl} {z : Nat} {Q : Option Value → ASt → Prop} {v : Int32} (h1 : vp_in (v + 1) L) (h2 : vp_in (v + 2) L) (h3 : vp_in (v + 3) L) (h4 : vp_in (v + 4) L) (h5 : vp_in (v + 5) L) (hJ : JJ mi ml) (H : ∀ m2 l2 z2, JJ m2 l2 → Ev l (100 + 1) (m_LAW L xs) 1474 ([.ref 2000000, .ref 1, .ref 119, .int v], [], st m2 l2 z2) Q) : Ev l (100 + 1) (m_LAW L xs) 1008 ([.ref 2000000, .ref 1, .ref 119, .int v], [], st mi ml z) Q := by
  refine ev_aload_n (i := 1) rfl rfl (a_dec_at dcl_c30 0 rfl) ?_
  refine cV0I cs_LAW_138 sh1 rfl (Nat.le_of_ble_eq_true rfl) (Nat.le_of_ble_eq_true rfl) (a_dec_at dcl_c30 1 rfl) ?_
  refine CI.mono (fun r1 m1 l1 z1 H1 => ?_) (j_liars hJ)
  refine ev_aload_n (i := 2) rfl rfl (a_dec_at dcl_c30 2 rfl) ?_
  refine cV0I cs_LAW_141 sh119 rfl (Nat.le_of_ble_eq_true rfl) (Nat.le_of_ble_eq_true rfl) (a_dec_at dcl_c30 3 rfl) ?_
  refine CI.mono (fun r2 m2 l2 z2 H2 => ?_) H1
  exact ev_icmp_eq (tgt := 1474) (a_dec_at dcl_c30 4 rfl) (by decide) (fun _ => H m2 l2 z2 H2.2) (fun b => absurd H2.1 b)
set_option maxRecDepth 20000 in
theorem lc_woos {l : Launch} {L : Nat} {xs : Nat → Int32} {mi : TMi} {ml : TMl} {z : Nat} {Q : Option Value → ASt → Prop} {v : Int32} (h1 : vp_in (v + 1) L) (h2 : vp_in (v + 2) L) (h3 : vp_in (v + 3) L) (h4 : vp_in (v + 4) L) (h5 : vp_in (v + 5) L) (hJ : JJ mi ml) (H : ∀ m2 l2 z2, JJ m2 l2 → Ev l (100 + 1) (m_LAW L xs) 1474 ([.ref 2000000, .ref 1, .ref 119, .int v], [], st m2 l2 z2) Q) : Ev l (100 + 1) (m_LAW L xs) 1021 ([.ref 2000000, .ref 1, .ref 119, .int v], [], st mi ml z) Q := by
  refine ev_aload_n (i := 1) rfl rfl (a_dec_at dcl_c31 0 rfl) ?_
  refine ev_aload_n (i := 0) rfl rfl (a_dec_at dcl_c31 1 rfl) ?_
  refine ev_iload_n (i := 3) rfl rfl (a_dec_at dcl_c31 2 rfl) ?_
  refine ev_iconst (v := 1) rfl (a_dec_at dcl_c31 3 rfl) ?_
  refine ev_iadd (a_dec_at dcl_c31 4 rfl) ?_
  refine ev_scr rfl h1 (a_dec_at dcl_c31 5 rfl) ?_
  refine ev_aload_n (i := 0) rfl rfl (a_dec_at dcl_c31 6 rfl) ?_
  refine ev_iload_n (i := 3) rfl rfl (a_dec_at dcl_c31 7 rfl) ?_
  refine ev_iconst (v := 2) rfl (a_dec_at dcl_c31 8 rfl) ?_
  refine ev_iadd (a_dec_at dcl_c31 9 rfl) ?_
  refine ev_scr rfl h2 (a_dec_at dcl_c31 10 rfl) ?_
  refine ev_aload_n (i := 0) rfl rfl (a_dec_at dcl_c31 11 rfl) ?_
  refine ev_iload_n (i := 3) rfl rfl (a_dec_at dcl_c31 12 rfl) ?_
  refine ev_iconst (v := 3) rfl (a_dec_at dcl_c31 13 rfl) ?_
  refine ev_iadd (a_dec_at dcl_c31 14 rfl) ?_
  refine ev_scr rfl h3 (a_dec_at dcl_c31 15 rfl) ?_
  refine cV3I cs_LAW_142 sh1 rfl (Nat.le_of_ble_eq_true rfl) (Nat.le_of_ble_eq_true rfl) (a_dec_at dcl_c31 16 rfl) ?_
  refine CI.mono (fun r1 m1 l1 z1 H1 => ?_) (j_woos _ _ _ hJ)
  refine ev_aload_n (i := 2) rfl rfl (a_dec_at dcl_c31 17 rfl) ?_
  refine ev_aload_n (i := 0) rfl rfl (a_dec_at dcl_c31 18 rfl) ?_
  refine ev_iload_n (i := 3) rfl rfl (a_dec_at dcl_c31 19 rfl) ?_
  refine ev_iconst (v := 1) rfl (a_dec_at dcl_c31 20 rfl) ?_
  refine ev_iadd (a_dec_at dcl_c31 21 rfl) ?_
  refine ev_scr rfl h1 (a_dec_at dcl_c31 22 rfl) ?_
  refine ev_aload_n (i := 0) rfl rfl (a_dec_at dcl_c31 23 rfl) ?_
  refine ev_iload_n (i := 3) rfl rfl (a_dec_at dcl_c31 24 rfl) ?_
  refine ev_iconst (v := 2) rfl (a_dec_at dcl_c31 25 rfl) ?_
  refine ev_iadd (a_dec_at dcl_c31 26 rfl) ?_
  refine ev_scr rfl h2 (a_dec_at dcl_c31 27 rfl) ?_
  refine ev_aload_n (i := 0) rfl rfl (a_dec_at dcl_c31 28 rfl) ?_
  refine ev_iload_n (i := 3) rfl rfl (a_dec_at dcl_c31 29 rfl) ?_
  refine ev_iconst (v := 3) rfl (a_dec_at dcl_c31 30 rfl) ?_
  refine ev_iadd (a_dec_at dcl_c31 31 rfl) ?_
  refine ev_scr rfl h3 (a_dec_at dcl_c31 32 rfl) ?_
  refine cV3I cs_LAW_145 sh119 rfl (Nat.le_of_ble_eq_true rfl) (Nat.le_of_ble_eq_true rfl) (a_dec_at dcl_c31 33 rfl) ?_
  refine CI.mono (fun r2 m2 l2 z2 H2 => ?_) H1
  exact ev_icmp_eq (tgt := 1474) (a_dec_at dcl_c31 34 rfl) (by decide) (fun _ => H m2 l2 z2 H2.2) (fun b => absurd H2.1 b)
set_option maxRecDepth 20000 in
theorem lc_floods {l : Launch} {L : Nat} {xs : Nat → Int32} {mi : TMi} {ml : TMl} {z : Nat} {Q : Option Value → ASt → Prop} {v : Int32} (h1 : vp_in (v + 1) L) (h2 : vp_in (v + 2) L) (h3 : vp_in (v + 3) L) (h4 : vp_in (v + 4) L) (h5 : vp_in (v + 5) L) (hJ : JJ mi ml) (H : ∀ m2 l2 z2, JJ m2 l2 → Ev l (100 + 1) (m_LAW L xs) 1474 ([.ref 2000000, .ref 1, .ref 119, .int v], [], st m2 l2 z2) Q) : Ev l (100 + 1) (m_LAW L xs) 1064 ([.ref 2000000, .ref 1, .ref 119, .int v], [], st mi ml z) Q := by
  refine ev_aload_n (i := 1) rfl rfl (a_dec_at dcl_c32 0 rfl) ?_
  refine cV0I cs_LAW_146 sh1 rfl (Nat.le_of_ble_eq_true rfl) (Nat.le_of_ble_eq_true rfl) (a_dec_at dcl_c32 1 rfl) ?_
  refine CI.mono (fun r1 m1 l1 z1 H1 => ?_) (j_floods hJ)
  refine ev_aload_n (i := 2) rfl rfl (a_dec_at dcl_c32 2 rfl) ?_
  refine cV0I cs_LAW_149 sh119 rfl (Nat.le_of_ble_eq_true rfl) (Nat.le_of_ble_eq_true rfl) (a_dec_at dcl_c32 3 rfl) ?_
  refine CI.mono (fun r2 m2 l2 z2 H2 => ?_) H1
  exact ev_icmp_eq (tgt := 1474) (a_dec_at dcl_c32 4 rfl) (by decide) (fun _ => H m2 l2 z2 H2.2) (fun b => absurd H2.1 b)
set_option maxRecDepth 20000 in
theorem lc_turnOff {l : Launch} {L : Nat} {xs : Nat → Int32} {mi : TMi} {ml : TMl} {z : Nat} {Q : Option Value → ASt → Prop} {v : Int32} (h1 : vp_in (v + 1) L) (h2 : vp_in (v + 2) L) (h3 : vp_in (v + 3) L) (h4 : vp_in (v + 4) L) (h5 : vp_in (v + 5) L) (hJ : JJ mi ml) (H : ∀ m2 l2 z2, JJ m2 l2 → Ev l (100 + 1) (m_LAW L xs) 1474 ([.ref 2000000, .ref 1, .ref 119, .int v], [], st m2 l2 z2) Q) : Ev l (100 + 1) (m_LAW L xs) 1077 ([.ref 2000000, .ref 1, .ref 119, .int v], [], st mi ml z) Q := by
  refine ev_aload_n (i := 1) rfl rfl (a_dec_at dcl_c33 0 rfl) ?_
  refine ev_aload_n (i := 0) rfl rfl (a_dec_at dcl_c33 1 rfl) ?_
  refine ev_iload_n (i := 3) rfl rfl (a_dec_at dcl_c33 2 rfl) ?_
  refine ev_iconst (v := 1) rfl (a_dec_at dcl_c33 3 rfl) ?_
  refine ev_iadd (a_dec_at dcl_c33 4 rfl) ?_
  refine ev_scr rfl h1 (a_dec_at dcl_c33 5 rfl) ?_
  refine cV1I cs_LAW_150 sh1 rfl (Nat.le_of_ble_eq_true rfl) (Nat.le_of_ble_eq_true rfl) (a_dec_at dcl_c33 6 rfl) ?_
  refine CI.mono (fun r1 m1 l1 z1 H1 => ?_) (j_turnOff _ hJ)
  refine ev_aload_n (i := 2) rfl rfl (a_dec_at dcl_c33 7 rfl) ?_
  refine ev_aload_n (i := 0) rfl rfl (a_dec_at dcl_c33 8 rfl) ?_
  refine ev_iload_n (i := 3) rfl rfl (a_dec_at dcl_c33 9 rfl) ?_
  refine ev_iconst (v := 1) rfl (a_dec_at dcl_c33 10 rfl) ?_
  refine ev_iadd (a_dec_at dcl_c33 11 rfl) ?_
  refine ev_scr rfl h1 (a_dec_at dcl_c33 12 rfl) ?_
  refine cV1I cs_LAW_153 sh119 rfl (Nat.le_of_ble_eq_true rfl) (Nat.le_of_ble_eq_true rfl) (a_dec_at dcl_c33 13 rfl) ?_
  refine CI.mono (fun r2 m2 l2 z2 H2 => ?_) H1
  exact ev_icmp_eq (tgt := 1474) (a_dec_at dcl_c33 14 rfl) (by decide) (fun _ => H m2 l2 z2 H2.2) (fun b => absurd H2.1 b)
set_option maxRecDepth 20000 in
theorem lc_bearing {l : Launch} {L : Nat} {xs : Nat → Int32} {mi : TMi} {ml : TMl} {z : Nat} {Q : Option Value → ASt → Prop} {v : Int32} (h1 : vp_in (v + 1) L) (h2 : vp_in (v + 2) L) (h3 : vp_in (v + 3) L) (h4 : vp_in (v + 4) L) (h5 : vp_in (v + 5) L) (hJ : JJ mi ml) (H : ∀ m2 l2 z2, JJ m2 l2 → Ev l (100 + 1) (m_LAW L xs) 1474 ([.ref 2000000, .ref 1, .ref 119, .int v], [], st m2 l2 z2) Q) : Ev l (100 + 1) (m_LAW L xs) 1100 ([.ref 2000000, .ref 1, .ref 119, .int v], [], st mi ml z) Q := by
  refine ev_aload_n (i := 1) rfl rfl (a_dec_at dcl_c34 0 rfl) ?_
  refine ev_aload_n (i := 0) rfl rfl (a_dec_at dcl_c34 1 rfl) ?_
  refine ev_iload_n (i := 3) rfl rfl (a_dec_at dcl_c34 2 rfl) ?_
  refine ev_iconst (v := 1) rfl (a_dec_at dcl_c34 3 rfl) ?_
  refine ev_iadd (a_dec_at dcl_c34 4 rfl) ?_
  refine ev_scr rfl h1 (a_dec_at dcl_c34 5 rfl) ?_
  refine cV1I cs_LAW_154 sh1 rfl (Nat.le_of_ble_eq_true rfl) (Nat.le_of_ble_eq_true rfl) (a_dec_at dcl_c34 6 rfl) ?_
  refine CI.mono (fun r1 m1 l1 z1 H1 => ?_) (j_bearing _ hJ)
  refine ev_aload_n (i := 2) rfl rfl (a_dec_at dcl_c34 7 rfl) ?_
  refine ev_aload_n (i := 0) rfl rfl (a_dec_at dcl_c34 8 rfl) ?_
  refine ev_iload_n (i := 3) rfl rfl (a_dec_at dcl_c34 9 rfl) ?_
  refine ev_iconst (v := 1) rfl (a_dec_at dcl_c34 10 rfl) ?_
  refine ev_iadd (a_dec_at dcl_c34 11 rfl) ?_
  refine ev_scr rfl h1 (a_dec_at dcl_c34 12 rfl) ?_
  refine cV1I cs_LAW_157 sh119 rfl (Nat.le_of_ble_eq_true rfl) (Nat.le_of_ble_eq_true rfl) (a_dec_at dcl_c34 13 rfl) ?_
  refine CI.mono (fun r2 m2 l2 z2 H2 => ?_) H1
  exact ev_icmp_eq (tgt := 1474) (a_dec_at dcl_c34 14 rfl) (by decide) (fun _ => H m2 l2 z2 H2.2) (fun b => absurd H2.1 b)
set_option maxRecDepth 20000 in
theorem lc_marks {l : Launch} {L : Nat} {xs : Nat → Int32} {mi : TMi} {ml : TMl} {z : Nat} {Q : Option Value → ASt → Prop} {v : Int32} (h1 : vp_in (v + 1) L) (h2 : vp_in (v + 2) L) (h3 : vp_in (v + 3) L) (h4 : vp_in (v + 4) L) (h5 : vp_in (v + 5) L) (hJ : JJ mi ml) (H : ∀ m2 l2 z2, JJ m2 l2 → Ev l (100 + 1) (m_LAW L xs) 1474 ([.ref 2000000, .ref 1, .ref 119, .int v], [], st m2 l2 z2) Q) : Ev l (100 + 1) (m_LAW L xs) 1123 ([.ref 2000000, .ref 1, .ref 119, .int v], [], st mi ml z) Q := by
  refine ev_aload_n (i := 1) rfl rfl (a_dec_at dcl_c35 0 rfl) ?_
  refine ev_aload_n (i := 0) rfl rfl (a_dec_at dcl_c35 1 rfl) ?_
  refine ev_iload_n (i := 3) rfl rfl (a_dec_at dcl_c35 2 rfl) ?_
  refine ev_iconst (v := 1) rfl (a_dec_at dcl_c35 3 rfl) ?_
  refine ev_iadd (a_dec_at dcl_c35 4 rfl) ?_
  refine ev_scr rfl h1 (a_dec_at dcl_c35 5 rfl) ?_
  refine ev_aload_n (i := 0) rfl rfl (a_dec_at dcl_c35 6 rfl) ?_
  refine ev_iload_n (i := 3) rfl rfl (a_dec_at dcl_c35 7 rfl) ?_
  refine ev_iconst (v := 2) rfl (a_dec_at dcl_c35 8 rfl) ?_
  refine ev_iadd (a_dec_at dcl_c35 9 rfl) ?_
  refine ev_scr rfl h2 (a_dec_at dcl_c35 10 rfl) ?_
  refine cV2I cs_LAW_158 sh1 rfl (Nat.le_of_ble_eq_true rfl) (Nat.le_of_ble_eq_true rfl) (a_dec_at dcl_c35 11 rfl) ?_
  refine CI.mono (fun r1 m1 l1 z1 H1 => ?_) (j_marks _ _ hJ)
  refine ev_aload_n (i := 2) rfl rfl (a_dec_at dcl_c35 12 rfl) ?_
  refine ev_aload_n (i := 0) rfl rfl (a_dec_at dcl_c35 13 rfl) ?_
  refine ev_iload_n (i := 3) rfl rfl (a_dec_at dcl_c35 14 rfl) ?_
  refine ev_iconst (v := 1) rfl (a_dec_at dcl_c35 15 rfl) ?_
  refine ev_iadd (a_dec_at dcl_c35 16 rfl) ?_
  refine ev_scr rfl h1 (a_dec_at dcl_c35 17 rfl) ?_
  refine ev_aload_n (i := 0) rfl rfl (a_dec_at dcl_c35 18 rfl) ?_
  refine ev_iload_n (i := 3) rfl rfl (a_dec_at dcl_c35 19 rfl) ?_
  refine ev_iconst (v := 2) rfl (a_dec_at dcl_c35 20 rfl) ?_
  refine ev_iadd (a_dec_at dcl_c35 21 rfl) ?_
  refine ev_scr rfl h2 (a_dec_at dcl_c35 22 rfl) ?_
  refine cV2I cs_LAW_161 sh119 rfl (Nat.le_of_ble_eq_true rfl) (Nat.le_of_ble_eq_true rfl) (a_dec_at dcl_c35 23 rfl) ?_
  refine CI.mono (fun r2 m2 l2 z2 H2 => ?_) H1
  exact ev_icmp_eq (tgt := 1474) (a_dec_at dcl_c35 24 rfl) (by decide) (fun _ => H m2 l2 z2 H2.2) (fun b => absurd H2.1 b)
set_option maxRecDepth 20000 in
theorem lc_ask {l : Launch} {L : Nat} {xs : Nat → Int32} {mi : TMi} {ml : TMl} {z : Nat} {Q : Option Value → ASt → Prop} {v : Int32} (h1 : vp_in (v + 1) L) (h2 : vp_in (v + 2) L) (h3 : vp_in (v + 3) L) (h4 : vp_in (v + 4) L) (h5 : vp_in (v + 5) L) (hJ : JJ mi ml) (H : ∀ m2 l2 z2, JJ m2 l2 → Ev l (100 + 1) (m_LAW L xs) 1474 ([.ref 2000000, .ref 1, .ref 119, .int v], [], st m2 l2 z2) Q) : Ev l (100 + 1) (m_LAW L xs) 1156 ([.ref 2000000, .ref 1, .ref 119, .int v], [], st mi ml z) Q := by
  refine ev_aload_n (i := 1) rfl rfl (a_dec_at dcl_c36 0 rfl) ?_
  refine ev_aload_n (i := 0) rfl rfl (a_dec_at dcl_c36 1 rfl) ?_
  refine ev_iload_n (i := 3) rfl rfl (a_dec_at dcl_c36 2 rfl) ?_
  refine ev_iconst (v := 1) rfl (a_dec_at dcl_c36 3 rfl) ?_
  refine ev_iadd (a_dec_at dcl_c36 4 rfl) ?_
  refine ev_scr rfl h1 (a_dec_at dcl_c36 5 rfl) ?_
  refine ev_aload_n (i := 0) rfl rfl (a_dec_at dcl_c36 6 rfl) ?_
  refine ev_iload_n (i := 3) rfl rfl (a_dec_at dcl_c36 7 rfl) ?_
  refine ev_iconst (v := 2) rfl (a_dec_at dcl_c36 8 rfl) ?_
  refine ev_iadd (a_dec_at dcl_c36 9 rfl) ?_
  refine ev_scr rfl h2 (a_dec_at dcl_c36 10 rfl) ?_
  refine cV2I cs_LAW_162 sh1 rfl (Nat.le_of_ble_eq_true rfl) (Nat.le_of_ble_eq_true rfl) (a_dec_at dcl_c36 11 rfl) ?_
  refine CI.mono (fun r1 m1 l1 z1 H1 => ?_) (j_ask _ _ hJ)
  refine ev_aload_n (i := 2) rfl rfl (a_dec_at dcl_c36 12 rfl) ?_
  refine ev_aload_n (i := 0) rfl rfl (a_dec_at dcl_c36 13 rfl) ?_
  refine ev_iload_n (i := 3) rfl rfl (a_dec_at dcl_c36 14 rfl) ?_
  refine ev_iconst (v := 1) rfl (a_dec_at dcl_c36 15 rfl) ?_
  refine ev_iadd (a_dec_at dcl_c36 16 rfl) ?_
  refine ev_scr rfl h1 (a_dec_at dcl_c36 17 rfl) ?_
  refine ev_aload_n (i := 0) rfl rfl (a_dec_at dcl_c36 18 rfl) ?_
  refine ev_iload_n (i := 3) rfl rfl (a_dec_at dcl_c36 19 rfl) ?_
  refine ev_iconst (v := 2) rfl (a_dec_at dcl_c36 20 rfl) ?_
  refine ev_iadd (a_dec_at dcl_c36 21 rfl) ?_
  refine ev_scr rfl h2 (a_dec_at dcl_c36 22 rfl) ?_
  refine cV2I cs_LAW_165 sh119 rfl (Nat.le_of_ble_eq_true rfl) (Nat.le_of_ble_eq_true rfl) (a_dec_at dcl_c36 23 rfl) ?_
  refine CI.mono (fun r2 m2 l2 z2 H2 => ?_) H1
  exact ev_icmp_eq (tgt := 1474) (a_dec_at dcl_c36 24 rfl) (by decide) (fun _ => H m2 l2 z2 H2.2) (fun b => absurd H2.1 b)
set_option maxRecDepth 20000 in
theorem lc_flooding {l : Launch} {L : Nat} {xs : Nat → Int32} {mi : TMi} {ml : TMl} {z : Nat} {Q : Option Value → ASt → Prop} {v : Int32} (h1 : vp_in (v + 1) L) (h2 : vp_in (v + 2) L) (h3 : vp_in (v + 3) L) (h4 : vp_in (v + 4) L) (h5 : vp_in (v + 5) L) (hJ : JJ mi ml) (H : ∀ m2 l2 z2, JJ m2 l2 → Ev l (100 + 1) (m_LAW L xs) 1474 ([.ref 2000000, .ref 1, .ref 119, .int v], [], st m2 l2 z2) Q) : Ev l (100 + 1) (m_LAW L xs) 1189 ([.ref 2000000, .ref 1, .ref 119, .int v], [], st mi ml z) Q := by
  refine ev_aload_n (i := 1) rfl rfl (a_dec_at dcl_c37 0 rfl) ?_
  refine ev_aload_n (i := 0) rfl rfl (a_dec_at dcl_c37 1 rfl) ?_
  refine ev_iload_n (i := 3) rfl rfl (a_dec_at dcl_c37 2 rfl) ?_
  refine ev_iconst (v := 1) rfl (a_dec_at dcl_c37 3 rfl) ?_
  refine ev_iadd (a_dec_at dcl_c37 4 rfl) ?_
  refine ev_scr rfl h1 (a_dec_at dcl_c37 5 rfl) ?_
  refine ev_aload_n (i := 0) rfl rfl (a_dec_at dcl_c37 6 rfl) ?_
  refine ev_iload_n (i := 3) rfl rfl (a_dec_at dcl_c37 7 rfl) ?_
  refine ev_iconst (v := 2) rfl (a_dec_at dcl_c37 8 rfl) ?_
  refine ev_iadd (a_dec_at dcl_c37 9 rfl) ?_
  refine ev_scr rfl h2 (a_dec_at dcl_c37 10 rfl) ?_
  refine cV2I cs_LAW_166 sh1 rfl (Nat.le_of_ble_eq_true rfl) (Nat.le_of_ble_eq_true rfl) (a_dec_at dcl_c37 11 rfl) ?_
  refine CI.mono (fun r1 m1 l1 z1 H1 => ?_) (j_flooding _ _ hJ)
  refine ev_aload_n (i := 2) rfl rfl (a_dec_at dcl_c37 12 rfl) ?_
  refine ev_aload_n (i := 0) rfl rfl (a_dec_at dcl_c37 13 rfl) ?_
  refine ev_iload_n (i := 3) rfl rfl (a_dec_at dcl_c37 14 rfl) ?_
  refine ev_iconst (v := 1) rfl (a_dec_at dcl_c37 15 rfl) ?_
  refine ev_iadd (a_dec_at dcl_c37 16 rfl) ?_
  refine ev_scr rfl h1 (a_dec_at dcl_c37 17 rfl) ?_
  refine ev_aload_n (i := 0) rfl rfl (a_dec_at dcl_c37 18 rfl) ?_
  refine ev_iload_n (i := 3) rfl rfl (a_dec_at dcl_c37 19 rfl) ?_
  refine ev_iconst (v := 2) rfl (a_dec_at dcl_c37 20 rfl) ?_
  refine ev_iadd (a_dec_at dcl_c37 21 rfl) ?_
  refine ev_scr rfl h2 (a_dec_at dcl_c37 22 rfl) ?_
  refine cV2I cs_LAW_169 sh119 rfl (Nat.le_of_ble_eq_true rfl) (Nat.le_of_ble_eq_true rfl) (a_dec_at dcl_c37 23 rfl) ?_
  refine CI.mono (fun r2 m2 l2 z2 H2 => ?_) H1
  exact ev_icmp_eq (tgt := 1474) (a_dec_at dcl_c37 24 rfl) (by decide) (fun _ => H m2 l2 z2 H2.2) (fun b => absurd H2.1 b)
set_option maxRecDepth 20000 in
theorem lc_staying {l : Launch} {L : Nat} {xs : Nat → Int32} {mi : TMi} {ml : TMl} {z : Nat} {Q : Option Value → ASt → Prop} {v : Int32} (h1 : vp_in (v + 1) L) (h2 : vp_in (v + 2) L) (h3 : vp_in (v + 3) L) (h4 : vp_in (v + 4) L) (h5 : vp_in (v + 5) L) (hJ : JJ mi ml) (H : ∀ m2 l2 z2, JJ m2 l2 → Ev l (100 + 1) (m_LAW L xs) 1474 ([.ref 2000000, .ref 1, .ref 119, .int v], [], st m2 l2 z2) Q) : Ev l (100 + 1) (m_LAW L xs) 1222 ([.ref 2000000, .ref 1, .ref 119, .int v], [], st mi ml z) Q := by
  refine ev_aload_n (i := 1) rfl rfl (a_dec_at dcl_c38 0 rfl) ?_
  refine ev_aload_n (i := 0) rfl rfl (a_dec_at dcl_c38 1 rfl) ?_
  refine ev_iload_n (i := 3) rfl rfl (a_dec_at dcl_c38 2 rfl) ?_
  refine ev_iconst (v := 1) rfl (a_dec_at dcl_c38 3 rfl) ?_
  refine ev_iadd (a_dec_at dcl_c38 4 rfl) ?_
  refine ev_scr rfl h1 (a_dec_at dcl_c38 5 rfl) ?_
  refine ev_aload_n (i := 0) rfl rfl (a_dec_at dcl_c38 6 rfl) ?_
  refine ev_iload_n (i := 3) rfl rfl (a_dec_at dcl_c38 7 rfl) ?_
  refine ev_iconst (v := 2) rfl (a_dec_at dcl_c38 8 rfl) ?_
  refine ev_iadd (a_dec_at dcl_c38 9 rfl) ?_
  refine ev_scr rfl h2 (a_dec_at dcl_c38 10 rfl) ?_
  refine cV2I cs_LAW_170 sh1 rfl (Nat.le_of_ble_eq_true rfl) (Nat.le_of_ble_eq_true rfl) (a_dec_at dcl_c38 11 rfl) ?_
  refine CI.mono (fun r1 m1 l1 z1 H1 => ?_) (j_staying _ _ hJ)
  refine ev_aload_n (i := 2) rfl rfl (a_dec_at dcl_c38 12 rfl) ?_
  refine ev_aload_n (i := 0) rfl rfl (a_dec_at dcl_c38 13 rfl) ?_
  refine ev_iload_n (i := 3) rfl rfl (a_dec_at dcl_c38 14 rfl) ?_
  refine ev_iconst (v := 1) rfl (a_dec_at dcl_c38 15 rfl) ?_
  refine ev_iadd (a_dec_at dcl_c38 16 rfl) ?_
  refine ev_scr rfl h1 (a_dec_at dcl_c38 17 rfl) ?_
  refine ev_aload_n (i := 0) rfl rfl (a_dec_at dcl_c38 18 rfl) ?_
  refine ev_iload_n (i := 3) rfl rfl (a_dec_at dcl_c38 19 rfl) ?_
  refine ev_iconst (v := 2) rfl (a_dec_at dcl_c38 20 rfl) ?_
  refine ev_iadd (a_dec_at dcl_c38 21 rfl) ?_
  refine ev_scr rfl h2 (a_dec_at dcl_c38 22 rfl) ?_
  refine cV2I cs_LAW_173 sh119 rfl (Nat.le_of_ble_eq_true rfl) (Nat.le_of_ble_eq_true rfl) (a_dec_at dcl_c38 23 rfl) ?_
  refine CI.mono (fun r2 m2 l2 z2 H2 => ?_) H1
  exact ev_icmp_eq (tgt := 1474) (a_dec_at dcl_c38 24 rfl) (by decide) (fun _ => H m2 l2 z2 H2.2) (fun b => absurd H2.1 b)
set_option maxRecDepth 20000 in
theorem lc_numbers {l : Launch} {L : Nat} {xs : Nat → Int32} {mi : TMi} {ml : TMl} {z : Nat} {Q : Option Value → ASt → Prop} {v : Int32} (h1 : vp_in (v + 1) L) (h2 : vp_in (v + 2) L) (h3 : vp_in (v + 3) L) (h4 : vp_in (v + 4) L) (h5 : vp_in (v + 5) L) (hJ : JJ mi ml) (H : ∀ m2 l2 z2, JJ m2 l2 → Ev l (100 + 1) (m_LAW L xs) 1474 ([.ref 2000000, .ref 1, .ref 119, .int v], [], st m2 l2 z2) Q) : Ev l (100 + 1) (m_LAW L xs) 1255 ([.ref 2000000, .ref 1, .ref 119, .int v], [], st mi ml z) Q := by
  refine ev_aload_n (i := 1) rfl rfl (a_dec_at dcl_c39 0 rfl) ?_
  refine ev_aload_n (i := 0) rfl rfl (a_dec_at dcl_c39 1 rfl) ?_
  refine ev_iload_n (i := 3) rfl rfl (a_dec_at dcl_c39 2 rfl) ?_
  refine ev_iconst (v := 1) rfl (a_dec_at dcl_c39 3 rfl) ?_
  refine ev_iadd (a_dec_at dcl_c39 4 rfl) ?_
  refine ev_scr rfl h1 (a_dec_at dcl_c39 5 rfl) ?_
  refine ev_aload_n (i := 0) rfl rfl (a_dec_at dcl_c39 6 rfl) ?_
  refine ev_iload_n (i := 3) rfl rfl (a_dec_at dcl_c39 7 rfl) ?_
  refine ev_iconst (v := 2) rfl (a_dec_at dcl_c39 8 rfl) ?_
  refine ev_iadd (a_dec_at dcl_c39 9 rfl) ?_
  refine ev_scr rfl h2 (a_dec_at dcl_c39 10 rfl) ?_
  refine ev_aload_n (i := 0) rfl rfl (a_dec_at dcl_c39 11 rfl) ?_
  refine ev_iload_n (i := 3) rfl rfl (a_dec_at dcl_c39 12 rfl) ?_
  refine ev_iconst (v := 3) rfl (a_dec_at dcl_c39 13 rfl) ?_
  refine ev_iadd (a_dec_at dcl_c39 14 rfl) ?_
  refine ev_scr rfl h3 (a_dec_at dcl_c39 15 rfl) ?_
  refine cV3I cs_LAW_174 sh1 rfl (Nat.le_of_ble_eq_true rfl) (Nat.le_of_ble_eq_true rfl) (a_dec_at dcl_c39 16 rfl) ?_
  refine CI.mono (fun r1 m1 l1 z1 H1 => ?_) (j_numbers _ _ _ hJ)
  refine ev_aload_n (i := 2) rfl rfl (a_dec_at dcl_c39 17 rfl) ?_
  refine ev_aload_n (i := 0) rfl rfl (a_dec_at dcl_c39 18 rfl) ?_
  refine ev_iload_n (i := 3) rfl rfl (a_dec_at dcl_c39 19 rfl) ?_
  refine ev_iconst (v := 1) rfl (a_dec_at dcl_c39 20 rfl) ?_
  refine ev_iadd (a_dec_at dcl_c39 21 rfl) ?_
  refine ev_scr rfl h1 (a_dec_at dcl_c39 22 rfl) ?_
  refine ev_aload_n (i := 0) rfl rfl (a_dec_at dcl_c39 23 rfl) ?_
  refine ev_iload_n (i := 3) rfl rfl (a_dec_at dcl_c39 24 rfl) ?_
  refine ev_iconst (v := 2) rfl (a_dec_at dcl_c39 25 rfl) ?_
  refine ev_iadd (a_dec_at dcl_c39 26 rfl) ?_
  refine ev_scr rfl h2 (a_dec_at dcl_c39 27 rfl) ?_
  refine ev_aload_n (i := 0) rfl rfl (a_dec_at dcl_c39 28 rfl) ?_
  refine ev_iload_n (i := 3) rfl rfl (a_dec_at dcl_c39 29 rfl) ?_
  refine ev_iconst (v := 3) rfl (a_dec_at dcl_c39 30 rfl) ?_
  refine ev_iadd (a_dec_at dcl_c39 31 rfl) ?_
  refine ev_scr rfl h3 (a_dec_at dcl_c39 32 rfl) ?_
  refine cV3I cs_LAW_177 sh119 rfl (Nat.le_of_ble_eq_true rfl) (Nat.le_of_ble_eq_true rfl) (a_dec_at dcl_c39 33 rfl) ?_
  refine CI.mono (fun r2 m2 l2 z2 H2 => ?_) H1
  exact ev_icmp_eq (tgt := 1474) (a_dec_at dcl_c39 34 rfl) (by decide) (fun _ => H m2 l2 z2 H2.2) (fun b => absurd H2.1 b)
theorem lcmp_self (r : Int64) : lg_cmp r r = 0 := by
  unfold lg_cmp
  rw [if_neg (Int64.lt_irrefl), if_pos rfl]
set_option maxRecDepth 20000 in
theorem lc_write {l : Launch} {L : Nat} {xs : Nat → Int32} {mi : TMi} {ml : TMl} {z : Nat} {Q : Option Value → ASt → Prop} {v : Int32} (h1 : vp_in (v + 1) L) (h2 : vp_in (v + 2) L) (h3 : vp_in (v + 3) L) (h4 : vp_in (v + 4) L) (h5 : vp_in (v + 5) L) (hJ : JJ mi ml) (H : ∀ m2 l2 z2, JJ m2 l2 → Ev l (100 + 1) (m_LAW L xs) 1474 ([.ref 2000000, .ref 1, .ref 119, .int v], [], st m2 l2 z2) Q) : Ev l (100 + 1) (m_LAW L xs) 1298 ([.ref 2000000, .ref 1, .ref 119, .int v], [], st mi ml z) Q := by
  refine ev_aload_n (i := 1) rfl rfl (a_dec_at dcl_c40 0 rfl) ?_
  refine ev_aload_n (i := 0) rfl rfl (a_dec_at dcl_c40 1 rfl) ?_
  refine ev_iload_n (i := 3) rfl rfl (a_dec_at dcl_c40 2 rfl) ?_
  refine ev_iconst (v := 1) rfl (a_dec_at dcl_c40 3 rfl) ?_
  refine ev_iadd (a_dec_at dcl_c40 4 rfl) ?_
  refine ev_scr rfl h1 (a_dec_at dcl_c40 5 rfl) ?_
  refine ev_aload_n (i := 0) rfl rfl (a_dec_at dcl_c40 6 rfl) ?_
  refine ev_iload_n (i := 3) rfl rfl (a_dec_at dcl_c40 7 rfl) ?_
  refine ev_iconst (v := 2) rfl (a_dec_at dcl_c40 8 rfl) ?_
  refine ev_iadd (a_dec_at dcl_c40 9 rfl) ?_
  refine ev_scr rfl h2 (a_dec_at dcl_c40 10 rfl) ?_
  refine ev_aload_n (i := 0) rfl rfl (a_dec_at dcl_c40 11 rfl) ?_
  refine ev_iload_n (i := 3) rfl rfl (a_dec_at dcl_c40 12 rfl) ?_
  refine ev_iconst (v := 3) rfl (a_dec_at dcl_c40 13 rfl) ?_
  refine ev_iadd (a_dec_at dcl_c40 14 rfl) ?_
  refine ev_scr rfl h3 (a_dec_at dcl_c40 15 rfl) ?_
  refine ev_i2l (a_dec_at dcl_c40 16 rfl) ?_
  refine ev_bipush (v := 32) rfl (a_dec_at dcl_c40 17 rfl) ?_
  refine ev_lshl (a_dec_at dcl_c40 18 rfl) ?_
  refine ev_aload_n (i := 0) rfl rfl (a_dec_at dcl_c40 19 rfl) ?_
  refine ev_iload_n (i := 3) rfl rfl (a_dec_at dcl_c40 20 rfl) ?_
  refine ev_iconst (v := 4) rfl (a_dec_at dcl_c40 21 rfl) ?_
  refine ev_iadd (a_dec_at dcl_c40 22 rfl) ?_
  refine ev_scr rfl h4 (a_dec_at dcl_c40 23 rfl) ?_
  refine ev_i2l (a_dec_at dcl_c40 24 rfl) ?_
  refine ev_ldc2 kc_LAW_178 (a_dec_at dcl_c40 25 rfl) ?_
  refine ev_land (a_dec_at dcl_c40 26 rfl) ?_
  refine ev_lor (a_dec_at dcl_c40 27 rfl) ?_
  refine cV3L cs_LAW_180 sh1 rfl (Nat.le_of_ble_eq_true rfl) (Nat.le_of_ble_eq_true rfl) (a_dec_at dcl_c40 28 rfl) ?_
  refine CLg.mono (fun r1 m1 l1 z1 H1 => ?_) (j_write _ _ _ hJ)
  refine ev_aload_n (i := 2) rfl rfl (a_dec_at dcl_c40 29 rfl) ?_
  refine ev_aload_n (i := 0) rfl rfl (a_dec_at dcl_c40 30 rfl) ?_
  refine ev_iload_n (i := 3) rfl rfl (a_dec_at dcl_c40 31 rfl) ?_
  refine ev_iconst (v := 1) rfl (a_dec_at dcl_c40 32 rfl) ?_
  refine ev_iadd (a_dec_at dcl_c40 33 rfl) ?_
  refine ev_scr rfl h1 (a_dec_at dcl_c40 34 rfl) ?_
  refine ev_aload_n (i := 0) rfl rfl (a_dec_at dcl_c40 35 rfl) ?_
  refine ev_iload_n (i := 3) rfl rfl (a_dec_at dcl_c40 36 rfl) ?_
  refine ev_iconst (v := 2) rfl (a_dec_at dcl_c40 37 rfl) ?_
  refine ev_iadd (a_dec_at dcl_c40 38 rfl) ?_
  refine ev_scr rfl h2 (a_dec_at dcl_c40 39 rfl) ?_
  refine ev_aload_n (i := 0) rfl rfl (a_dec_at dcl_c40 40 rfl) ?_
  refine ev_iload_n (i := 3) rfl rfl (a_dec_at dcl_c40 41 rfl) ?_
  refine ev_iconst (v := 3) rfl (a_dec_at dcl_c40 42 rfl) ?_
  refine ev_iadd (a_dec_at dcl_c40 43 rfl) ?_
  refine ev_scr rfl h3 (a_dec_at dcl_c40 44 rfl) ?_
  refine ev_i2l (a_dec_at dcl_c40 45 rfl) ?_
  refine ev_bipush (v := 32) rfl (a_dec_at dcl_c40 46 rfl) ?_
  refine ev_lshl (a_dec_at dcl_c40 47 rfl) ?_
  refine ev_aload_n (i := 0) rfl rfl (a_dec_at dcl_c40 48 rfl) ?_
  refine ev_iload_n (i := 3) rfl rfl (a_dec_at dcl_c40 49 rfl) ?_
  refine ev_iconst (v := 4) rfl (a_dec_at dcl_c40 50 rfl) ?_
  refine ev_iadd (a_dec_at dcl_c40 51 rfl) ?_
  refine ev_scr rfl h4 (a_dec_at dcl_c40 52 rfl) ?_
  refine ev_i2l (a_dec_at dcl_c40 53 rfl) ?_
  refine ev_ldc2 kc_LAW_178 (a_dec_at dcl_c40 54 rfl) ?_
  refine ev_land (a_dec_at dcl_c40 55 rfl) ?_
  refine ev_lor (a_dec_at dcl_c40 56 rfl) ?_
  refine cV3L cs_LAW_184 sh119 rfl (Nat.le_of_ble_eq_true rfl) (Nat.le_of_ble_eq_true rfl) (a_dec_at dcl_c40 57 rfl) ?_
  refine CLg.mono (fun r2 m2 l2 z2 H2 => ?_) H1
  refine ev_lcmp (a_dec_at dcl_c40 58 rfl) ?_
  exact ev_if_eq (tgt := 1474) (a_dec_at dcl_c40 59 rfl) (by decide) (fun _ => H m2 l2 z2 H2.2) (fun b => absurd (by rw [H2.1]; exact lcmp_self r2) b)
set_option maxRecDepth 20000 in
theorem lc_lists {l : Launch} {L : Nat} {xs : Nat → Int32} {mi : TMi} {ml : TMl} {z : Nat} {Q : Option Value → ASt → Prop} {v : Int32} (h1 : vp_in (v + 1) L) (h2 : vp_in (v + 2) L) (h3 : vp_in (v + 3) L) (h4 : vp_in (v + 4) L) (h5 : vp_in (v + 5) L) (hJ : JJ mi ml) (H : ∀ m2 l2 z2, JJ m2 l2 → Ev l (100 + 1) (m_LAW L xs) 1474 ([.ref 2000000, .ref 1, .ref 119, .int v], [], st m2 l2 z2) Q) : Ev l (100 + 1) (m_LAW L xs) 1372 ([.ref 2000000, .ref 1, .ref 119, .int v], [], st mi ml z) Q := by
  refine ev_aload_n (i := 1) rfl rfl (a_dec_at dcl_c41 0 rfl) ?_
  refine ev_aload_n (i := 0) rfl rfl (a_dec_at dcl_c41 1 rfl) ?_
  refine ev_iload_n (i := 3) rfl rfl (a_dec_at dcl_c41 2 rfl) ?_
  refine ev_iconst (v := 1) rfl (a_dec_at dcl_c41 3 rfl) ?_
  refine ev_iadd (a_dec_at dcl_c41 4 rfl) ?_
  refine ev_scr rfl h1 (a_dec_at dcl_c41 5 rfl) ?_
  refine ev_aload_n (i := 0) rfl rfl (a_dec_at dcl_c41 6 rfl) ?_
  refine ev_iload_n (i := 3) rfl rfl (a_dec_at dcl_c41 7 rfl) ?_
  refine ev_iconst (v := 2) rfl (a_dec_at dcl_c41 8 rfl) ?_
  refine ev_iadd (a_dec_at dcl_c41 9 rfl) ?_
  refine ev_scr rfl h2 (a_dec_at dcl_c41 10 rfl) ?_
  refine cV2I cs_LAW_185 sh1 rfl (Nat.le_of_ble_eq_true rfl) (Nat.le_of_ble_eq_true rfl) (a_dec_at dcl_c41 11 rfl) ?_
  refine CI.mono (fun r1 m1 l1 z1 H1 => ?_) (j_lists _ _ hJ)
  refine ev_aload_n (i := 2) rfl rfl (a_dec_at dcl_c41 12 rfl) ?_
  refine ev_aload_n (i := 0) rfl rfl (a_dec_at dcl_c41 13 rfl) ?_
  refine ev_iload_n (i := 3) rfl rfl (a_dec_at dcl_c41 14 rfl) ?_
  refine ev_iconst (v := 1) rfl (a_dec_at dcl_c41 15 rfl) ?_
  refine ev_iadd (a_dec_at dcl_c41 16 rfl) ?_
  refine ev_scr rfl h1 (a_dec_at dcl_c41 17 rfl) ?_
  refine ev_aload_n (i := 0) rfl rfl (a_dec_at dcl_c41 18 rfl) ?_
  refine ev_iload_n (i := 3) rfl rfl (a_dec_at dcl_c41 19 rfl) ?_
  refine ev_iconst (v := 2) rfl (a_dec_at dcl_c41 20 rfl) ?_
  refine ev_iadd (a_dec_at dcl_c41 21 rfl) ?_
  refine ev_scr rfl h2 (a_dec_at dcl_c41 22 rfl) ?_
  refine cV2I cs_LAW_188 sh119 rfl (Nat.le_of_ble_eq_true rfl) (Nat.le_of_ble_eq_true rfl) (a_dec_at dcl_c41 23 rfl) ?_
  refine CI.mono (fun r2 m2 l2 z2 H2 => ?_) H1
  exact ev_icmp_eq (tgt := 1474) (a_dec_at dcl_c41 24 rfl) (by decide) (fun _ => H m2 l2 z2 H2.2) (fun b => absurd H2.1 b)
set_option maxRecDepth 20000 in
theorem lc_image {l : Launch} {L : Nat} {xs : Nat → Int32} {mi : TMi} {ml : TMl} {z : Nat} {Q : Option Value → ASt → Prop} {v : Int32} (h1 : vp_in (v + 1) L) (h2 : vp_in (v + 2) L) (h3 : vp_in (v + 3) L) (h4 : vp_in (v + 4) L) (h5 : vp_in (v + 5) L) (hJ : JJ mi ml) (H : ∀ m2 l2 z2, JJ m2 l2 → Ev l (100 + 1) (m_LAW L xs) 1474 ([.ref 2000000, .ref 1, .ref 119, .int v], [], st m2 l2 z2) Q) : Ev l (100 + 1) (m_LAW L xs) 1405 ([.ref 2000000, .ref 1, .ref 119, .int v], [], st mi ml z) Q := by
  refine ev_aload_n (i := 1) rfl rfl (a_dec_at dcl_c42 0 rfl) ?_
  refine ev_aload_n (i := 0) rfl rfl (a_dec_at dcl_c42 1 rfl) ?_
  refine ev_iload_n (i := 3) rfl rfl (a_dec_at dcl_c42 2 rfl) ?_
  refine ev_iconst (v := 1) rfl (a_dec_at dcl_c42 3 rfl) ?_
  refine ev_iadd (a_dec_at dcl_c42 4 rfl) ?_
  refine ev_scr rfl h1 (a_dec_at dcl_c42 5 rfl) ?_
  refine cV1I cs_LAW_189 sh1 rfl (Nat.le_of_ble_eq_true rfl) (Nat.le_of_ble_eq_true rfl) (a_dec_at dcl_c42 6 rfl) ?_
  refine CI.mono (fun r1 m1 l1 z1 H1 => ?_) (j_image _ hJ)
  refine ev_aload_n (i := 2) rfl rfl (a_dec_at dcl_c42 7 rfl) ?_
  refine ev_aload_n (i := 0) rfl rfl (a_dec_at dcl_c42 8 rfl) ?_
  refine ev_iload_n (i := 3) rfl rfl (a_dec_at dcl_c42 9 rfl) ?_
  refine ev_iconst (v := 1) rfl (a_dec_at dcl_c42 10 rfl) ?_
  refine ev_iadd (a_dec_at dcl_c42 11 rfl) ?_
  refine ev_scr rfl h1 (a_dec_at dcl_c42 12 rfl) ?_
  refine cV1I cs_LAW_192 sh119 rfl (Nat.le_of_ble_eq_true rfl) (Nat.le_of_ble_eq_true rfl) (a_dec_at dcl_c42 13 rfl) ?_
  refine CI.mono (fun r2 m2 l2 z2 H2 => ?_) H1
  exact ev_icmp_eq (tgt := 1474) (a_dec_at dcl_c42 14 rfl) (by decide) (fun _ => H m2 l2 z2 H2.2) (fun b => absurd H2.1 b)
set_option maxRecDepth 20000 in
theorem lc_restore {l : Launch} {L : Nat} {xs : Nat → Int32} {mi : TMi} {ml : TMl} {z : Nat} {Q : Option Value → ASt → Prop} {v : Int32} (h1 : vp_in (v + 1) L) (h2 : vp_in (v + 2) L) (h3 : vp_in (v + 3) L) (h4 : vp_in (v + 4) L) (h5 : vp_in (v + 5) L) (hJ : JJ mi ml) (H : ∀ m2 l2 z2, JJ m2 l2 → Ev l (100 + 1) (m_LAW L xs) 1474 ([.ref 2000000, .ref 1, .ref 119, .int v], [], st m2 l2 z2) Q) : Ev l (100 + 1) (m_LAW L xs) 1428 ([.ref 2000000, .ref 1, .ref 119, .int v], [], st mi ml z) Q := by
  refine ev_aload_n (i := 1) rfl rfl (a_dec_at dcl_c43 0 rfl) ?_
  refine ev_aload_n (i := 0) rfl rfl (a_dec_at dcl_c43 1 rfl) ?_
  refine ev_iload_n (i := 3) rfl rfl (a_dec_at dcl_c43 2 rfl) ?_
  refine ev_iconst (v := 1) rfl (a_dec_at dcl_c43 3 rfl) ?_
  refine ev_iadd (a_dec_at dcl_c43 4 rfl) ?_
  refine ev_scr rfl h1 (a_dec_at dcl_c43 5 rfl) ?_
  refine cV1I cs_LAW_193 sh1 rfl (Nat.le_of_ble_eq_true rfl) (Nat.le_of_ble_eq_true rfl) (a_dec_at dcl_c43 6 rfl) ?_
  refine CI.mono (fun r1 m1 l1 z1 H1 => ?_) (j_restore _ hJ)
  refine ev_aload_n (i := 2) rfl rfl (a_dec_at dcl_c43 7 rfl) ?_
  refine ev_aload_n (i := 0) rfl rfl (a_dec_at dcl_c43 8 rfl) ?_
  refine ev_iload_n (i := 3) rfl rfl (a_dec_at dcl_c43 9 rfl) ?_
  refine ev_iconst (v := 1) rfl (a_dec_at dcl_c43 10 rfl) ?_
  refine ev_iadd (a_dec_at dcl_c43 11 rfl) ?_
  refine ev_scr rfl h1 (a_dec_at dcl_c43 12 rfl) ?_
  refine cV1I cs_LAW_196 sh119 rfl (Nat.le_of_ble_eq_true rfl) (Nat.le_of_ble_eq_true rfl) (a_dec_at dcl_c43 13 rfl) ?_
  refine CI.mono (fun r2 m2 l2 z2 H2 => ?_) H1
  exact ev_icmp_eq (tgt := 1474) (a_dec_at dcl_c43 14 rfl) (by decide) (fun _ => H m2 l2 z2 H2.2) (fun b => absurd H2.1 b)
set_option maxRecDepth 20000 in
theorem lc_count {l : Launch} {L : Nat} {xs : Nat → Int32} {mi : TMi} {ml : TMl} {z : Nat} {Q : Option Value → ASt → Prop} {v : Int32} (h1 : vp_in (v + 1) L) (h2 : vp_in (v + 2) L) (h3 : vp_in (v + 3) L) (h4 : vp_in (v + 4) L) (h5 : vp_in (v + 5) L) (hJ : JJ mi ml) (H : ∀ m2 l2 z2, JJ m2 l2 → Ev l (100 + 1) (m_LAW L xs) 1474 ([.ref 2000000, .ref 1, .ref 119, .int v], [], st m2 l2 z2) Q) : Ev l (100 + 1) (m_LAW L xs) 1451 ([.ref 2000000, .ref 1, .ref 119, .int v], [], st mi ml z) Q := by
  refine ev_aload_n (i := 1) rfl rfl (a_dec_at dcl_c44 0 rfl) ?_
  refine ev_aload_n (i := 0) rfl rfl (a_dec_at dcl_c44 1 rfl) ?_
  refine ev_iload_n (i := 3) rfl rfl (a_dec_at dcl_c44 2 rfl) ?_
  refine ev_iconst (v := 1) rfl (a_dec_at dcl_c44 3 rfl) ?_
  refine ev_iadd (a_dec_at dcl_c44 4 rfl) ?_
  refine ev_scr rfl h1 (a_dec_at dcl_c44 5 rfl) ?_
  refine cV1I cs_LAW_197 sh1 rfl (Nat.le_of_ble_eq_true rfl) (Nat.le_of_ble_eq_true rfl) (a_dec_at dcl_c44 6 rfl) ?_
  refine CI.mono (fun r1 m1 l1 z1 H1 => ?_) (j_count _ hJ)
  refine ev_aload_n (i := 2) rfl rfl (a_dec_at dcl_c44 7 rfl) ?_
  refine ev_aload_n (i := 0) rfl rfl (a_dec_at dcl_c44 8 rfl) ?_
  refine ev_iload_n (i := 3) rfl rfl (a_dec_at dcl_c44 9 rfl) ?_
  refine ev_iconst (v := 1) rfl (a_dec_at dcl_c44 10 rfl) ?_
  refine ev_iadd (a_dec_at dcl_c44 11 rfl) ?_
  refine ev_scr rfl h1 (a_dec_at dcl_c44 12 rfl) ?_
  refine cV1I cs_LAW_200 sh119 rfl (Nat.le_of_ble_eq_true rfl) (Nat.le_of_ble_eq_true rfl) (a_dec_at dcl_c44 13 rfl) ?_
  refine CI.mono (fun r2 m2 l2 z2 H2 => ?_) H1
  exact ev_icmp_eq (tgt := 1474) (a_dec_at dcl_c44 14 rfl) (by decide) (fun _ => H m2 l2 z2 H2.2) (fun b => absurd H2.1 b)
theorem lw_sub {L : Nat} (hL : L ≤ 3072) {i : Nat} (hi : i ≤ L) : nI L - 6 < nI i ↔ L < i + 6 := by
  have e : (nI L - 6).toInt = (L : Int) - 6 := by
    have h1 : (nI L).toInt = (L : Int) := nI_toInt (by omega)
    have h2 : (6 : Int32).toInt = 6 := by decide
    rw [Int32.toInt_sub, h1, h2]
    exact Int.bmod_eq_of_le (by omega) (by omega)
  rw [Int32.lt_iff_toInt_lt, e, nI_toInt (by omega)]
  omega
theorem lw_in {L i j : Nat} {w : Int32} (hL : L ≤ 3072) (h : i + 6 ≤ L) (hj : j ≤ 5) (hw : w = nI j) : vp_in (nI i + w) L := by
  rw [hw, nI_add]
  exact vp_in_nI (by omega) (by omega)
set_option maxRecDepth 20000 in
/-- the law's loop -/
theorem l_loop {l : Launch} {L : Nat} {xs : Nat → Int32} (hL : L ≤ 3072) : ∀ (k i : Nat) (mi : TMi) (ml : TMl) (z : Nat), i ≤ L → L ≤ i + k → JJ mi ml → Ev l (100 + 1) (m_LAW L xs) 18 ([.ref 2000000, .ref 1, .ref 119, .int (nI i)], [], st mi ml z) (fun v _ => v = some (.int 1)) := by
  intro k
  induction k using Nat.strongRecOn with
  | _ k ih =>
  intro i mi ml z hi hk hJ
  refine ev_iload_n (i := 3) rfl rfl (a_dec_at dcl_h 0 rfl) ?_
  refine ev_aload_n (i := 0) rfl rfl (a_dec_at dcl_h 1 rfl) ?_
  refine ev_scrl rfl (a_dec_at dcl_h 2 rfl) ?_
  refine ev_bipush (v := 6) rfl (a_dec_at dcl_h 3 rfl) ?_
  refine ev_isub (a_dec_at dcl_h 4 rfl) ?_
  refine ev_icmp_gt (tgt := 1480) (a_dec_at dcl_h 5 rfl) (by decide) (fun b => ?_) (fun b => ?_)
  · refine ev_iconst (v := 1) rfl (a_dec_at dcl_e 2 rfl) ?_
    exact Ev.retI (a_dec_at dcl_e 3 rfl) rfl rfl rfl
  have hlt : i + 6 ≤ L := by
    rcases Nat.lt_or_ge L (i + 6) with c | c
    · exact absurd ((lw_sub hL hi).mpr c) b
    · exact c
  have h1 : vp_in (nI i + 1) L := lw_in hL hlt (j := 1) (by decide) rfl
  have h2 : vp_in (nI i + 2) L := lw_in hL hlt (j := 2) (by decide) rfl
  have h3 : vp_in (nI i + 3) L := lw_in hL hlt (j := 3) (by decide) rfl
  have h4 : vp_in (nI i + 4) L := lw_in hL hlt (j := 4) (by decide) rfl
  have h5 : vp_in (nI i + 5) L := lw_in hL hlt (j := 5) (by decide) rfl
  have H : ∀ m2 l2 z2, JJ m2 l2 → Ev l (100 + 1) (m_LAW L xs) 1474 ([.ref 2000000, .ref 1, .ref 119, .int (nI i)], [], st m2 l2 z2) (fun v _ => v = some (.int 1)) := by
    intro m2 l2 z2 hJ2
    refine ev_iinc (v := 6) rfl rfl (show 3 < 4 by decide) rfl (a_dec_at dcl_e 0 rfl) ?_
    refine ev_goto (tgt := 18) (a_dec_at dcl_e 1 rfl) (by decide) ?_
    have e6 : nI i + 6 = nI (i + 6) := nI_add i 6
    show Ev l (100 + 1) (m_LAW L xs) 18 ([.ref 2000000, .ref 1, .ref 119, .int (nI i + 6)], [], st m2 l2 z2) (fun v _ => v = some (.int 1))
    rw [e6]
    exact ih (k - 1) (by omega) (i + 6) m2 l2 z2 hlt (by omega) hJ2
  refine ev_aload_n (i := 0) rfl rfl (a_dec_at dcl_h 6 rfl) ?_
  refine ev_iload_n (i := 3) rfl rfl (a_dec_at dcl_h 7 rfl) ?_
  refine ev_scr rfl (vp_in_nI (by omega) (by omega)) (a_dec_at dcl_h 8 rfl) ?_
  refine ev_bipush (v := 63) rfl (a_dec_at dcl_h 9 rfl) ?_
  refine ev_iand (a_dec_at dcl_h 10 rfl) ?_
  generalize xs (nI i).toNatClampNeg &&& 63 = w
  by_cases e0 : w = 0
  · exact w_tableIn (c := 0) (off := 195) (tgt := 228) (a_dec_at dcl_h 11 rfl) e0 (by decide) (by decide) (by decide) (by decide) (lc_feed h1 h2 h3 h4 h5 hJ H)
  by_cases e1 : w = 1
  · exact w_tableIn (c := 1) (off := 258) (tgt := 291) (a_dec_at dcl_h 11 rfl) e1 (by decide) (by decide) (by decide) (by decide) (lc_land h1 h2 h3 h4 h5 hJ H)
  by_cases e2 : w = 2
  · exact w_tableIn (c := 2) (off := 281) (tgt := 314) (a_dec_at dcl_h 11 rfl) e2 (by decide) (by decide) (by decide) (by decide) (lc_fault h1 h2 h3 h4 h5 hJ H)
  by_cases e3 : w = 3
  · exact w_tableIn (c := 3) (off := 304) (tgt := 337) (a_dec_at dcl_h 11 rfl) e3 (by decide) (by decide) (by decide) (by decide) (lc_beck h1 h2 h3 h4 h5 hJ H)
  by_cases e4 : w = 4
  · exact w_tableIn (c := 4) (off := 337) (tgt := 370) (a_dec_at dcl_h 11 rfl) e4 (by decide) (by decide) (by decide) (by decide) (lc_river h1 h2 h3 h4 h5 hJ H)
  by_cases e5 : w = 5
  · exact w_tableIn (c := 5) (off := 370) (tgt := 403) (a_dec_at dcl_h 11 rfl) e5 (by decide) (by decide) (by decide) (by decide) (lc_likes h1 h2 h3 h4 h5 hJ H)
  by_cases e6 : w = 6
  · exact w_tableIn (c := 6) (off := 403) (tgt := 436) (a_dec_at dcl_h 11 rfl) e6 (by decide) (by decide) (by decide) (by decide) (lc_takes h1 h2 h3 h4 h5 hJ H)
  by_cases e7 : w = 7
  · exact w_tableIn (c := 7) (off := 436) (tgt := 469) (a_dec_at dcl_h 11 rfl) e7 (by decide) (by decide) (by decide) (by decide) (lc_gifts h1 h2 h3 h4 h5 hJ H)
  by_cases e8 : w = 8
  · exact w_tableIn (c := 8) (off := 469) (tgt := 502) (a_dec_at dcl_h 11 rfl) e8 (by decide) (by decide) (by decide) (by decide) (lc_declare h1 h2 h3 h4 h5 hJ H)
  by_cases e9 : w = 9
  · exact w_tableIn (c := 9) (off := 502) (tgt := 535) (a_dec_at dcl_h 11 rfl) e9 (by decide) (by decide) (by decide) (by decide) (lc_leave h1 h2 h3 h4 h5 hJ H)
  by_cases e10 : w = 10
  · exact w_tableIn (c := 10) (off := 525) (tgt := 558) (a_dec_at dcl_h 11 rfl) e10 (by decide) (by decide) (by decide) (by decide) (lc_send h1 h2 h3 h4 h5 hJ H)
  by_cases e11 : w = 11
  · exact w_tableIn (c := 11) (off := 568) (tgt := 601) (a_dec_at dcl_h 11 rfl) e11 (by decide) (by decide) (by decide) (by decide) (lc_rain h1 h2 h3 h4 h5 hJ H)
  by_cases e12 : w = 12
  · exact w_tableIn (c := 12) (off := 601) (tgt := 634) (a_dec_at dcl_h 11 rfl) e12 (by decide) (by decide) (by decide) (by decide) (lc_room h1 h2 h3 h4 h5 hJ H)
  by_cases e13 : w = 13
  · exact w_tableIn (c := 13) (off := 634) (tgt := 667) (a_dec_at dcl_h 11 rfl) e13 (by decide) (by decide) (by decide) (by decide) (lc_undo h1 h2 h3 h4 h5 hJ H)
  by_cases e14 : w = 14
  · exact w_tableIn (c := 14) (off := 657) (tgt := 690) (a_dec_at dcl_h 11 rfl) e14 (by decide) (by decide) (by decide) (by decide) (lc_judge h1 h2 h3 h4 h5 hJ H)
  by_cases e15 : w = 15
  · exact w_tableIn (c := 15) (off := 690) (tgt := 723) (a_dec_at dcl_h 11 rfl) e15 (by decide) (by decide) (by decide) (by decide) (lc_perform h1 h2 h3 h4 h5 hJ H)
  by_cases e16 : w = 16
  · exact w_tableIn (c := 16) (off := 713) (tgt := 746) (a_dec_at dcl_h 11 rfl) e16 (by decide) (by decide) (by decide) (by decide) (lc_year h1 h2 h3 h4 h5 hJ H)
  by_cases e17 : w = 17
  · exact w_tableIn (c := 17) (off := 746) (tgt := 779) (a_dec_at dcl_h 11 rfl) e17 (by decide) (by decide) (by decide) (by decide) (lc_holds h1 h2 h3 h4 h5 hJ H)
  by_cases e18 : w = 18
  · exact w_tableIn (c := 18) (off := 759) (tgt := 792) (a_dec_at dcl_h 11 rfl) e18 (by decide) (by decide) (by decide) (by decide) (lc_breaks h1 h2 h3 h4 h5 hJ H)
  by_cases e19 : w = 19
  · exact w_tableIn (c := 19) (off := 772) (tgt := 805) (a_dec_at dcl_h 11 rfl) e19 (by decide) (by decide) (by decide) (by decide) (lc_breaking h1 h2 h3 h4 h5 hJ H)
  by_cases e20 : w = 20
  · exact w_tableIn (c := 20) (off := 785) (tgt := 818) (a_dec_at dcl_h 11 rfl) e20 (by decide) (by decide) (by decide) (by decide) (lc_forBecks h1 h2 h3 h4 h5 hJ H)
  by_cases e21 : w = 21
  · exact w_tableIn (c := 21) (off := 808) (tgt := 841) (a_dec_at dcl_h 11 rfl) e21 (by decide) (by decide) (by decide) (by decide) (lc_forRivers h1 h2 h3 h4 h5 hJ H)
  by_cases e22 : w = 22
  · exact w_tableIn (c := 22) (off := 831) (tgt := 864) (a_dec_at dcl_h 11 rfl) e22 (by decide) (by decide) (by decide) (by decide) (lc_choices h1 h2 h3 h4 h5 hJ H)
  by_cases e23 : w = 23
  · exact w_tableIn (c := 23) (off := 844) (tgt := 877) (a_dec_at dcl_h 11 rfl) e23 (by decide) (by decide) (by decide) (by decide) (lc_choice h1 h2 h3 h4 h5 hJ H)
  by_cases e24 : w = 24
  · exact w_tableIn (c := 24) (off := 867) (tgt := 900) (a_dec_at dcl_h 11 rfl) e24 (by decide) (by decide) (by decide) (by decide) (lc_can h1 h2 h3 h4 h5 hJ H)
  by_cases e25 : w = 25
  · exact w_tableIn (c := 25) (off := 890) (tgt := 923) (a_dec_at dcl_h 11 rfl) e25 (by decide) (by decide) (by decide) (by decide) (lc_sure h1 h2 h3 h4 h5 hJ H)
  by_cases e26 : w = 26
  · exact w_tableIn (c := 26) (off := 903) (tgt := 936) (a_dec_at dcl_h 11 rfl) e26 (by decide) (by decide) (by decide) (by decide) (lc_fairest h1 h2 h3 h4 h5 hJ H)
  by_cases e27 : w = 27
  · exact w_tableIn (c := 27) (off := 916) (tgt := 949) (a_dec_at dcl_h 11 rfl) e27 (by decide) (by decide) (by decide) (by decide) (lc_fullest h1 h2 h3 h4 h5 hJ H)
  by_cases e28 : w = 28
  · exact w_tableIn (c := 28) (off := 929) (tgt := 962) (a_dec_at dcl_h 11 rfl) e28 (by decide) (by decide) (by decide) (by decide) (lc_gains h1 h2 h3 h4 h5 hJ H)
  by_cases e29 : w = 29
  · exact w_tableIn (c := 29) (off := 952) (tgt := 985) (a_dec_at dcl_h 11 rfl) e29 (by decide) (by decide) (by decide) (by decide) (lc_lie h1 h2 h3 h4 h5 hJ H)
  by_cases e30 : w = 30
  · exact w_tableIn (c := 30) (off := 975) (tgt := 1008) (a_dec_at dcl_h 11 rfl) e30 (by decide) (by decide) (by decide) (by decide) (lc_liars h1 h2 h3 h4 h5 hJ H)
  by_cases e31 : w = 31
  · exact w_tableIn (c := 31) (off := 988) (tgt := 1021) (a_dec_at dcl_h 11 rfl) e31 (by decide) (by decide) (by decide) (by decide) (lc_woos h1 h2 h3 h4 h5 hJ H)
  by_cases e32 : w = 32
  · exact w_tableIn (c := 32) (off := 1031) (tgt := 1064) (a_dec_at dcl_h 11 rfl) e32 (by decide) (by decide) (by decide) (by decide) (lc_floods h1 h2 h3 h4 h5 hJ H)
  by_cases e33 : w = 33
  · exact w_tableIn (c := 33) (off := 1044) (tgt := 1077) (a_dec_at dcl_h 11 rfl) e33 (by decide) (by decide) (by decide) (by decide) (lc_turnOff h1 h2 h3 h4 h5 hJ H)
  by_cases e34 : w = 34
  · exact w_tableIn (c := 34) (off := 1067) (tgt := 1100) (a_dec_at dcl_h 11 rfl) e34 (by decide) (by decide) (by decide) (by decide) (lc_bearing h1 h2 h3 h4 h5 hJ H)
  by_cases e35 : w = 35
  · exact w_tableIn (c := 35) (off := 1090) (tgt := 1123) (a_dec_at dcl_h 11 rfl) e35 (by decide) (by decide) (by decide) (by decide) (lc_marks h1 h2 h3 h4 h5 hJ H)
  by_cases e36 : w = 36
  · exact w_tableIn (c := 36) (off := 1123) (tgt := 1156) (a_dec_at dcl_h 11 rfl) e36 (by decide) (by decide) (by decide) (by decide) (lc_ask h1 h2 h3 h4 h5 hJ H)
  by_cases e37 : w = 37
  · exact w_tableIn (c := 37) (off := 1156) (tgt := 1189) (a_dec_at dcl_h 11 rfl) e37 (by decide) (by decide) (by decide) (by decide) (lc_flooding h1 h2 h3 h4 h5 hJ H)
  by_cases e38 : w = 38
  · exact w_tableIn (c := 38) (off := 1189) (tgt := 1222) (a_dec_at dcl_h 11 rfl) e38 (by decide) (by decide) (by decide) (by decide) (lc_staying h1 h2 h3 h4 h5 hJ H)
  by_cases e39 : w = 39
  · exact w_tableIn (c := 39) (off := 1222) (tgt := 1255) (a_dec_at dcl_h 11 rfl) e39 (by decide) (by decide) (by decide) (by decide) (lc_numbers h1 h2 h3 h4 h5 hJ H)
  by_cases e40 : w = 40
  · exact w_tableIn (c := 40) (off := 1265) (tgt := 1298) (a_dec_at dcl_h 11 rfl) e40 (by decide) (by decide) (by decide) (by decide) (lc_write h1 h2 h3 h4 h5 hJ H)
  by_cases e41 : w = 41
  · exact w_tableIn (c := 41) (off := 1339) (tgt := 1372) (a_dec_at dcl_h 11 rfl) e41 (by decide) (by decide) (by decide) (by decide) (lc_lists h1 h2 h3 h4 h5 hJ H)
  by_cases e42 : w = 42
  · exact w_tableIn (c := 42) (off := 1372) (tgt := 1405) (a_dec_at dcl_h 11 rfl) e42 (by decide) (by decide) (by decide) (by decide) (lc_image h1 h2 h3 h4 h5 hJ H)
  by_cases e43 : w = 43
  · exact w_tableIn (c := 43) (off := 1395) (tgt := 1428) (a_dec_at dcl_h 11 rfl) e43 (by decide) (by decide) (by decide) (by decide) (lc_restore h1 h2 h3 h4 h5 hJ H)
  by_cases e44 : w = 44
  · exact w_tableIn (c := 44) (off := 1418) (tgt := 1451) (a_dec_at dcl_h 11 rfl) e44 (by decide) (by decide) (by decide) (by decide) (lc_count h1 h2 h3 h4 h5 hJ H)
  refine w_tableOut (tgt := 1474) [0, 1, 2, 3, 4, 5, 6, 7, 8, 9, 10, 11, 12, 13, 14, 15, 16, 17, 18, 19, 20, 21, 22, 23, 24, 25, 26, 27, 28, 29, 30, 31, 32, 33, 34, 35, 36, 37, 38, 39, 40, 41, 42, 43, 44] (a_dec_at dcl_h 11 rfl) (by decide) (by intro c hc; simp only [List.mem_cons, List.not_mem_nil, or_false] at hc; rcases hc with rfl | rfl | rfl | rfl | rfl | rfl | rfl | rfl | rfl | rfl | rfl | rfl | rfl | rfl | rfl | rfl | rfl | rfl | rfl | rfl | rfl | rfl | rfl | rfl | rfl | rfl | rfl | rfl | rfl | rfl | rfl | rfl | rfl | rfl | rfl | rfl | rfl | rfl | rfl | rfl | rfl | rfl | rfl | rfl | rfl <;> assumption) (by decide) ?_
  exact H mi ml z hJ
set_option maxRecDepth 20000 in
/-- the law, from its entry -/
theorem l_start {l : Launch} {L : Nat} {xs : Nat → Int32} (hL : L ≤ 3072) : Ev l (100 + 1) (m_LAW L xs) 0 ([.ref 2000000, .retAddr 0, .retAddr 0, .retAddr 0], [], CX 1 [] [] 136 29568) (fun v _ => v = some (.int 1)) := by
  refine x_new (ci := 11) (bc := 135) (bs := 29549) rfl (a_m1 23 rfl rfl) (a_m1 24 rfl rfl) (a_m1 1 rfl rfl) (by decide) sh1 (by decide) (by decide +kernel) (by decide +kernel) (by decide) (a_dec_at dcl_0 0 rfl) ?_
  refine ev_dup rfl (a_dec_at dcl_0 1 rfl) ?_
  refine x_callI (As := []) (b1 := 117) (s1 := 6319) (bc := 18) (bs := 23230) cal_B_init rfl cs_LAW_9 (a_m1 26 rfl rfl) rfl (by decide) rfl (by decide) (by decide) (by decide) (by decide) (by decide) (a_dec_at dcl_0 2 rfl) (i_B_init_1 (h := 97)) ?_
  refine ev_astore_n (i := 1) rfl (show 1 < 4 by decide) rfl (a_dec_at dcl_0 3 rfl) ?_
  refine x_new (ci := 12) (bc := 17) (bs := 23195) rfl (a_m6 195 rfl rfl) (a_m6 196 rfl rfl) (a_m1 15 rfl rfl) (by decide) sh119 (by decide) (by decide +kernel) (by decide +kernel) (by decide) (a_dec_at dcl_0 4 rfl) ?_
  refine ev_dup rfl (a_dec_at dcl_0 5 rfl) ?_
  refine Ev.callI (Mj := m_R_init) (As := []) (x := 119) (σ := CX 120 li_25 lr_25 17 23195) (b1 := 17) (s1 := 23195) (Q1 := fun v σ => v = none ∧ ∃ mi, σ = st mi C0 0 ∧ JJ mi C0) cal_R_init rfl cs_LAW_12 (a_m6 198 rfl rfl) rfl (by decide) rfl (by decide) (by decide) (by decide) (Nat.le_refl _) (Nat.le_refl _) (Or.inr (by rw [show (CX 120 li_25 lr_25 17 23195).1.length = 120 from tk_len (by decide)]; decide)) (a_dec_at dcl_0 6 rfl) ?_ ?_
  · exact made_R (h := 98) (fun mi F E => ⟨rfl, mi, rfl, _, _, _, _, _, _, _, _, _, made_IC F, made_IR F E⟩)
  intro v σ' hq
  obtain ⟨rfl, mi, rfl, hJ⟩ := hq
  show Ev l (100 + 1) (m_LAW L xs) 15 (_, [.ref 119], st mi C0 0) _
  refine ev_astore_n (i := 2) rfl (show 2 < 4 by decide) rfl (a_dec_at dcl_0 7 rfl) ?_
  refine ev_iconst (v := 0) rfl (a_dec_at dcl_0 8 rfl) ?_
  refine ev_istore_n (i := 3) rfl (show 3 < 4 by decide) rfl (a_dec_at dcl_0 9 rfl) ?_
  exact l_loop hL L 0 mi C0 0 (Nat.zero_le _) (by omega) hJ
