/-! the law itself: its cases -/
def tbL_0 : List (Nat × Instr × Nat) := [(0, .new 7, 3), (3, .dup, 1), (4, .invokespecial 9, 3), (7, .astore_n 1, 1), (8, .new 10, 3), (11, .dup, 1), (12, .invokespecial 12, 3), (15, .astore_n 2, 1), (16, .iconst 0, 1), (17, .istore_n 3, 1), (18, .iload_n 3, 1), (19, .aload_n 0, 1), (20, .arraylength, 1), (21, .bipush 6, 2), (23, .isub, 1), (24, .if_icmp .gt 1283, 3), (27, .aload_n 0, 1), (28, .iload_n 3, 1), (29, .iaload, 1), (30, .bipush 63, 2), (32, .iand, 1), (33, .tableswitch 1268 0 34 #[155, 198, 257, 290, 313, 356, 379, 442, 465, 488, 501, 524, 547, 580, 613, 646, 699, 732, 775, 808, 841, 874, 908, 942, 955, 998, 1031, 1064, 1087, 1120, 1153, 1186, 1209, 1222, 1245], 155), (188, .aload_n 1, 1), (189, .aload_n 0, 1), (190, .iload_n 3, 1), (191, .iconst 1, 1), (192, .iadd, 1), (193, .iaload, 1), (194, .aload_n 0, 1), (195, .iload_n 3, 1), (196, .iconst 2, 1), (197, .iadd, 1)]
def tbL_1 : List (Nat × Instr × Nat) := [(198, .iaload, 1), (199, .aload_n 0, 1), (200, .iload_n 3, 1), (201, .iconst 3, 1), (202, .iadd, 1), (203, .iaload, 1), (204, .invokevirtual 13, 3), (207, .aload_n 2, 1), (208, .aload_n 0, 1), (209, .iload_n 3, 1), (210, .iconst 1, 1), (211, .iadd, 1), (212, .iaload, 1), (213, .aload_n 0, 1), (214, .iload_n 3, 1), (215, .iconst 2, 1), (216, .iadd, 1), (217, .iaload, 1), (218, .aload_n 0, 1), (219, .iload_n 3, 1), (220, .iconst 3, 1), (221, .iadd, 1), (222, .iaload, 1), (223, .invokevirtual 17, 3), (226, .if_icmp .eq 1075, 3), (229, .iconst 0, 1), (230, .ireturn, 1), (231, .aload_n 1, 1), (232, .aload_n 0, 1), (233, .iload_n 3, 1), (234, .iconst 1, 1), (235, .iadd, 1)]
def tbL_2 : List (Nat × Instr × Nat) := [(236, .iaload, 1), (237, .aload_n 0, 1), (238, .iload_n 3, 1), (239, .iconst 2, 1), (240, .iadd, 1), (241, .iaload, 1), (242, .aload_n 0, 1), (243, .iload_n 3, 1), (244, .iconst 3, 1), (245, .iadd, 1), (246, .iaload, 1), (247, .ifCond .eq 7, 3), (250, .iconst 1, 1), (251, .goto 4, 3), (254, .iconst 0, 1), (255, .invokevirtual 18, 3), (258, .aload_n 2, 1), (259, .aload_n 0, 1), (260, .iload_n 3, 1), (261, .iconst 1, 1), (262, .iadd, 1), (263, .iaload, 1), (264, .aload_n 0, 1), (265, .iload_n 3, 1), (266, .iconst 2, 1), (267, .iadd, 1), (268, .iaload, 1), (269, .aload_n 0, 1), (270, .iload_n 3, 1), (271, .iconst 3, 1), (272, .iadd, 1), (273, .iaload, 1)]
def tbL_3 : List (Nat × Instr × Nat) := [(274, .ifCond .eq 7, 3), (277, .iconst 1, 1), (278, .goto 4, 3), (281, .iconst 0, 1), (282, .invokevirtual 22, 3), (285, .if_icmp .eq 1016, 3), (288, .iconst 0, 1), (289, .ireturn, 1), (290, .aload_n 1, 1), (291, .aload_n 0, 1), (292, .iload_n 3, 1), (293, .iconst 1, 1), (294, .iadd, 1), (295, .iaload, 1), (296, .aload_n 0, 1), (297, .iload_n 3, 1), (298, .iconst 2, 1), (299, .iadd, 1), (300, .iaload, 1), (301, .invokevirtual 23, 3), (304, .aload_n 2, 1), (305, .aload_n 0, 1), (306, .iload_n 3, 1), (307, .iconst 1, 1), (308, .iadd, 1), (309, .iaload, 1), (310, .aload_n 0, 1), (311, .iload_n 3, 1), (312, .iconst 2, 1), (313, .iadd, 1), (314, .iaload, 1), (315, .invokevirtual 27, 3)]
def tbL_4 : List (Nat × Instr × Nat) := [(318, .if_icmp .eq 983, 3), (321, .iconst 0, 1), (322, .ireturn, 1), (323, .aload_n 1, 1), (324, .aload_n 0, 1), (325, .iload_n 3, 1), (326, .iconst 1, 1), (327, .iadd, 1), (328, .iaload, 1), (329, .invokevirtual 28, 3), (332, .aload_n 2, 1), (333, .aload_n 0, 1), (334, .iload_n 3, 1), (335, .iconst 1, 1), (336, .iadd, 1), (337, .iaload, 1), (338, .invokevirtual 32, 3), (341, .if_icmp .eq 960, 3), (344, .iconst 0, 1), (345, .ireturn, 1), (346, .aload_n 1, 1), (347, .aload_n 0, 1), (348, .iload_n 3, 1), (349, .iconst 1, 1), (350, .iadd, 1), (351, .iaload, 1), (352, .aload_n 0, 1), (353, .iload_n 3, 1), (354, .iconst 2, 1), (355, .iadd, 1), (356, .iaload, 1), (357, .aload_n 0, 1)]
def tbL_5 : List (Nat × Instr × Nat) := [(358, .iload_n 3, 1), (359, .iconst 3, 1), (360, .iadd, 1), (361, .iaload, 1), (362, .invokevirtual 33, 3), (365, .aload_n 2, 1), (366, .aload_n 0, 1), (367, .iload_n 3, 1), (368, .iconst 1, 1), (369, .iadd, 1), (370, .iaload, 1), (371, .aload_n 0, 1), (372, .iload_n 3, 1), (373, .iconst 2, 1), (374, .iadd, 1), (375, .iaload, 1), (376, .aload_n 0, 1), (377, .iload_n 3, 1), (378, .iconst 3, 1), (379, .iadd, 1), (380, .iaload, 1), (381, .invokevirtual 37, 3), (384, .if_icmp .eq 917, 3), (387, .iconst 0, 1), (388, .ireturn, 1), (389, .aload_n 1, 1), (390, .aload_n 0, 1), (391, .iload_n 3, 1), (392, .iconst 1, 1), (393, .iadd, 1), (394, .iaload, 1), (395, .invokevirtual 38, 3)]
def tbL_6 : List (Nat × Instr × Nat) := [(398, .aload_n 2, 1), (399, .aload_n 0, 1), (400, .iload_n 3, 1), (401, .iconst 1, 1), (402, .iadd, 1), (403, .iaload, 1), (404, .invokevirtual 41, 3), (407, .if_icmp .eq 894, 3), (410, .iconst 0, 1), (411, .ireturn, 1), (412, .aload_n 1, 1), (413, .aload_n 0, 1), (414, .iload_n 3, 1), (415, .iconst 1, 1), (416, .iadd, 1), (417, .iaload, 1), (418, .aload_n 0, 1), (419, .iload_n 3, 1), (420, .iconst 2, 1), (421, .iadd, 1), (422, .iaload, 1), (423, .aload_n 0, 1), (424, .iload_n 3, 1), (425, .iconst 3, 1), (426, .iadd, 1), (427, .iaload, 1), (428, .aload_n 0, 1), (429, .iload_n 3, 1), (430, .iconst 4, 1), (431, .iadd, 1), (432, .iaload, 1), (433, .aload_n 0, 1)]
def tbL_7 : List (Nat × Instr × Nat) := [(434, .iload_n 3, 1), (435, .iconst 5, 1), (436, .iadd, 1), (437, .iaload, 1), (438, .invokevirtual 42, 3), (441, .aload_n 2, 1), (442, .aload_n 0, 1), (443, .iload_n 3, 1), (444, .iconst 1, 1), (445, .iadd, 1), (446, .iaload, 1), (447, .aload_n 0, 1), (448, .iload_n 3, 1), (449, .iconst 2, 1), (450, .iadd, 1), (451, .iaload, 1), (452, .aload_n 0, 1), (453, .iload_n 3, 1), (454, .iconst 3, 1), (455, .iadd, 1), (456, .iaload, 1), (457, .aload_n 0, 1), (458, .iload_n 3, 1), (459, .iconst 4, 1), (460, .iadd, 1), (461, .iaload, 1), (462, .aload_n 0, 1), (463, .iload_n 3, 1), (464, .iconst 5, 1), (465, .iadd, 1), (466, .iaload, 1), (467, .invokevirtual 46, 3)]
def tbL_8 : List (Nat × Instr × Nat) := [(470, .if_icmp .eq 831, 3), (473, .iconst 0, 1), (474, .ireturn, 1), (475, .aload_n 1, 1), (476, .aload_n 0, 1), (477, .iload_n 3, 1), (478, .iconst 1, 1), (479, .iadd, 1), (480, .iaload, 1), (481, .invokevirtual 47, 3), (484, .aload_n 2, 1), (485, .aload_n 0, 1), (486, .iload_n 3, 1), (487, .iconst 1, 1), (488, .iadd, 1), (489, .iaload, 1), (490, .invokevirtual 51, 3), (493, .if_icmp .eq 808, 3), (496, .iconst 0, 1), (497, .ireturn, 1), (498, .aload_n 1, 1), (499, .aload_n 0, 1), (500, .iload_n 3, 1), (501, .iconst 1, 1), (502, .iadd, 1), (503, .iaload, 1), (504, .invokevirtual 52, 3), (507, .aload_n 2, 1), (508, .aload_n 0, 1), (509, .iload_n 3, 1), (510, .iconst 1, 1), (511, .iadd, 1)]
def tbL_9 : List (Nat × Instr × Nat) := [(512, .iaload, 1), (513, .invokevirtual 55, 3), (516, .if_icmp .eq 785, 3), (519, .iconst 0, 1), (520, .ireturn, 1), (521, .aload_n 1, 1), (522, .invokevirtual 56, 3), (525, .aload_n 2, 1), (526, .invokevirtual 60, 3), (529, .if_icmp .eq 772, 3), (532, .iconst 0, 1), (533, .ireturn, 1), (534, .aload_n 1, 1), (535, .aload_n 0, 1), (536, .iload_n 3, 1), (537, .iconst 1, 1), (538, .iadd, 1), (539, .iaload, 1), (540, .invokevirtual 61, 3), (543, .aload_n 2, 1), (544, .aload_n 0, 1), (545, .iload_n 3, 1), (546, .iconst 1, 1), (547, .iadd, 1), (548, .iaload, 1), (549, .invokevirtual 64, 3), (552, .if_icmp .eq 749, 3), (555, .iconst 0, 1), (556, .ireturn, 1), (557, .aload_n 1, 1), (558, .aload_n 0, 1), (559, .iload_n 3, 1)]
def tbL_10 : List (Nat × Instr × Nat) := [(560, .iconst 1, 1), (561, .iadd, 1), (562, .iaload, 1), (563, .invokevirtual 65, 3), (566, .aload_n 2, 1), (567, .aload_n 0, 1), (568, .iload_n 3, 1), (569, .iconst 1, 1), (570, .iadd, 1), (571, .iaload, 1), (572, .invokevirtual 68, 3), (575, .if_icmp .eq 726, 3), (578, .iconst 0, 1), (579, .ireturn, 1), (580, .aload_n 1, 1), (581, .aload_n 0, 1), (582, .iload_n 3, 1), (583, .iconst 1, 1), (584, .iadd, 1), (585, .iaload, 1), (586, .aload_n 0, 1), (587, .iload_n 3, 1), (588, .iconst 2, 1), (589, .iadd, 1), (590, .iaload, 1), (591, .invokevirtual 69, 3), (594, .aload_n 2, 1), (595, .aload_n 0, 1), (596, .iload_n 3, 1), (597, .iconst 1, 1), (598, .iadd, 1), (599, .iaload, 1)]
def tbL_11 : List (Nat × Instr × Nat) := [(600, .aload_n 0, 1), (601, .iload_n 3, 1), (602, .iconst 2, 1), (603, .iadd, 1), (604, .iaload, 1), (605, .invokevirtual 73, 3), (608, .if_icmp .eq 693, 3), (611, .iconst 0, 1), (612, .ireturn, 1), (613, .aload_n 1, 1), (614, .aload_n 0, 1), (615, .iload_n 3, 1), (616, .iconst 1, 1), (617, .iadd, 1), (618, .iaload, 1), (619, .aload_n 0, 1), (620, .iload_n 3, 1), (621, .iconst 2, 1), (622, .iadd, 1), (623, .iaload, 1), (624, .invokevirtual 74, 3), (627, .aload_n 2, 1), (628, .aload_n 0, 1), (629, .iload_n 3, 1), (630, .iconst 1, 1), (631, .iadd, 1), (632, .iaload, 1), (633, .aload_n 0, 1), (634, .iload_n 3, 1), (635, .iconst 2, 1), (636, .iadd, 1), (637, .iaload, 1)]
def tbL_12 : List (Nat × Instr × Nat) := [(638, .invokevirtual 77, 3), (641, .if_icmp .eq 660, 3), (644, .iconst 0, 1), (645, .ireturn, 1), (646, .aload_n 1, 1), (647, .aload_n 0, 1), (648, .iload_n 3, 1), (649, .iconst 1, 1), (650, .iadd, 1), (651, .iaload, 1), (652, .aload_n 0, 1), (653, .iload_n 3, 1), (654, .iconst 2, 1), (655, .iadd, 1), (656, .iaload, 1), (657, .invokevirtual 78, 3), (660, .aload_n 2, 1), (661, .aload_n 0, 1), (662, .iload_n 3, 1), (663, .iconst 1, 1), (664, .iadd, 1), (665, .iaload, 1), (666, .aload_n 0, 1), (667, .iload_n 3, 1), (668, .iconst 2, 1), (669, .iadd, 1), (670, .iaload, 1), (671, .invokevirtual 81, 3), (674, .if_icmp .eq 627, 3), (677, .iconst 0, 1), (678, .ireturn, 1), (679, .aload_n 1, 1)]
def tbL_13 : List (Nat × Instr × Nat) := [(680, .aload_n 0, 1), (681, .iload_n 3, 1), (682, .iconst 1, 1), (683, .iadd, 1), (684, .iaload, 1), (685, .aload_n 0, 1), (686, .iload_n 3, 1), (687, .iconst 2, 1), (688, .iadd, 1), (689, .iaload, 1), (690, .aload_n 0, 1), (691, .iload_n 3, 1), (692, .iconst 3, 1), (693, .iadd, 1), (694, .iaload, 1), (695, .aload_n 0, 1), (696, .iload_n 3, 1), (697, .iconst 4, 1), (698, .iadd, 1), (699, .iaload, 1), (700, .invokevirtual 82, 3), (703, .aload_n 2, 1), (704, .aload_n 0, 1), (705, .iload_n 3, 1), (706, .iconst 1, 1), (707, .iadd, 1), (708, .iaload, 1), (709, .aload_n 0, 1), (710, .iload_n 3, 1), (711, .iconst 2, 1), (712, .iadd, 1), (713, .iaload, 1)]
def tbL_14 : List (Nat × Instr × Nat) := [(714, .aload_n 0, 1), (715, .iload_n 3, 1), (716, .iconst 3, 1), (717, .iadd, 1), (718, .iaload, 1), (719, .aload_n 0, 1), (720, .iload_n 3, 1), (721, .iconst 4, 1), (722, .iadd, 1), (723, .iaload, 1), (724, .invokevirtual 86, 3), (727, .if_icmp .eq 574, 3), (730, .iconst 0, 1), (731, .ireturn, 1), (732, .aload_n 1, 1), (733, .aload_n 0, 1), (734, .iload_n 3, 1), (735, .iconst 1, 1), (736, .iadd, 1), (737, .iaload, 1), (738, .aload_n 0, 1), (739, .iload_n 3, 1), (740, .iconst 2, 1), (741, .iadd, 1), (742, .iaload, 1), (743, .invokevirtual 87, 3), (746, .aload_n 2, 1), (747, .aload_n 0, 1), (748, .iload_n 3, 1), (749, .iconst 1, 1), (750, .iadd, 1), (751, .iaload, 1)]
def tbL_15 : List (Nat × Instr × Nat) := [(752, .aload_n 0, 1), (753, .iload_n 3, 1), (754, .iconst 2, 1), (755, .iadd, 1), (756, .iaload, 1), (757, .invokevirtual 90, 3), (760, .if_icmp .eq 541, 3), (763, .iconst 0, 1), (764, .ireturn, 1), (765, .aload_n 1, 1), (766, .aload_n 0, 1), (767, .iload_n 3, 1), (768, .iconst 1, 1), (769, .iadd, 1), (770, .iaload, 1), (771, .aload_n 0, 1), (772, .iload_n 3, 1), (773, .iconst 2, 1), (774, .iadd, 1), (775, .iaload, 1), (776, .aload_n 0, 1), (777, .iload_n 3, 1), (778, .iconst 3, 1), (779, .iadd, 1), (780, .iaload, 1), (781, .invokevirtual 91, 3), (784, .aload_n 2, 1), (785, .aload_n 0, 1), (786, .iload_n 3, 1), (787, .iconst 1, 1), (788, .iadd, 1), (789, .iaload, 1)]
def tbL_16 : List (Nat × Instr × Nat) := [(790, .aload_n 0, 1), (791, .iload_n 3, 1), (792, .iconst 2, 1), (793, .iadd, 1), (794, .iaload, 1), (795, .aload_n 0, 1), (796, .iload_n 3, 1), (797, .iconst 3, 1), (798, .iadd, 1), (799, .iaload, 1), (800, .invokevirtual 94, 3), (803, .if_icmp .eq 498, 3), (806, .iconst 0, 1), (807, .ireturn, 1), (808, .aload_n 1, 1), (809, .aload_n 0, 1), (810, .iload_n 3, 1), (811, .iconst 1, 1), (812, .iadd, 1), (813, .iaload, 1), (814, .aload_n 0, 1), (815, .iload_n 3, 1), (816, .iconst 2, 1), (817, .iadd, 1), (818, .iaload, 1), (819, .invokevirtual 95, 3), (822, .aload_n 2, 1), (823, .aload_n 0, 1), (824, .iload_n 3, 1), (825, .iconst 1, 1), (826, .iadd, 1), (827, .iaload, 1)]
def tbL_17 : List (Nat × Instr × Nat) := [(828, .aload_n 0, 1), (829, .iload_n 3, 1), (830, .iconst 2, 1), (831, .iadd, 1), (832, .iaload, 1), (833, .invokevirtual 98, 3), (836, .if_icmp .eq 465, 3), (839, .iconst 0, 1), (840, .ireturn, 1), (841, .aload_n 1, 1), (842, .aload_n 0, 1), (843, .iload_n 3, 1), (844, .iconst 1, 1), (845, .iadd, 1), (846, .iaload, 1), (847, .aload_n 0, 1), (848, .iload_n 3, 1), (849, .iconst 2, 1), (850, .iadd, 1), (851, .iaload, 1), (852, .invokevirtual 99, 3), (855, .aload_n 2, 1), (856, .aload_n 0, 1), (857, .iload_n 3, 1), (858, .iconst 1, 1), (859, .iadd, 1), (860, .iaload, 1), (861, .aload_n 0, 1), (862, .iload_n 3, 1), (863, .iconst 2, 1), (864, .iadd, 1), (865, .iaload, 1)]
def tbL_18 : List (Nat × Instr × Nat) := [(866, .invokevirtual 102, 3), (869, .if_icmp .eq 432, 3), (872, .iconst 0, 1), (873, .ireturn, 1), (874, .aload_n 1, 1), (875, .aload_n 0, 1), (876, .iload_n 3, 1), (877, .iconst 1, 1), (878, .iadd, 1), (879, .iaload, 1), (880, .aload_n 0, 1), (881, .iload_n 3, 1), (882, .iconst 2, 1), (883, .iadd, 1), (884, .iaload, 1), (885, .invokevirtual 103, 3), (888, .aload_n 2, 1), (889, .aload_n 0, 1), (890, .iload_n 3, 1), (891, .iconst 1, 1), (892, .iadd, 1), (893, .iaload, 1), (894, .aload_n 0, 1), (895, .iload_n 3, 1), (896, .iconst 2, 1), (897, .iadd, 1), (898, .iaload, 1), (899, .invokevirtual 106, 3), (902, .if_icmp .eq 399, 3), (905, .iconst 0, 1), (906, .ireturn, 1), (907, .aload_n 1, 1)]
def tbL_19 : List (Nat × Instr × Nat) := [(908, .aload_n 0, 1), (909, .iload_n 3, 1), (910, .iconst 1, 1), (911, .iadd, 1), (912, .iaload, 1), (913, .aload_n 0, 1), (914, .iload_n 3, 1), (915, .iconst 2, 1), (916, .iadd, 1), (917, .iaload, 1), (918, .invokevirtual 107, 3), (921, .aload_n 2, 1), (922, .aload_n 0, 1), (923, .iload_n 3, 1), (924, .iconst 1, 1), (925, .iadd, 1), (926, .iaload, 1), (927, .aload_n 0, 1), (928, .iload_n 3, 1), (929, .iconst 2, 1), (930, .iadd, 1), (931, .iaload, 1), (932, .invokevirtual 111, 3), (935, .lcmp, 1), (936, .ifCond .eq 365, 3), (939, .iconst 0, 1), (940, .ireturn, 1), (941, .aload_n 1, 1), (942, .aload_n 0, 1), (943, .iload_n 3, 1), (944, .iconst 1, 1), (945, .iadd, 1)]
def tbL_20 : List (Nat × Instr × Nat) := [(946, .iaload, 1), (947, .aload_n 0, 1), (948, .iload_n 3, 1), (949, .iconst 2, 1), (950, .iadd, 1), (951, .iaload, 1), (952, .invokevirtual 112, 3), (955, .aload_n 2, 1), (956, .aload_n 0, 1), (957, .iload_n 3, 1), (958, .iconst 1, 1), (959, .iadd, 1), (960, .iaload, 1), (961, .aload_n 0, 1), (962, .iload_n 3, 1), (963, .iconst 2, 1), (964, .iadd, 1), (965, .iaload, 1), (966, .invokevirtual 115, 3), (969, .lcmp, 1), (970, .ifCond .eq 331, 3), (973, .iconst 0, 1), (974, .ireturn, 1), (975, .aload_n 1, 1), (976, .invokevirtual 116, 3), (979, .aload_n 2, 1), (980, .invokevirtual 119, 3), (983, .if_icmp .eq 318, 3), (986, .iconst 0, 1), (987, .ireturn, 1), (988, .aload_n 1, 1), (989, .aload_n 0, 1)]
def tbL_21 : List (Nat × Instr × Nat) := [(990, .iload_n 3, 1), (991, .iconst 1, 1), (992, .iadd, 1), (993, .iaload, 1), (994, .aload_n 0, 1), (995, .iload_n 3, 1), (996, .iconst 2, 1), (997, .iadd, 1), (998, .iaload, 1), (999, .aload_n 0, 1), (1000, .iload_n 3, 1), (1001, .iconst 3, 1), (1002, .iadd, 1), (1003, .iaload, 1), (1004, .invokevirtual 120, 3), (1007, .aload_n 2, 1), (1008, .aload_n 0, 1), (1009, .iload_n 3, 1), (1010, .iconst 1, 1), (1011, .iadd, 1), (1012, .iaload, 1), (1013, .aload_n 0, 1), (1014, .iload_n 3, 1), (1015, .iconst 2, 1), (1016, .iadd, 1), (1017, .iaload, 1), (1018, .aload_n 0, 1), (1019, .iload_n 3, 1), (1020, .iconst 3, 1), (1021, .iadd, 1), (1022, .iaload, 1), (1023, .invokevirtual 123, 3)]
def tbL_22 : List (Nat × Instr × Nat) := [(1026, .if_icmp .eq 275, 3), (1029, .iconst 0, 1), (1030, .ireturn, 1), (1031, .aload_n 1, 1), (1032, .aload_n 0, 1), (1033, .iload_n 3, 1), (1034, .iconst 1, 1), (1035, .iadd, 1), (1036, .iaload, 1), (1037, .aload_n 0, 1), (1038, .iload_n 3, 1), (1039, .iconst 2, 1), (1040, .iadd, 1), (1041, .iaload, 1), (1042, .invokevirtual 124, 3), (1045, .aload_n 2, 1), (1046, .aload_n 0, 1), (1047, .iload_n 3, 1), (1048, .iconst 1, 1), (1049, .iadd, 1), (1050, .iaload, 1), (1051, .aload_n 0, 1), (1052, .iload_n 3, 1), (1053, .iconst 2, 1), (1054, .iadd, 1), (1055, .iaload, 1), (1056, .invokevirtual 127, 3), (1059, .if_icmp .eq 242, 3), (1062, .iconst 0, 1), (1063, .ireturn, 1), (1064, .aload_n 1, 1), (1065, .aload_n 0, 1)]
def tbL_23 : List (Nat × Instr × Nat) := [(1066, .iload_n 3, 1), (1067, .iconst 1, 1), (1068, .iadd, 1), (1069, .iaload, 1), (1070, .aload_n 0, 1), (1071, .iload_n 3, 1), (1072, .iconst 2, 1), (1073, .iadd, 1), (1074, .iaload, 1), (1075, .invokevirtual 128, 3), (1078, .aload_n 2, 1), (1079, .aload_n 0, 1), (1080, .iload_n 3, 1), (1081, .iconst 1, 1), (1082, .iadd, 1), (1083, .iaload, 1), (1084, .aload_n 0, 1), (1085, .iload_n 3, 1), (1086, .iconst 2, 1), (1087, .iadd, 1), (1088, .iaload, 1), (1089, .invokevirtual 131, 3), (1092, .if_icmp .eq 209, 3), (1095, .iconst 0, 1), (1096, .ireturn, 1), (1097, .aload_n 1, 1), (1098, .aload_n 0, 1), (1099, .iload_n 3, 1), (1100, .iconst 1, 1), (1101, .iadd, 1), (1102, .iaload, 1), (1103, .invokevirtual 132, 3)]
def tbL_24 : List (Nat × Instr × Nat) := [(1106, .aload_n 2, 1), (1107, .aload_n 0, 1), (1108, .iload_n 3, 1), (1109, .iconst 1, 1), (1110, .iadd, 1), (1111, .iaload, 1), (1112, .invokevirtual 135, 3), (1115, .if_icmp .eq 186, 3), (1118, .iconst 0, 1), (1119, .ireturn, 1), (1120, .aload_n 1, 1), (1121, .aload_n 0, 1), (1122, .iload_n 3, 1), (1123, .iconst 1, 1), (1124, .iadd, 1), (1125, .iaload, 1), (1126, .aload_n 0, 1), (1127, .iload_n 3, 1), (1128, .iconst 2, 1), (1129, .iadd, 1), (1130, .iaload, 1), (1131, .invokevirtual 136, 3), (1134, .aload_n 2, 1), (1135, .aload_n 0, 1), (1136, .iload_n 3, 1), (1137, .iconst 1, 1), (1138, .iadd, 1), (1139, .iaload, 1), (1140, .aload_n 0, 1), (1141, .iload_n 3, 1), (1142, .iconst 2, 1), (1143, .iadd, 1)]
def tbL_25 : List (Nat × Instr × Nat) := [(1144, .iaload, 1), (1145, .invokevirtual 139, 3), (1148, .if_icmp .eq 153, 3), (1151, .iconst 0, 1), (1152, .ireturn, 1), (1153, .aload_n 1, 1), (1154, .aload_n 0, 1), (1155, .iload_n 3, 1), (1156, .iconst 1, 1), (1157, .iadd, 1), (1158, .iaload, 1), (1159, .aload_n 0, 1), (1160, .iload_n 3, 1), (1161, .iconst 2, 1), (1162, .iadd, 1), (1163, .iaload, 1), (1164, .invokevirtual 140, 3), (1167, .aload_n 2, 1), (1168, .aload_n 0, 1), (1169, .iload_n 3, 1), (1170, .iconst 1, 1), (1171, .iadd, 1), (1172, .iaload, 1), (1173, .aload_n 0, 1), (1174, .iload_n 3, 1), (1175, .iconst 2, 1), (1176, .iadd, 1), (1177, .iaload, 1), (1178, .invokevirtual 143, 3), (1181, .if_icmp .eq 120, 3), (1184, .iconst 0, 1), (1185, .ireturn, 1)]
def tbL_26 : List (Nat × Instr × Nat) := [(1186, .aload_n 1, 1), (1187, .aload_n 0, 1), (1188, .iload_n 3, 1), (1189, .iconst 1, 1), (1190, .iadd, 1), (1191, .iaload, 1), (1192, .aload_n 0, 1), (1193, .iload_n 3, 1), (1194, .iconst 2, 1), (1195, .iadd, 1), (1196, .iaload, 1), (1197, .invokevirtual 144, 3), (1200, .aload_n 2, 1), (1201, .aload_n 0, 1), (1202, .iload_n 3, 1), (1203, .iconst 1, 1), (1204, .iadd, 1), (1205, .iaload, 1), (1206, .aload_n 0, 1), (1207, .iload_n 3, 1), (1208, .iconst 2, 1), (1209, .iadd, 1), (1210, .iaload, 1), (1211, .invokevirtual 147, 3), (1214, .if_icmp .eq 87, 3), (1217, .iconst 0, 1), (1218, .ireturn, 1), (1219, .aload_n 1, 1), (1220, .aload_n 0, 1), (1221, .iload_n 3, 1), (1222, .iconst 1, 1), (1223, .iadd, 1)]
def tbL_27 : List (Nat × Instr × Nat) := [(1224, .iaload, 1), (1225, .invokevirtual 148, 3), (1228, .aload_n 2, 1), (1229, .aload_n 0, 1), (1230, .iload_n 3, 1), (1231, .iconst 1, 1), (1232, .iadd, 1), (1233, .iaload, 1), (1234, .invokevirtual 151, 3), (1237, .if_icmp .eq 64, 3), (1240, .iconst 0, 1), (1241, .ireturn, 1), (1242, .aload_n 1, 1), (1243, .invokevirtual 152, 3), (1246, .aload_n 2, 1), (1247, .invokevirtual 155, 3), (1250, .if_icmp .eq 51, 3), (1253, .iconst 0, 1), (1254, .ireturn, 1), (1255, .aload_n 1, 1), (1256, .aload_n 0, 1), (1257, .iload_n 3, 1), (1258, .iconst 1, 1), (1259, .iadd, 1), (1260, .iaload, 1), (1261, .invokevirtual 156, 3), (1264, .aload_n 2, 1), (1265, .aload_n 0, 1), (1266, .iload_n 3, 1), (1267, .iconst 1, 1), (1268, .iadd, 1), (1269, .iaload, 1)]
def tbL_28 : List (Nat × Instr × Nat) := [(1270, .invokevirtual 159, 3), (1273, .if_icmp .eq 28, 3), (1276, .iconst 0, 1), (1277, .ireturn, 1), (1278, .aload_n 1, 1), (1279, .aload_n 0, 1), (1280, .iload_n 3, 1), (1281, .iconst 1, 1), (1282, .iadd, 1), (1283, .iaload, 1), (1284, .invokevirtual 160, 3), (1287, .aload_n 2, 1), (1288, .aload_n 0, 1), (1289, .iload_n 3, 1), (1290, .iconst 1, 1), (1291, .iadd, 1), (1292, .iaload, 1), (1293, .invokevirtual 163, 3), (1296, .if_icmp .eq 5, 3), (1299, .iconst 0, 1), (1300, .ireturn, 1), (1301, .iinc 3 6, 3), (1304, .goto (-1286), 3), (1307, .iconst 1, 1), (1308, .ireturn, 1)]
theorem tdL_0 : hx_dt cL_law tbL_0 = true := by decide +kernel
theorem tdL_1 : hx_dt cL_law tbL_1 = true := by decide +kernel
theorem tdL_2 : hx_dt cL_law tbL_2 = true := by decide +kernel
theorem tdL_3 : hx_dt cL_law tbL_3 = true := by decide +kernel
theorem tdL_4 : hx_dt cL_law tbL_4 = true := by decide +kernel
theorem tdL_5 : hx_dt cL_law tbL_5 = true := by decide +kernel
theorem tdL_6 : hx_dt cL_law tbL_6 = true := by decide +kernel
theorem tdL_7 : hx_dt cL_law tbL_7 = true := by decide +kernel
theorem tdL_8 : hx_dt cL_law tbL_8 = true := by decide +kernel
theorem tdL_9 : hx_dt cL_law tbL_9 = true := by decide +kernel
theorem tdL_10 : hx_dt cL_law tbL_10 = true := by decide +kernel
theorem tdL_11 : hx_dt cL_law tbL_11 = true := by decide +kernel
theorem tdL_12 : hx_dt cL_law tbL_12 = true := by decide +kernel
theorem tdL_13 : hx_dt cL_law tbL_13 = true := by decide +kernel
theorem tdL_14 : hx_dt cL_law tbL_14 = true := by decide +kernel
theorem tdL_15 : hx_dt cL_law tbL_15 = true := by decide +kernel
theorem tdL_16 : hx_dt cL_law tbL_16 = true := by decide +kernel
theorem tdL_17 : hx_dt cL_law tbL_17 = true := by decide +kernel
theorem tdL_18 : hx_dt cL_law tbL_18 = true := by decide +kernel
theorem tdL_19 : hx_dt cL_law tbL_19 = true := by decide +kernel
theorem tdL_20 : hx_dt cL_law tbL_20 = true := by decide +kernel
theorem tdL_21 : hx_dt cL_law tbL_21 = true := by decide +kernel
theorem tdL_22 : hx_dt cL_law tbL_22 = true := by decide +kernel
theorem tdL_23 : hx_dt cL_law tbL_23 = true := by decide +kernel
theorem tdL_24 : hx_dt cL_law tbL_24 = true := by decide +kernel
theorem tdL_25 : hx_dt cL_law tbL_25 = true := by decide +kernel
theorem tdL_26 : hx_dt cL_law tbL_26 = true := by decide +kernel
theorem tdL_27 : hx_dt cL_law tbL_27 = true := by decide +kernel
theorem tdL_28 : hx_dt cL_law tbL_28 = true := by decide +kernel
def TbL : hx_T := ([], [], [], [])
theorem tokL : hx_tok RL TbL := ⟨fun _ h => absurd h List.not_mem_nil, fun _ h => absurd h List.not_mem_nil, fun _ h => absurd h List.not_mem_nil, fun _ h => absurd h List.not_mem_nil⟩
theorem hx_cmp0 (x : Int64) : lg_cmp x x = 0 := by simp [lg_cmp]
theorem cl_bool {cc : ByteArray} {nL mc ms : Nat} {ret : Option FieldType} {T : hx_T} {K : hx_KT} {G : hx_GT} (hG : hx_K cc nL mc ms ret T K G) {x : Int32} {off off2 : Int} {pc : Nat} {Λ : hx_L} {μ : hx_M} {u : Nat × Nat} {lv : hx_V} {st : List Value} (d1 : decode cc pc = .ok (.ifCond .eq off, 3)) (d2 : decode cc (pc + 3) = .ok (.iconst 1, 1)) (d3 : decode cc (pc + 4) = .ok (.goto off2, 3)) (d4 : decode cc (pc + 7) = .ok (.iconst 0, 1)) (h1 : (pc : Int) + off = ((pc + 7 : Nat) : Int)) (h2 : ((pc + 4 : Nat) : Int) + off2 = ((pc + 8 : Nat) : Int)) (k : G Λ μ u (pc + 8) lv (.int (if x = 0 then 0 else 1) :: st)) : G Λ μ u pc lv (.int x :: st) := by
  refine cl_if_eq hG (pc + 7) d1 h1 (fun c => ?_) (fun c => ?_)
  · rw [if_pos c] at k
    exact cl_iconst hG 0 d4 iconst_0 k
  · rw [if_neg c] at k
    exact cl_iconst hG 1 d2 iconst_1 (cl_goto hG (pc + 8) d3 h2 k)
theorem caL_13 {G : hx_GT} (cA : hx_CA RL cL_law 2048 600000 7302250 G) : hx_CV cL_law G 600000 7302250 13 11 3 sX11_person 0 0 := cA.1 conX11_person rfl rfl ⟨by decide +kernel, by decide +kernel, by decide +kernel⟩ mw_473 mw_474 mw_475 mw_84 mw_476 (by decide) (by decide)
theorem caL_17 {G : hx_GT} (cA : hx_CA RL cL_law 2048 600000 7302250 G) : hx_CV cL_law G 600000 7302250 17 12 3 sX12_person 0 0 := cA.1 conX12_person rfl rfl ⟨by decide +kernel, by decide +kernel, by decide +kernel⟩ mw_1339 mw_1340 mw_1341 mw_97 mw_1342 (by decide) (by decide)
theorem caL_18 {G : hx_GT} (cA : hx_CA RL cL_law 2048 600000 7302250 G) : hx_CV cL_law G 600000 7302250 18 11 3 sX11_sees 0 0 := cA.1 conX11_sees rfl rfl ⟨by decide +kernel, by decide +kernel, by decide +kernel⟩ mw_484 mw_485 mw_486 mw_84 mw_487 (by decide) (by decide)
theorem caL_22 {G : hx_GT} (cA : hx_CA RL cL_law 2048 600000 7302250 G) : hx_CV cL_law G 600000 7302250 22 12 3 sX12_sees 0 0 := cA.1 conX12_sees rfl rfl ⟨by decide +kernel, by decide +kernel, by decide +kernel⟩ mw_1346 mw_1347 mw_1348 mw_97 mw_1349 (by decide) (by decide)
theorem caL_23 {G : hx_GT} (cA : hx_CA RL cL_law 2048 600000 7302250 G) : hx_CV cL_law G 600000 7302250 23 11 2 sX11_shows 0 0 := cA.1 conX11_shows rfl rfl ⟨by decide +kernel, by decide +kernel, by decide +kernel⟩ mw_493 mw_494 mw_495 mw_84 mw_496 (by decide) (by decide)
theorem caL_27 {G : hx_GT} (cA : hx_CA RL cL_law 2048 600000 7302250 G) : hx_CV cL_law G 600000 7302250 27 12 2 sX12_shows 0 0 := cA.1 conX12_shows rfl rfl ⟨by decide +kernel, by decide +kernel, by decide +kernel⟩ mw_1354 mw_1355 mw_1356 mw_97 mw_1357 (by decide) (by decide)
theorem caL_28 {G : hx_GT} (cA : hx_CA RL cL_law 2048 600000 7302250 G) : hx_CV cL_law G 600000 7302250 28 11 1 sX11_money 0 0 := cA.1 conX11_money rfl rfl ⟨by decide +kernel, by decide +kernel, by decide +kernel⟩ mw_500 mw_501 mw_502 mw_84 mw_503 (by decide) (by decide)
theorem caL_32 {G : hx_GT} (cA : hx_CA RL cL_law 2048 600000 7302250 G) : hx_CV cL_law G 600000 7302250 32 12 1 sX12_money 0 0 := cA.1 conX12_money rfl rfl ⟨by decide +kernel, by decide +kernel, by decide +kernel⟩ mw_1358 mw_1359 mw_1360 mw_97 mw_1361 (by decide) (by decide)
theorem caL_33 {G : hx_GT} (cA : hx_CA RL cL_law 2048 600000 7302250 G) : hx_CV cL_law G 600000 7302250 33 11 3 sX11_set 0 0 := cA.1 conX11_set rfl rfl ⟨by decide +kernel, by decide +kernel, by decide +kernel⟩ mw_504 mw_505 mw_506 mw_84 mw_507 (by decide) (by decide)
theorem caL_37 {G : hx_GT} (cA : hx_CA RL cL_law 2048 600000 7302250 G) : hx_CV cL_law G 600000 7302250 37 12 3 sX12_set 0 0 := cA.1 conX12_set rfl rfl ⟨by decide +kernel, by decide +kernel, by decide +kernel⟩ mw_1362 mw_1363 mw_1364 mw_97 mw_1365 (by decide) (by decide)
theorem caL_38 {G : hx_GT} (cA : hx_CA RL cL_law 2048 600000 7302250 G) : hx_CV cL_law G 600000 7302250 38 11 1 sX11_seed 0 0 := cA.1 conX11_seed rfl rfl ⟨by decide +kernel, by decide +kernel, by decide +kernel⟩ mw_508 mw_509 mw_510 mw_84 mw_511 (by decide) (by decide)
theorem caL_41 {G : hx_GT} (cA : hx_CA RL cL_law 2048 600000 7302250 G) : hx_CV cL_law G 600000 7302250 41 12 1 sX12_seed 0 0 := cA.1 conX12_seed rfl rfl ⟨by decide +kernel, by decide +kernel, by decide +kernel⟩ mw_1366 mw_1367 mw_1368 mw_97 mw_1369 (by decide) (by decide)
theorem caL_42 {G : hx_GT} (cA : hx_CA RL cL_law 2048 600000 7302250 G) : hx_CV cL_law G 600000 7302250 42 11 5 sX11_feed 0 0 := cA.1 conX11_feed rfl rfl ⟨by decide +kernel, by decide +kernel, by decide +kernel⟩ mw_513 mw_514 mw_515 mw_84 mw_516 (by decide) (by decide)
theorem caL_46 {G : hx_GT} (cA : hx_CA RL cL_law 2048 600000 7302250 G) : hx_CV cL_law G 600000 7302250 46 12 5 sX12_feed 0 0 := cA.1 conX12_feed rfl rfl ⟨by decide +kernel, by decide +kernel, by decide +kernel⟩ mw_1371 mw_1372 mw_1373 mw_97 mw_1374 (by decide) (by decide)
theorem caL_47 {G : hx_GT} (cA : hx_CA RL cL_law 2048 600000 7302250 G) : hx_CV cL_law G 600000 7302250 47 11 1 sX11_law 2 702 := cA.1 conX11_law rfl rfl ⟨by decide +kernel, by decide +kernel, by decide +kernel⟩ mw_521 mw_522 mw_523 mw_84 mw_524 (by decide) (by decide)
theorem caL_51 {G : hx_GT} (cA : hx_CA RL cL_law 2048 600000 7302250 G) : hx_CV cL_law G 600000 7302250 51 12 1 sX12_law 0 0 := cA.1 conX12_law rfl rfl ⟨by decide +kernel, by decide +kernel, by decide +kernel⟩ mw_1379 mw_1380 mw_1381 mw_97 mw_1382 (by decide) (by decide)
theorem caL_52 {G : hx_GT} (cA : hx_CA RL cL_law 2048 600000 7302250 G) : hx_CV cL_law G 600000 7302250 52 11 1 sX11_force 0 0 := cA.1 conX11_force rfl rfl ⟨by decide +kernel, by decide +kernel, by decide +kernel⟩ mw_675 mw_676 mw_677 mw_84 mw_678 (by decide) (by decide)
theorem caL_55 {G : hx_GT} (cA : hx_CA RL cL_law 2048 600000 7302250 G) : hx_CV cL_law G 600000 7302250 55 12 1 sX12_force 0 0 := cA.1 conX12_force rfl rfl ⟨by decide +kernel, by decide +kernel, by decide +kernel⟩ mw_1458 mw_1459 mw_1460 mw_97 mw_1461 (by decide) (by decide)
theorem caL_56 {G : hx_GT} (cA : hx_CA RL cL_law 2048 600000 7302250 G) : hx_CV cL_law G 600000 7302250 56 11 0 sX11_fault 0 0 := cA.1 conX11_fault rfl rfl ⟨by decide +kernel, by decide +kernel, by decide +kernel⟩ mw_679 mw_680 mw_681 mw_84 mw_682 (by decide) (by decide)
theorem caL_60 {G : hx_GT} (cA : hx_CA RL cL_law 2048 600000 7302250 G) : hx_CV cL_law G 600000 7302250 60 12 0 sX12_fault 0 0 := cA.1 conX12_fault rfl rfl ⟨by decide +kernel, by decide +kernel, by decide +kernel⟩ mw_1462 mw_1463 mw_1464 mw_97 mw_1465 (by decide) (by decide)
theorem caL_61 {G : hx_GT} (cA : hx_CA RL cL_law 2048 600000 7302250 G) : hx_CV cL_law G 600000 7302250 61 11 1 sX11_run 0 0 := cA.1 conX11_run rfl rfl ⟨by decide +kernel, by decide +kernel, by decide +kernel⟩ mw_683 mw_684 mw_685 mw_84 mw_686 (by decide) (by decide)
theorem caL_64 {G : hx_GT} (cA : hx_CA RL cL_law 2048 600000 7302250 G) : hx_CV cL_law G 600000 7302250 64 12 1 sX12_run 0 0 := cA.1 conX12_run rfl rfl ⟨by decide +kernel, by decide +kernel, by decide +kernel⟩ mw_1466 mw_1467 mw_1468 mw_97 mw_1469 (by decide) (by decide)
theorem caL_65 {G : hx_GT} (cA : hx_CA RL cL_law 2048 600000 7302250 G) : hx_CV cL_law G 600000 7302250 65 11 1 sX11_line 0 0 := cA.1 conX11_line rfl rfl ⟨by decide +kernel, by decide +kernel, by decide +kernel⟩ mw_782 mw_783 mw_784 mw_84 mw_785 (by decide) (by decide)
theorem caL_68 {G : hx_GT} (cA : hx_CA RL cL_law 2048 600000 7302250 G) : hx_CV cL_law G 600000 7302250 68 12 1 sX12_line 0 0 := cA.1 conX12_line rfl rfl ⟨by decide +kernel, by decide +kernel, by decide +kernel⟩ mw_1527 mw_1528 mw_1529 mw_97 mw_1530 (by decide) (by decide)
theorem caL_69 {G : hx_GT} (cA : hx_CA RL cL_law 2048 600000 7302250 G) : hx_CV cL_law G 600000 7302250 69 11 2 sX11_length 0 0 := cA.1 conX11_length rfl rfl ⟨by decide +kernel, by decide +kernel, by decide +kernel⟩ mw_795 mw_796 mw_797 mw_84 mw_798 (by decide) (by decide)
theorem caL_73 {G : hx_GT} (cA : hx_CA RL cL_law 2048 600000 7302250 G) : hx_CV cL_law G 600000 7302250 73 12 2 sX12_length 0 0 := cA.1 conX12_length rfl rfl ⟨by decide +kernel, by decide +kernel, by decide +kernel⟩ mw_1539 mw_1540 mw_1541 mw_97 mw_1542 (by decide) (by decide)
theorem caL_74 {G : hx_GT} (cA : hx_CA RL cL_law 2048 600000 7302250 G) : hx_CV cL_law G 600000 7302250 74 11 2 sX11_wears 0 0 := cA.1 conX11_wears rfl rfl ⟨by decide +kernel, by decide +kernel, by decide +kernel⟩ mw_800 mw_801 mw_802 mw_84 mw_803 (by decide) (by decide)
theorem caL_77 {G : hx_GT} (cA : hx_CA RL cL_law 2048 600000 7302250 G) : hx_CV cL_law G 600000 7302250 77 12 2 sX12_wears 0 0 := cA.1 conX12_wears rfl rfl ⟨by decide +kernel, by decide +kernel, by decide +kernel⟩ mw_1543 mw_1544 mw_1545 mw_97 mw_1546 (by decide) (by decide)
theorem caL_78 {G : hx_GT} (cA : hx_CA RL cL_law 2048 600000 7302250 G) : hx_CV cL_law G 600000 7302250 78 11 2 sX11_round 0 0 := cA.1 conX11_round rfl rfl ⟨by decide +kernel, by decide +kernel, by decide +kernel⟩ mw_808 mw_809 mw_810 mw_84 mw_811 (by decide) (by decide)
theorem caL_81 {G : hx_GT} (cA : hx_CA RL cL_law 2048 600000 7302250 G) : hx_CV cL_law G 600000 7302250 81 12 2 sX12_round 0 0 := cA.1 conX12_round rfl rfl ⟨by decide +kernel, by decide +kernel, by decide +kernel⟩ mw_1551 mw_1552 mw_1553 mw_97 mw_1554 (by decide) (by decide)
theorem caL_82 {G : hx_GT} (cA : hx_CA RL cL_law 2048 600000 7302250 G) : hx_CV cL_law G 600000 7302250 82 11 4 sX11_pushed 0 0 := cA.1 conX11_pushed rfl rfl ⟨by decide +kernel, by decide +kernel, by decide +kernel⟩ mw_836 mw_837 mw_838 mw_84 mw_839 (by decide) (by decide)
theorem caL_86 {G : hx_GT} (cA : hx_CA RL cL_law 2048 600000 7302250 G) : hx_CV cL_law G 600000 7302250 86 12 4 sX12_pushed 0 0 := cA.1 conX12_pushed rfl rfl ⟨by decide +kernel, by decide +kernel, by decide +kernel⟩ mw_1575 mw_1576 mw_1577 mw_97 mw_1578 (by decide) (by decide)
theorem caL_87 {G : hx_GT} (cA : hx_CA RL cL_law 2048 600000 7302250 G) : hx_CV cL_law G 600000 7302250 87 11 2 sX11_led 0 0 := cA.1 conX11_led rfl rfl ⟨by decide +kernel, by decide +kernel, by decide +kernel⟩ mw_840 mw_841 mw_842 mw_84 mw_843 (by decide) (by decide)
theorem caL_90 {G : hx_GT} (cA : hx_CA RL cL_law 2048 600000 7302250 G) : hx_CV cL_law G 600000 7302250 90 12 2 sX12_led 0 0 := cA.1 conX12_led rfl rfl ⟨by decide +kernel, by decide +kernel, by decide +kernel⟩ mw_1579 mw_1580 mw_1581 mw_97 mw_1582 (by decide) (by decide)
theorem caL_91 {G : hx_GT} (cA : hx_CA RL cL_law 2048 600000 7302250 G) : hx_CV cL_law G 600000 7302250 91 11 3 sX11_alone 0 0 := cA.1 conX11_alone rfl rfl ⟨by decide +kernel, by decide +kernel, by decide +kernel⟩ mw_855 mw_856 mw_857 mw_84 mw_858 (by decide) (by decide)
theorem caL_94 {G : hx_GT} (cA : hx_CA RL cL_law 2048 600000 7302250 G) : hx_CV cL_law G 600000 7302250 94 12 3 sX12_alone 0 0 := cA.1 conX12_alone rfl rfl ⟨by decide +kernel, by decide +kernel, by decide +kernel⟩ mw_1586 mw_1587 mw_1588 mw_97 mw_1589 (by decide) (by decide)
theorem caL_95 {G : hx_GT} (cA : hx_CA RL cL_law 2048 600000 7302250 G) : hx_CV cL_law G 600000 7302250 95 11 2 sX11_like 0 0 := cA.1 conX11_like rfl rfl ⟨by decide +kernel, by decide +kernel, by decide +kernel⟩ mw_872 mw_873 mw_874 mw_84 mw_875 (by decide) (by decide)
theorem caL_98 {G : hx_GT} (cA : hx_CA RL cL_law 2048 600000 7302250 G) : hx_CV cL_law G 600000 7302250 98 12 2 sX12_like 0 0 := cA.1 conX12_like rfl rfl ⟨by decide +kernel, by decide +kernel, by decide +kernel⟩ mw_1598 mw_1599 mw_1600 mw_97 mw_1601 (by decide) (by decide)
theorem caL_99 {G : hx_GT} (cA : hx_CA RL cL_law 2048 600000 7302250 G) : hx_CV cL_law G 600000 7302250 99 11 2 sX11_street 0 0 := cA.1 conX11_street rfl rfl ⟨by decide +kernel, by decide +kernel, by decide +kernel⟩ mw_881 mw_882 mw_883 mw_84 mw_884 (by decide) (by decide)
theorem caL_102 {G : hx_GT} (cA : hx_CA RL cL_law 2048 600000 7302250 G) : hx_CV cL_law G 600000 7302250 102 12 2 sX12_street 0 0 := cA.1 conX12_street rfl rfl ⟨by decide +kernel, by decide +kernel, by decide +kernel⟩ mw_1602 mw_1603 mw_1604 mw_97 mw_1605 (by decide) (by decide)
theorem caL_103 {G : hx_GT} (cA : hx_CA RL cL_law 2048 600000 7302250 G) : hx_CV cL_law G 600000 7302250 103 11 2 sX11_followed 0 0 := cA.1 conX11_followed rfl rfl ⟨by decide +kernel, by decide +kernel, by decide +kernel⟩ mw_913 mw_914 mw_915 mw_84 mw_916 (by decide) (by decide)
theorem caL_106 {G : hx_GT} (cA : hx_CA RL cL_law 2048 600000 7302250 G) : hx_CV cL_law G 600000 7302250 106 12 2 sX12_followed 0 0 := cA.1 conX12_followed rfl rfl ⟨by decide +kernel, by decide +kernel, by decide +kernel⟩ mw_1610 mw_1611 mw_1612 mw_97 mw_1613 (by decide) (by decide)
theorem caL_107 {G : hx_GT} (cA : hx_CA RL cL_law 2048 600000 7302250 G) : hx_CV cL_law G 600000 7302250 107 11 2 sX11_luck 0 0 := cA.1 conX11_luck rfl rfl ⟨by decide +kernel, by decide +kernel, by decide +kernel⟩ mw_936 mw_937 mw_938 mw_84 mw_939 (by decide) (by decide)
theorem caL_111 {G : hx_GT} (cA : hx_CA RL cL_law 2048 600000 7302250 G) : hx_CV cL_law G 600000 7302250 111 12 2 sX12_luck 0 0 := cA.1 conX12_luck rfl rfl ⟨by decide +kernel, by decide +kernel, by decide +kernel⟩ mw_1618 mw_1619 mw_1620 mw_97 mw_1621 (by decide) (by decide)
theorem caL_112 {G : hx_GT} (cA : hx_CA RL cL_law 2048 600000 7302250 G) : hx_CV cL_law G 600000 7302250 112 11 2 sX11_claim 0 0 := cA.1 conX11_claim rfl rfl ⟨by decide +kernel, by decide +kernel, by decide +kernel⟩ mw_952 mw_953 mw_954 mw_84 mw_955 (by decide) (by decide)
theorem caL_115 {G : hx_GT} (cA : hx_CA RL cL_law 2048 600000 7302250 G) : hx_CV cL_law G 600000 7302250 115 12 2 sX12_claim 0 0 := cA.1 conX12_claim rfl rfl ⟨by decide +kernel, by decide +kernel, by decide +kernel⟩ mw_1623 mw_1624 mw_1625 mw_97 mw_1626 (by decide) (by decide)
theorem caL_116 {G : hx_GT} (cA : hx_CA RL cL_law 2048 600000 7302250 G) : hx_CV cL_law G 600000 7302250 116 11 0 sX11_best 0 0 := cA.1 conX11_best rfl rfl ⟨by decide +kernel, by decide +kernel, by decide +kernel⟩ mw_967 mw_968 mw_969 mw_84 mw_970 (by decide) (by decide)
theorem caL_119 {G : hx_GT} (cA : hx_CA RL cL_law 2048 600000 7302250 G) : hx_CV cL_law G 600000 7302250 119 12 0 sX12_best 0 0 := cA.1 conX12_best rfl rfl ⟨by decide +kernel, by decide +kernel, by decide +kernel⟩ mw_1635 mw_1636 mw_1637 mw_97 mw_1638 (by decide) (by decide)
theorem caL_120 {G : hx_GT} (cA : hx_CA RL cL_law 2048 600000 7302250 G) : hx_CV cL_law G 600000 7302250 120 11 3 sX11_plate 0 0 := cA.1 conX11_plate rfl rfl ⟨by decide +kernel, by decide +kernel, by decide +kernel⟩ mw_977 mw_978 mw_979 mw_84 mw_980 (by decide) (by decide)
theorem caL_123 {G : hx_GT} (cA : hx_CA RL cL_law 2048 600000 7302250 G) : hx_CV cL_law G 600000 7302250 123 12 3 sX12_plate 0 0 := cA.1 conX12_plate rfl rfl ⟨by decide +kernel, by decide +kernel, by decide +kernel⟩ mw_1639 mw_1640 mw_1641 mw_97 mw_1642 (by decide) (by decide)
theorem caL_124 {G : hx_GT} (cA : hx_CA RL cL_law 2048 600000 7302250 G) : hx_CV cL_law G 600000 7302250 124 11 2 sX11_off 0 0 := cA.1 conX11_off rfl rfl ⟨by decide +kernel, by decide +kernel, by decide +kernel⟩ mw_985 mw_986 mw_987 mw_84 mw_988 (by decide) (by decide)
theorem caL_127 {G : hx_GT} (cA : hx_CA RL cL_law 2048 600000 7302250 G) : hx_CV cL_law G 600000 7302250 127 12 2 sX12_off 0 0 := cA.1 conX12_off rfl rfl ⟨by decide +kernel, by decide +kernel, by decide +kernel⟩ mw_1643 mw_1644 mw_1645 mw_97 mw_1646 (by decide) (by decide)
theorem caL_128 {G : hx_GT} (cA : hx_CA RL cL_law 2048 600000 7302250 G) : hx_CV cL_law G 600000 7302250 128 11 2 sX11_again 0 0 := cA.1 conX11_again rfl rfl ⟨by decide +kernel, by decide +kernel, by decide +kernel⟩ mw_1004 mw_1005 mw_1006 mw_84 mw_1007 (by decide) (by decide)
theorem caL_131 {G : hx_GT} (cA : hx_CA RL cL_law 2048 600000 7302250 G) : hx_CV cL_law G 600000 7302250 131 12 2 sX12_again 0 0 := cA.1 conX12_again rfl rfl ⟨by decide +kernel, by decide +kernel, by decide +kernel⟩ mw_1651 mw_1652 mw_1653 mw_97 mw_1654 (by decide) (by decide)
theorem caL_132 {G : hx_GT} (cA : hx_CA RL cL_law 2048 600000 7302250 G) : hx_CV cL_law G 600000 7302250 132 11 1 sX11_foretell 0 0 := cA.1 conX11_foretell rfl rfl ⟨by decide +kernel, by decide +kernel, by decide +kernel⟩ mw_1013 mw_1014 mw_1015 mw_84 mw_1016 (by decide) (by decide)
theorem caL_135 {G : hx_GT} (cA : hx_CA RL cL_law 2048 600000 7302250 G) : hx_CV cL_law G 600000 7302250 135 12 1 sX12_foretell 0 0 := cA.1 conX12_foretell rfl rfl ⟨by decide +kernel, by decide +kernel, by decide +kernel⟩ mw_1655 mw_1656 mw_1657 mw_97 mw_1658 (by decide) (by decide)
theorem caL_136 {G : hx_GT} (cA : hx_CA RL cL_law 2048 600000 7302250 G) : hx_CV cL_law G 600000 7302250 136 11 2 sX11_held 0 0 := cA.1 conX11_held rfl rfl ⟨by decide +kernel, by decide +kernel, by decide +kernel⟩ mw_1021 mw_1022 mw_1023 mw_84 mw_1024 (by decide) (by decide)
theorem caL_139 {G : hx_GT} (cA : hx_CA RL cL_law 2048 600000 7302250 G) : hx_CV cL_law G 600000 7302250 139 12 2 sX12_held 0 0 := cA.1 conX12_held rfl rfl ⟨by decide +kernel, by decide +kernel, by decide +kernel⟩ mw_1659 mw_1660 mw_1661 mw_97 mw_1662 (by decide) (by decide)
theorem caL_140 {G : hx_GT} (cA : hx_CA RL cL_law 2048 600000 7302250 G) : hx_CV cL_law G 600000 7302250 140 11 2 sX11_behind 0 0 := cA.1 conX11_behind rfl rfl ⟨by decide +kernel, by decide +kernel, by decide +kernel⟩ mw_1026 mw_1027 mw_1028 mw_84 mw_1029 (by decide) (by decide)
theorem caL_143 {G : hx_GT} (cA : hx_CA RL cL_law 2048 600000 7302250 G) : hx_CV cL_law G 600000 7302250 143 12 2 sX12_behind 0 0 := cA.1 conX12_behind rfl rfl ⟨by decide +kernel, by decide +kernel, by decide +kernel⟩ mw_1663 mw_1664 mw_1665 mw_97 mw_1666 (by decide) (by decide)
theorem caL_144 {G : hx_GT} (cA : hx_CA RL cL_law 2048 600000 7302250 G) : hx_CV cL_law G 600000 7302250 144 11 2 sX11_shop 0 0 := cA.1 conX11_shop rfl rfl ⟨by decide +kernel, by decide +kernel, by decide +kernel⟩ mw_1034 mw_1035 mw_1036 mw_84 mw_1037 (by decide) (by decide)
theorem caL_147 {G : hx_GT} (cA : hx_CA RL cL_law 2048 600000 7302250 G) : hx_CV cL_law G 600000 7302250 147 12 2 sX12_shop 0 0 := cA.1 conX12_shop rfl rfl ⟨by decide +kernel, by decide +kernel, by decide +kernel⟩ mw_1667 mw_1668 mw_1669 mw_97 mw_1670 (by decide) (by decide)
theorem caL_148 {G : hx_GT} (cA : hx_CA RL cL_law 2048 600000 7302250 G) : hx_CV cL_law G 600000 7302250 148 11 1 sX11_read 0 0 := cA.1 conX11_read rfl rfl ⟨by decide +kernel, by decide +kernel, by decide +kernel⟩ mw_1071 mw_1072 mw_1073 mw_84 mw_1074 (by decide) (by decide)
theorem caL_151 {G : hx_GT} (cA : hx_CA RL cL_law 2048 600000 7302250 G) : hx_CV cL_law G 600000 7302250 151 12 1 sX12_read 0 0 := cA.1 conX12_read rfl rfl ⟨by decide +kernel, by decide +kernel, by decide +kernel⟩ mw_1680 mw_1681 mw_1682 mw_97 mw_1683 (by decide) (by decide)
theorem caL_152 {G : hx_GT} (cA : hx_CA RL cL_law 2048 600000 7302250 G) : hx_CV cL_law G 600000 7302250 152 11 0 sX11_image 21 11725 := cA.1 conX11_image rfl rfl ⟨by decide +kernel, by decide +kernel, by decide +kernel⟩ mw_1096 mw_1097 mw_1098 mw_84 mw_1099 (by decide) (by decide)
theorem caL_155 {G : hx_GT} (cA : hx_CA RL cL_law 2048 600000 7302250 G) : hx_CV cL_law G 600000 7302250 155 12 0 sX12_image 0 0 := cA.1 conX12_image rfl rfl ⟨by decide +kernel, by decide +kernel, by decide +kernel⟩ mw_1688 mw_1689 mw_1690 mw_97 mw_1691 (by decide) (by decide)
theorem caL_156 {G : hx_GT} (cA : hx_CA RL cL_law 2048 600000 7302250 G) : hx_CV cL_law G 600000 7302250 156 11 1 sX11_back 0 0 := cA.1 conX11_back rfl rfl ⟨by decide +kernel, by decide +kernel, by decide +kernel⟩ mw_1111 mw_1112 mw_1113 mw_84 mw_1114 (by decide) (by decide)
theorem caL_159 {G : hx_GT} (cA : hx_CA RL cL_law 2048 600000 7302250 G) : hx_CV cL_law G 600000 7302250 159 12 1 sX12_back 0 0 := cA.1 conX12_back rfl rfl ⟨by decide +kernel, by decide +kernel, by decide +kernel⟩ mw_1696 mw_1697 mw_1698 mw_97 mw_1699 (by decide) (by decide)
theorem caL_160 {G : hx_GT} (cA : hx_CA RL cL_law 2048 600000 7302250 G) : hx_CV cL_law G 600000 7302250 160 11 1 sX11_count 0 0 := cA.1 conX11_count rfl rfl ⟨by decide +kernel, by decide +kernel, by decide +kernel⟩ mw_1115 mw_1116 mw_1117 mw_84 mw_1118 (by decide) (by decide)
theorem caL_163 {G : hx_GT} (cA : hx_CA RL cL_law 2048 600000 7302250 G) : hx_CV cL_law G 600000 7302250 163 12 1 sX12_count 0 0 := cA.1 conX12_count rfl rfl ⟨by decide +kernel, by decide +kernel, by decide +kernel⟩ mw_1704 mw_1705 mw_1706 mw_97 mw_1707 (by decide) (by decide)
def wL_0 (Λ : hx_L) (μ : hx_M) (a1 : Int32) (a2 : Int32) (a3 : Int32) (K : hx_L → hx_M → Prop) : Prop := wX11_person μ a1 a2 a3 (fun r m0 => wX12_person m0 a1 a2 a3 (fun q m1 => r = q ∧ K Λ m1))
theorem kL_0 {G : hx_GT} {KK : hx_KT} {L : Nat} {xs : Nat → Int32} (hG : hx_K cL_law 4 600000 7302250 (some .boolean) TbL KK G) (hS : hx_LW cL_law L xs G) (cA : hx_CA RL cL_law 2048 600000 7302250 G) {Λ : hx_L} {μ : hx_M} {u : Nat × Nat} (hF : cF Λ) (hM : mF Λ) {v3 : Int32} (hi : ∀ k : Nat, k < 6 → vp_in (v3 + Int32.ofNat k) L) {K : hx_L → hx_M → Prop} (hu1 : u.1 + 21 ≤ 600000) (hu2 : u.2 + 11725 ≤ 7302250) (hK : ∀ (Λ1 : hx_L) (μ1 : hx_M) (u1 : Nat × Nat), u1.1 ≤ u.1 + 21 → u1.2 ≤ u.2 + 11725 → K Λ1 μ1 → G Λ1 μ1 u1 1301 [some (.retAddr 3), some (.ref 0), some (.ref 49), some (.int v3)] []) (hw : wL_0 Λ μ (xs (v3 + 1).toNatClampNeg) (xs (v3 + 2).toNatClampNeg) (xs (v3 + 3).toNatClampNeg) K) : G Λ μ u 188 [some (.retAddr 3), some (.ref 0), some (.ref 49), some (.int v3)] [] := by
  unfold wL_0 at hw
  have i1 : vp_in (v3 + 1) L := hi 1 (by decide)
  have i2 : vp_in (v3 + 2) L := hi 2 (by decide)
  have i3 : vp_in (v3 + 3) L := hi 3 (by decide)
  refine cl_aload_n hG (hx_dq tdL_0 22 rfl) rfl ?_
  refine cl_saload hS (hx_dq tdL_0 23 rfl) rfl ?_
  refine cl_iload_n hG (hx_dq tdL_0 24 rfl) rfl ?_
  refine cl_iconst hG 1 (hx_dq tdL_0 25 rfl) iconst_1 ?_
  refine cl_iadd hG (hx_dq tdL_0 26 rfl) ?_
  refine cl_sald hS (hx_dq tdL_0 27 rfl) i1 ?_
  refine cl_saload hS (hx_dq tdL_0 28 rfl) rfl ?_
  refine cl_iload_n hG (hx_dq tdL_0 29 rfl) rfl ?_
  refine cl_iconst hG 2 (hx_dq tdL_0 30 rfl) iconst_2 ?_
  refine cl_iadd hG (hx_dq tdL_0 31 rfl) ?_
  refine cl_sald hS (hx_dq tdL_1 0 rfl) i2 ?_
  refine cl_saload hS (hx_dq tdL_1 1 rfl) rfl ?_
  refine cl_iload_n hG (hx_dq tdL_1 2 rfl) rfl ?_
  refine cl_iconst hG 3 (hx_dq tdL_1 3 rfl) iconst_3 ?_
  refine cl_iadd hG (hx_dq tdL_1 4 rfl) ?_
  refine cl_sald hS (hx_dq tdL_1 5 rfl) i3 ?_
  refine cl_callV3 (caL_13 cA) (hx_dq tdL_1 6 rfl) (cF_S0 hF) (Nat.le_of_ble_eq_true rfl) (Nat.le_trans (Nat.add_le_add_left (Nat.le_of_ble_eq_true (rfl : Nat.ble 0 21 = true)) _) hu1) (Nat.le_trans (Nat.add_le_add_left (Nat.le_of_ble_eq_true (rfl : Nat.ble 0 11725 = true)) _) hu2) (sX11_person_mk hF hw (fun r m0 hw => ?_))
  refine cl_aload_n hG (hx_dq tdL_1 7 rfl) rfl ?_
  refine cl_saload hS (hx_dq tdL_1 8 rfl) rfl ?_
  refine cl_iload_n hG (hx_dq tdL_1 9 rfl) rfl ?_
  refine cl_iconst hG 1 (hx_dq tdL_1 10 rfl) iconst_1 ?_
  refine cl_iadd hG (hx_dq tdL_1 11 rfl) ?_
  refine cl_sald hS (hx_dq tdL_1 12 rfl) i1 ?_
  refine cl_saload hS (hx_dq tdL_1 13 rfl) rfl ?_
  refine cl_iload_n hG (hx_dq tdL_1 14 rfl) rfl ?_
  refine cl_iconst hG 2 (hx_dq tdL_1 15 rfl) iconst_2 ?_
  refine cl_iadd hG (hx_dq tdL_1 16 rfl) ?_
  refine cl_sald hS (hx_dq tdL_1 17 rfl) i2 ?_
  refine cl_saload hS (hx_dq tdL_1 18 rfl) rfl ?_
  refine cl_iload_n hG (hx_dq tdL_1 19 rfl) rfl ?_
  refine cl_iconst hG 3 (hx_dq tdL_1 20 rfl) iconst_3 ?_
  refine cl_iadd hG (hx_dq tdL_1 21 rfl) ?_
  refine cl_sald hS (hx_dq tdL_1 22 rfl) i3 ?_
  refine cl_callV3 (caL_17 cA) (hx_dq tdL_1 23 rfl) (mF_S49 hM) (Nat.le_of_ble_eq_true rfl) (Nat.le_trans (Nat.add_le_add_left (Nat.le_of_ble_eq_true (rfl : Nat.ble 0 21 = true)) _) hu1) (Nat.le_trans (Nat.add_le_add_left (Nat.le_of_ble_eq_true (rfl : Nat.ble 0 11725 = true)) _) hu2) (sX12_person_mk hM hw (fun q m1 hw => ?_))
  obtain ⟨he, hw⟩ := hw
  exact cl_icmp_eq hG 1301 (hx_dq tdL_1 24 rfl) rfl (fun _ => hK _ _ _ (Nat.add_le_add_left (Nat.le_of_ble_eq_true (rfl : Nat.ble 0 21 = true)) _) (Nat.add_le_add_left (Nat.le_of_ble_eq_true (rfl : Nat.ble 0 11725 = true)) _) hw) (fun c => absurd he c)
def wL_1 (Λ : hx_L) (μ : hx_M) (a1 : Int32) (a2 : Int32) (a3 : Int32) (K : hx_L → hx_M → Prop) : Prop := wX11_sees μ a1 a2 (if a3 = 0 then 0 else 1) (fun r m0 => wX12_sees m0 a1 a2 (if a3 = 0 then 0 else 1) (fun q m1 => r = q ∧ K Λ m1))
theorem kL_1 {G : hx_GT} {KK : hx_KT} {L : Nat} {xs : Nat → Int32} (hG : hx_K cL_law 4 600000 7302250 (some .boolean) TbL KK G) (hS : hx_LW cL_law L xs G) (cA : hx_CA RL cL_law 2048 600000 7302250 G) {Λ : hx_L} {μ : hx_M} {u : Nat × Nat} (hF : cF Λ) (hM : mF Λ) {v3 : Int32} (hi : ∀ k : Nat, k < 6 → vp_in (v3 + Int32.ofNat k) L) {K : hx_L → hx_M → Prop} (hu1 : u.1 + 21 ≤ 600000) (hu2 : u.2 + 11725 ≤ 7302250) (hK : ∀ (Λ1 : hx_L) (μ1 : hx_M) (u1 : Nat × Nat), u1.1 ≤ u.1 + 21 → u1.2 ≤ u.2 + 11725 → K Λ1 μ1 → G Λ1 μ1 u1 1301 [some (.retAddr 3), some (.ref 0), some (.ref 49), some (.int v3)] []) (hw : wL_1 Λ μ (xs (v3 + 1).toNatClampNeg) (xs (v3 + 2).toNatClampNeg) (xs (v3 + 3).toNatClampNeg) K) : G Λ μ u 231 [some (.retAddr 3), some (.ref 0), some (.ref 49), some (.int v3)] [] := by
  unfold wL_1 at hw
  have i1 : vp_in (v3 + 1) L := hi 1 (by decide)
  have i2 : vp_in (v3 + 2) L := hi 2 (by decide)
  have i3 : vp_in (v3 + 3) L := hi 3 (by decide)
  refine cl_aload_n hG (hx_dq tdL_1 27 rfl) rfl ?_
  refine cl_saload hS (hx_dq tdL_1 28 rfl) rfl ?_
  refine cl_iload_n hG (hx_dq tdL_1 29 rfl) rfl ?_
  refine cl_iconst hG 1 (hx_dq tdL_1 30 rfl) iconst_1 ?_
  refine cl_iadd hG (hx_dq tdL_1 31 rfl) ?_
  refine cl_sald hS (hx_dq tdL_2 0 rfl) i1 ?_
  refine cl_saload hS (hx_dq tdL_2 1 rfl) rfl ?_
  refine cl_iload_n hG (hx_dq tdL_2 2 rfl) rfl ?_
  refine cl_iconst hG 2 (hx_dq tdL_2 3 rfl) iconst_2 ?_
  refine cl_iadd hG (hx_dq tdL_2 4 rfl) ?_
  refine cl_sald hS (hx_dq tdL_2 5 rfl) i2 ?_
  refine cl_saload hS (hx_dq tdL_2 6 rfl) rfl ?_
  refine cl_iload_n hG (hx_dq tdL_2 7 rfl) rfl ?_
  refine cl_iconst hG 3 (hx_dq tdL_2 8 rfl) iconst_3 ?_
  refine cl_iadd hG (hx_dq tdL_2 9 rfl) ?_
  refine cl_sald hS (hx_dq tdL_2 10 rfl) i3 ?_
  refine cl_bool hG (hx_dq tdL_2 11 rfl) (hx_dq tdL_2 12 rfl) (hx_dq tdL_2 13 rfl) (hx_dq tdL_2 14 rfl) rfl rfl ?_
  refine cl_callV3 (caL_18 cA) (hx_dq tdL_2 15 rfl) (cF_S0 hF) (Nat.le_of_ble_eq_true rfl) (Nat.le_trans (Nat.add_le_add_left (Nat.le_of_ble_eq_true (rfl : Nat.ble 0 21 = true)) _) hu1) (Nat.le_trans (Nat.add_le_add_left (Nat.le_of_ble_eq_true (rfl : Nat.ble 0 11725 = true)) _) hu2) (sX11_sees_mk hF hw (fun r m0 hw => ?_))
  refine cl_aload_n hG (hx_dq tdL_2 16 rfl) rfl ?_
  refine cl_saload hS (hx_dq tdL_2 17 rfl) rfl ?_
  refine cl_iload_n hG (hx_dq tdL_2 18 rfl) rfl ?_
  refine cl_iconst hG 1 (hx_dq tdL_2 19 rfl) iconst_1 ?_
  refine cl_iadd hG (hx_dq tdL_2 20 rfl) ?_
  refine cl_sald hS (hx_dq tdL_2 21 rfl) i1 ?_
  refine cl_saload hS (hx_dq tdL_2 22 rfl) rfl ?_
  refine cl_iload_n hG (hx_dq tdL_2 23 rfl) rfl ?_
  refine cl_iconst hG 2 (hx_dq tdL_2 24 rfl) iconst_2 ?_
  refine cl_iadd hG (hx_dq tdL_2 25 rfl) ?_
  refine cl_sald hS (hx_dq tdL_2 26 rfl) i2 ?_
  refine cl_saload hS (hx_dq tdL_2 27 rfl) rfl ?_
  refine cl_iload_n hG (hx_dq tdL_2 28 rfl) rfl ?_
  refine cl_iconst hG 3 (hx_dq tdL_2 29 rfl) iconst_3 ?_
  refine cl_iadd hG (hx_dq tdL_2 30 rfl) ?_
  refine cl_sald hS (hx_dq tdL_2 31 rfl) i3 ?_
  refine cl_bool hG (hx_dq tdL_3 0 rfl) (hx_dq tdL_3 1 rfl) (hx_dq tdL_3 2 rfl) (hx_dq tdL_3 3 rfl) rfl rfl ?_
  refine cl_callV3 (caL_22 cA) (hx_dq tdL_3 4 rfl) (mF_S49 hM) (Nat.le_of_ble_eq_true rfl) (Nat.le_trans (Nat.add_le_add_left (Nat.le_of_ble_eq_true (rfl : Nat.ble 0 21 = true)) _) hu1) (Nat.le_trans (Nat.add_le_add_left (Nat.le_of_ble_eq_true (rfl : Nat.ble 0 11725 = true)) _) hu2) (sX12_sees_mk hM hw (fun q m1 hw => ?_))
  obtain ⟨he, hw⟩ := hw
  exact cl_icmp_eq hG 1301 (hx_dq tdL_3 5 rfl) rfl (fun _ => hK _ _ _ (Nat.add_le_add_left (Nat.le_of_ble_eq_true (rfl : Nat.ble 0 21 = true)) _) (Nat.add_le_add_left (Nat.le_of_ble_eq_true (rfl : Nat.ble 0 11725 = true)) _) hw) (fun c => absurd he c)
def wL_2 (Λ : hx_L) (μ : hx_M) (a1 : Int32) (a2 : Int32) (K : hx_L → hx_M → Prop) : Prop := wX11_shows μ a1 a2 (fun r m0 => wX12_shows m0 a1 a2 (fun q m1 => r = q ∧ K Λ m1))
theorem kL_2 {G : hx_GT} {KK : hx_KT} {L : Nat} {xs : Nat → Int32} (hG : hx_K cL_law 4 600000 7302250 (some .boolean) TbL KK G) (hS : hx_LW cL_law L xs G) (cA : hx_CA RL cL_law 2048 600000 7302250 G) {Λ : hx_L} {μ : hx_M} {u : Nat × Nat} (hF : cF Λ) (hM : mF Λ) {v3 : Int32} (hi : ∀ k : Nat, k < 6 → vp_in (v3 + Int32.ofNat k) L) {K : hx_L → hx_M → Prop} (hu1 : u.1 + 21 ≤ 600000) (hu2 : u.2 + 11725 ≤ 7302250) (hK : ∀ (Λ1 : hx_L) (μ1 : hx_M) (u1 : Nat × Nat), u1.1 ≤ u.1 + 21 → u1.2 ≤ u.2 + 11725 → K Λ1 μ1 → G Λ1 μ1 u1 1301 [some (.retAddr 3), some (.ref 0), some (.ref 49), some (.int v3)] []) (hw : wL_2 Λ μ (xs (v3 + 1).toNatClampNeg) (xs (v3 + 2).toNatClampNeg) K) : G Λ μ u 290 [some (.retAddr 3), some (.ref 0), some (.ref 49), some (.int v3)] [] := by
  unfold wL_2 at hw
  have i1 : vp_in (v3 + 1) L := hi 1 (by decide)
  have i2 : vp_in (v3 + 2) L := hi 2 (by decide)
  refine cl_aload_n hG (hx_dq tdL_3 8 rfl) rfl ?_
  refine cl_saload hS (hx_dq tdL_3 9 rfl) rfl ?_
  refine cl_iload_n hG (hx_dq tdL_3 10 rfl) rfl ?_
  refine cl_iconst hG 1 (hx_dq tdL_3 11 rfl) iconst_1 ?_
  refine cl_iadd hG (hx_dq tdL_3 12 rfl) ?_
  refine cl_sald hS (hx_dq tdL_3 13 rfl) i1 ?_
  refine cl_saload hS (hx_dq tdL_3 14 rfl) rfl ?_
  refine cl_iload_n hG (hx_dq tdL_3 15 rfl) rfl ?_
  refine cl_iconst hG 2 (hx_dq tdL_3 16 rfl) iconst_2 ?_
  refine cl_iadd hG (hx_dq tdL_3 17 rfl) ?_
  refine cl_sald hS (hx_dq tdL_3 18 rfl) i2 ?_
  refine cl_callV2 (caL_23 cA) (hx_dq tdL_3 19 rfl) (cF_S0 hF) (Nat.le_of_ble_eq_true rfl) (Nat.le_trans (Nat.add_le_add_left (Nat.le_of_ble_eq_true (rfl : Nat.ble 0 21 = true)) _) hu1) (Nat.le_trans (Nat.add_le_add_left (Nat.le_of_ble_eq_true (rfl : Nat.ble 0 11725 = true)) _) hu2) (sX11_shows_mk hF hw (fun r m0 hw => ?_))
  refine cl_aload_n hG (hx_dq tdL_3 20 rfl) rfl ?_
  refine cl_saload hS (hx_dq tdL_3 21 rfl) rfl ?_
  refine cl_iload_n hG (hx_dq tdL_3 22 rfl) rfl ?_
  refine cl_iconst hG 1 (hx_dq tdL_3 23 rfl) iconst_1 ?_
  refine cl_iadd hG (hx_dq tdL_3 24 rfl) ?_
  refine cl_sald hS (hx_dq tdL_3 25 rfl) i1 ?_
  refine cl_saload hS (hx_dq tdL_3 26 rfl) rfl ?_
  refine cl_iload_n hG (hx_dq tdL_3 27 rfl) rfl ?_
  refine cl_iconst hG 2 (hx_dq tdL_3 28 rfl) iconst_2 ?_
  refine cl_iadd hG (hx_dq tdL_3 29 rfl) ?_
  refine cl_sald hS (hx_dq tdL_3 30 rfl) i2 ?_
  refine cl_callV2 (caL_27 cA) (hx_dq tdL_3 31 rfl) (mF_S49 hM) (Nat.le_of_ble_eq_true rfl) (Nat.le_trans (Nat.add_le_add_left (Nat.le_of_ble_eq_true (rfl : Nat.ble 0 21 = true)) _) hu1) (Nat.le_trans (Nat.add_le_add_left (Nat.le_of_ble_eq_true (rfl : Nat.ble 0 11725 = true)) _) hu2) (sX12_shows_mk hM hw (fun q m1 hw => ?_))
  obtain ⟨he, hw⟩ := hw
  exact cl_icmp_eq hG 1301 (hx_dq tdL_4 0 rfl) rfl (fun _ => hK _ _ _ (Nat.add_le_add_left (Nat.le_of_ble_eq_true (rfl : Nat.ble 0 21 = true)) _) (Nat.add_le_add_left (Nat.le_of_ble_eq_true (rfl : Nat.ble 0 11725 = true)) _) hw) (fun c => absurd he c)
def wL_3 (Λ : hx_L) (μ : hx_M) (a1 : Int32) (K : hx_L → hx_M → Prop) : Prop := wX11_money μ a1 (fun r m0 => wX12_money m0 a1 (fun q m1 => r = q ∧ K Λ m1))
theorem kL_3 {G : hx_GT} {KK : hx_KT} {L : Nat} {xs : Nat → Int32} (hG : hx_K cL_law 4 600000 7302250 (some .boolean) TbL KK G) (hS : hx_LW cL_law L xs G) (cA : hx_CA RL cL_law 2048 600000 7302250 G) {Λ : hx_L} {μ : hx_M} {u : Nat × Nat} (hF : cF Λ) (hM : mF Λ) {v3 : Int32} (hi : ∀ k : Nat, k < 6 → vp_in (v3 + Int32.ofNat k) L) {K : hx_L → hx_M → Prop} (hu1 : u.1 + 21 ≤ 600000) (hu2 : u.2 + 11725 ≤ 7302250) (hK : ∀ (Λ1 : hx_L) (μ1 : hx_M) (u1 : Nat × Nat), u1.1 ≤ u.1 + 21 → u1.2 ≤ u.2 + 11725 → K Λ1 μ1 → G Λ1 μ1 u1 1301 [some (.retAddr 3), some (.ref 0), some (.ref 49), some (.int v3)] []) (hw : wL_3 Λ μ (xs (v3 + 1).toNatClampNeg) K) : G Λ μ u 323 [some (.retAddr 3), some (.ref 0), some (.ref 49), some (.int v3)] [] := by
  unfold wL_3 at hw
  have i1 : vp_in (v3 + 1) L := hi 1 (by decide)
  refine cl_aload_n hG (hx_dq tdL_4 3 rfl) rfl ?_
  refine cl_saload hS (hx_dq tdL_4 4 rfl) rfl ?_
  refine cl_iload_n hG (hx_dq tdL_4 5 rfl) rfl ?_
  refine cl_iconst hG 1 (hx_dq tdL_4 6 rfl) iconst_1 ?_
  refine cl_iadd hG (hx_dq tdL_4 7 rfl) ?_
  refine cl_sald hS (hx_dq tdL_4 8 rfl) i1 ?_
  refine cl_callV1 (caL_28 cA) (hx_dq tdL_4 9 rfl) (cF_S0 hF) (Nat.le_of_ble_eq_true rfl) (Nat.le_trans (Nat.add_le_add_left (Nat.le_of_ble_eq_true (rfl : Nat.ble 0 21 = true)) _) hu1) (Nat.le_trans (Nat.add_le_add_left (Nat.le_of_ble_eq_true (rfl : Nat.ble 0 11725 = true)) _) hu2) (sX11_money_mk hF hw (fun r m0 hw => ?_))
  refine cl_aload_n hG (hx_dq tdL_4 10 rfl) rfl ?_
  refine cl_saload hS (hx_dq tdL_4 11 rfl) rfl ?_
  refine cl_iload_n hG (hx_dq tdL_4 12 rfl) rfl ?_
  refine cl_iconst hG 1 (hx_dq tdL_4 13 rfl) iconst_1 ?_
  refine cl_iadd hG (hx_dq tdL_4 14 rfl) ?_
  refine cl_sald hS (hx_dq tdL_4 15 rfl) i1 ?_
  refine cl_callV1 (caL_32 cA) (hx_dq tdL_4 16 rfl) (mF_S49 hM) (Nat.le_of_ble_eq_true rfl) (Nat.le_trans (Nat.add_le_add_left (Nat.le_of_ble_eq_true (rfl : Nat.ble 0 21 = true)) _) hu1) (Nat.le_trans (Nat.add_le_add_left (Nat.le_of_ble_eq_true (rfl : Nat.ble 0 11725 = true)) _) hu2) (sX12_money_mk hM hw (fun q m1 hw => ?_))
  obtain ⟨he, hw⟩ := hw
  exact cl_icmp_eq hG 1301 (hx_dq tdL_4 17 rfl) rfl (fun _ => hK _ _ _ (Nat.add_le_add_left (Nat.le_of_ble_eq_true (rfl : Nat.ble 0 21 = true)) _) (Nat.add_le_add_left (Nat.le_of_ble_eq_true (rfl : Nat.ble 0 11725 = true)) _) hw) (fun c => absurd he c)
def wL_4 (Λ : hx_L) (μ : hx_M) (a1 : Int32) (a2 : Int32) (a3 : Int32) (K : hx_L → hx_M → Prop) : Prop := wX11_set μ a1 a2 a3 (fun r m0 => wX12_set m0 a1 a2 a3 (fun q m1 => r = q ∧ K Λ m1))
theorem kL_4 {G : hx_GT} {KK : hx_KT} {L : Nat} {xs : Nat → Int32} (hG : hx_K cL_law 4 600000 7302250 (some .boolean) TbL KK G) (hS : hx_LW cL_law L xs G) (cA : hx_CA RL cL_law 2048 600000 7302250 G) {Λ : hx_L} {μ : hx_M} {u : Nat × Nat} (hF : cF Λ) (hM : mF Λ) {v3 : Int32} (hi : ∀ k : Nat, k < 6 → vp_in (v3 + Int32.ofNat k) L) {K : hx_L → hx_M → Prop} (hu1 : u.1 + 21 ≤ 600000) (hu2 : u.2 + 11725 ≤ 7302250) (hK : ∀ (Λ1 : hx_L) (μ1 : hx_M) (u1 : Nat × Nat), u1.1 ≤ u.1 + 21 → u1.2 ≤ u.2 + 11725 → K Λ1 μ1 → G Λ1 μ1 u1 1301 [some (.retAddr 3), some (.ref 0), some (.ref 49), some (.int v3)] []) (hw : wL_4 Λ μ (xs (v3 + 1).toNatClampNeg) (xs (v3 + 2).toNatClampNeg) (xs (v3 + 3).toNatClampNeg) K) : G Λ μ u 346 [some (.retAddr 3), some (.ref 0), some (.ref 49), some (.int v3)] [] := by
  unfold wL_4 at hw
  have i1 : vp_in (v3 + 1) L := hi 1 (by decide)
  have i2 : vp_in (v3 + 2) L := hi 2 (by decide)
  have i3 : vp_in (v3 + 3) L := hi 3 (by decide)
  refine cl_aload_n hG (hx_dq tdL_4 20 rfl) rfl ?_
  refine cl_saload hS (hx_dq tdL_4 21 rfl) rfl ?_
  refine cl_iload_n hG (hx_dq tdL_4 22 rfl) rfl ?_
  refine cl_iconst hG 1 (hx_dq tdL_4 23 rfl) iconst_1 ?_
  refine cl_iadd hG (hx_dq tdL_4 24 rfl) ?_
  refine cl_sald hS (hx_dq tdL_4 25 rfl) i1 ?_
  refine cl_saload hS (hx_dq tdL_4 26 rfl) rfl ?_
  refine cl_iload_n hG (hx_dq tdL_4 27 rfl) rfl ?_
  refine cl_iconst hG 2 (hx_dq tdL_4 28 rfl) iconst_2 ?_
  refine cl_iadd hG (hx_dq tdL_4 29 rfl) ?_
  refine cl_sald hS (hx_dq tdL_4 30 rfl) i2 ?_
  refine cl_saload hS (hx_dq tdL_4 31 rfl) rfl ?_
  refine cl_iload_n hG (hx_dq tdL_5 0 rfl) rfl ?_
  refine cl_iconst hG 3 (hx_dq tdL_5 1 rfl) iconst_3 ?_
  refine cl_iadd hG (hx_dq tdL_5 2 rfl) ?_
  refine cl_sald hS (hx_dq tdL_5 3 rfl) i3 ?_
  refine cl_callV3 (caL_33 cA) (hx_dq tdL_5 4 rfl) (cF_S0 hF) (Nat.le_of_ble_eq_true rfl) (Nat.le_trans (Nat.add_le_add_left (Nat.le_of_ble_eq_true (rfl : Nat.ble 0 21 = true)) _) hu1) (Nat.le_trans (Nat.add_le_add_left (Nat.le_of_ble_eq_true (rfl : Nat.ble 0 11725 = true)) _) hu2) (sX11_set_mk hF hw (fun r m0 hw => ?_))
  refine cl_aload_n hG (hx_dq tdL_5 5 rfl) rfl ?_
  refine cl_saload hS (hx_dq tdL_5 6 rfl) rfl ?_
  refine cl_iload_n hG (hx_dq tdL_5 7 rfl) rfl ?_
  refine cl_iconst hG 1 (hx_dq tdL_5 8 rfl) iconst_1 ?_
  refine cl_iadd hG (hx_dq tdL_5 9 rfl) ?_
  refine cl_sald hS (hx_dq tdL_5 10 rfl) i1 ?_
  refine cl_saload hS (hx_dq tdL_5 11 rfl) rfl ?_
  refine cl_iload_n hG (hx_dq tdL_5 12 rfl) rfl ?_
  refine cl_iconst hG 2 (hx_dq tdL_5 13 rfl) iconst_2 ?_
  refine cl_iadd hG (hx_dq tdL_5 14 rfl) ?_
  refine cl_sald hS (hx_dq tdL_5 15 rfl) i2 ?_
  refine cl_saload hS (hx_dq tdL_5 16 rfl) rfl ?_
  refine cl_iload_n hG (hx_dq tdL_5 17 rfl) rfl ?_
  refine cl_iconst hG 3 (hx_dq tdL_5 18 rfl) iconst_3 ?_
  refine cl_iadd hG (hx_dq tdL_5 19 rfl) ?_
  refine cl_sald hS (hx_dq tdL_5 20 rfl) i3 ?_
  refine cl_callV3 (caL_37 cA) (hx_dq tdL_5 21 rfl) (mF_S49 hM) (Nat.le_of_ble_eq_true rfl) (Nat.le_trans (Nat.add_le_add_left (Nat.le_of_ble_eq_true (rfl : Nat.ble 0 21 = true)) _) hu1) (Nat.le_trans (Nat.add_le_add_left (Nat.le_of_ble_eq_true (rfl : Nat.ble 0 11725 = true)) _) hu2) (sX12_set_mk hM hw (fun q m1 hw => ?_))
  obtain ⟨he, hw⟩ := hw
  exact cl_icmp_eq hG 1301 (hx_dq tdL_5 22 rfl) rfl (fun _ => hK _ _ _ (Nat.add_le_add_left (Nat.le_of_ble_eq_true (rfl : Nat.ble 0 21 = true)) _) (Nat.add_le_add_left (Nat.le_of_ble_eq_true (rfl : Nat.ble 0 11725 = true)) _) hw) (fun c => absurd he c)
def wL_5 (Λ : hx_L) (μ : hx_M) (a1 : Int32) (K : hx_L → hx_M → Prop) : Prop := wX11_seed μ a1 (fun r m0 => wX12_seed m0 a1 (fun q m1 => r = q ∧ K Λ m1))
theorem kL_5 {G : hx_GT} {KK : hx_KT} {L : Nat} {xs : Nat → Int32} (hG : hx_K cL_law 4 600000 7302250 (some .boolean) TbL KK G) (hS : hx_LW cL_law L xs G) (cA : hx_CA RL cL_law 2048 600000 7302250 G) {Λ : hx_L} {μ : hx_M} {u : Nat × Nat} (hF : cF Λ) (hM : mF Λ) {v3 : Int32} (hi : ∀ k : Nat, k < 6 → vp_in (v3 + Int32.ofNat k) L) {K : hx_L → hx_M → Prop} (hu1 : u.1 + 21 ≤ 600000) (hu2 : u.2 + 11725 ≤ 7302250) (hK : ∀ (Λ1 : hx_L) (μ1 : hx_M) (u1 : Nat × Nat), u1.1 ≤ u.1 + 21 → u1.2 ≤ u.2 + 11725 → K Λ1 μ1 → G Λ1 μ1 u1 1301 [some (.retAddr 3), some (.ref 0), some (.ref 49), some (.int v3)] []) (hw : wL_5 Λ μ (xs (v3 + 1).toNatClampNeg) K) : G Λ μ u 389 [some (.retAddr 3), some (.ref 0), some (.ref 49), some (.int v3)] [] := by
  unfold wL_5 at hw
  have i1 : vp_in (v3 + 1) L := hi 1 (by decide)
  refine cl_aload_n hG (hx_dq tdL_5 25 rfl) rfl ?_
  refine cl_saload hS (hx_dq tdL_5 26 rfl) rfl ?_
  refine cl_iload_n hG (hx_dq tdL_5 27 rfl) rfl ?_
  refine cl_iconst hG 1 (hx_dq tdL_5 28 rfl) iconst_1 ?_
  refine cl_iadd hG (hx_dq tdL_5 29 rfl) ?_
  refine cl_sald hS (hx_dq tdL_5 30 rfl) i1 ?_
  refine cl_callV1 (caL_38 cA) (hx_dq tdL_5 31 rfl) (cF_S0 hF) (Nat.le_of_ble_eq_true rfl) (Nat.le_trans (Nat.add_le_add_left (Nat.le_of_ble_eq_true (rfl : Nat.ble 0 21 = true)) _) hu1) (Nat.le_trans (Nat.add_le_add_left (Nat.le_of_ble_eq_true (rfl : Nat.ble 0 11725 = true)) _) hu2) (sX11_seed_mk hF hw (fun r m0 hw => ?_))
  refine cl_aload_n hG (hx_dq tdL_6 0 rfl) rfl ?_
  refine cl_saload hS (hx_dq tdL_6 1 rfl) rfl ?_
  refine cl_iload_n hG (hx_dq tdL_6 2 rfl) rfl ?_
  refine cl_iconst hG 1 (hx_dq tdL_6 3 rfl) iconst_1 ?_
  refine cl_iadd hG (hx_dq tdL_6 4 rfl) ?_
  refine cl_sald hS (hx_dq tdL_6 5 rfl) i1 ?_
  refine cl_callV1 (caL_41 cA) (hx_dq tdL_6 6 rfl) (mF_S49 hM) (Nat.le_of_ble_eq_true rfl) (Nat.le_trans (Nat.add_le_add_left (Nat.le_of_ble_eq_true (rfl : Nat.ble 0 21 = true)) _) hu1) (Nat.le_trans (Nat.add_le_add_left (Nat.le_of_ble_eq_true (rfl : Nat.ble 0 11725 = true)) _) hu2) (sX12_seed_mk hM hw (fun q m1 hw => ?_))
  obtain ⟨he, hw⟩ := hw
  exact cl_icmp_eq hG 1301 (hx_dq tdL_6 7 rfl) rfl (fun _ => hK _ _ _ (Nat.add_le_add_left (Nat.le_of_ble_eq_true (rfl : Nat.ble 0 21 = true)) _) (Nat.add_le_add_left (Nat.le_of_ble_eq_true (rfl : Nat.ble 0 11725 = true)) _) hw) (fun c => absurd he c)
def wL_6 (Λ : hx_L) (μ : hx_M) (a1 : Int32) (a2 : Int32) (a3 : Int32) (a4 : Int32) (a5 : Int32) (K : hx_L → hx_M → Prop) : Prop := wX11_feed μ a1 a2 a3 a4 a5 (fun r m0 => wX12_feed m0 a1 a2 a3 a4 a5 (fun q m1 => r = q ∧ K Λ m1))
theorem kL_6 {G : hx_GT} {KK : hx_KT} {L : Nat} {xs : Nat → Int32} (hG : hx_K cL_law 4 600000 7302250 (some .boolean) TbL KK G) (hS : hx_LW cL_law L xs G) (cA : hx_CA RL cL_law 2048 600000 7302250 G) {Λ : hx_L} {μ : hx_M} {u : Nat × Nat} (hF : cF Λ) (hM : mF Λ) {v3 : Int32} (hi : ∀ k : Nat, k < 6 → vp_in (v3 + Int32.ofNat k) L) {K : hx_L → hx_M → Prop} (hu1 : u.1 + 21 ≤ 600000) (hu2 : u.2 + 11725 ≤ 7302250) (hK : ∀ (Λ1 : hx_L) (μ1 : hx_M) (u1 : Nat × Nat), u1.1 ≤ u.1 + 21 → u1.2 ≤ u.2 + 11725 → K Λ1 μ1 → G Λ1 μ1 u1 1301 [some (.retAddr 3), some (.ref 0), some (.ref 49), some (.int v3)] []) (hw : wL_6 Λ μ (xs (v3 + 1).toNatClampNeg) (xs (v3 + 2).toNatClampNeg) (xs (v3 + 3).toNatClampNeg) (xs (v3 + 4).toNatClampNeg) (xs (v3 + 5).toNatClampNeg) K) : G Λ μ u 412 [some (.retAddr 3), some (.ref 0), some (.ref 49), some (.int v3)] [] := by
  unfold wL_6 at hw
  have i1 : vp_in (v3 + 1) L := hi 1 (by decide)
  have i2 : vp_in (v3 + 2) L := hi 2 (by decide)
  have i3 : vp_in (v3 + 3) L := hi 3 (by decide)
  have i4 : vp_in (v3 + 4) L := hi 4 (by decide)
  have i5 : vp_in (v3 + 5) L := hi 5 (by decide)
  refine cl_aload_n hG (hx_dq tdL_6 10 rfl) rfl ?_
  refine cl_saload hS (hx_dq tdL_6 11 rfl) rfl ?_
  refine cl_iload_n hG (hx_dq tdL_6 12 rfl) rfl ?_
  refine cl_iconst hG 1 (hx_dq tdL_6 13 rfl) iconst_1 ?_
  refine cl_iadd hG (hx_dq tdL_6 14 rfl) ?_
  refine cl_sald hS (hx_dq tdL_6 15 rfl) i1 ?_
  refine cl_saload hS (hx_dq tdL_6 16 rfl) rfl ?_
  refine cl_iload_n hG (hx_dq tdL_6 17 rfl) rfl ?_
  refine cl_iconst hG 2 (hx_dq tdL_6 18 rfl) iconst_2 ?_
  refine cl_iadd hG (hx_dq tdL_6 19 rfl) ?_
  refine cl_sald hS (hx_dq tdL_6 20 rfl) i2 ?_
  refine cl_saload hS (hx_dq tdL_6 21 rfl) rfl ?_
  refine cl_iload_n hG (hx_dq tdL_6 22 rfl) rfl ?_
  refine cl_iconst hG 3 (hx_dq tdL_6 23 rfl) iconst_3 ?_
  refine cl_iadd hG (hx_dq tdL_6 24 rfl) ?_
  refine cl_sald hS (hx_dq tdL_6 25 rfl) i3 ?_
  refine cl_saload hS (hx_dq tdL_6 26 rfl) rfl ?_
  refine cl_iload_n hG (hx_dq tdL_6 27 rfl) rfl ?_
  refine cl_iconst hG 4 (hx_dq tdL_6 28 rfl) iconst_4 ?_
  refine cl_iadd hG (hx_dq tdL_6 29 rfl) ?_
  refine cl_sald hS (hx_dq tdL_6 30 rfl) i4 ?_
  refine cl_saload hS (hx_dq tdL_6 31 rfl) rfl ?_
  refine cl_iload_n hG (hx_dq tdL_7 0 rfl) rfl ?_
  refine cl_iconst hG 5 (hx_dq tdL_7 1 rfl) iconst_5 ?_
  refine cl_iadd hG (hx_dq tdL_7 2 rfl) ?_
  refine cl_sald hS (hx_dq tdL_7 3 rfl) i5 ?_
  refine cl_callV5 (caL_42 cA) (hx_dq tdL_7 4 rfl) (cF_S0 hF) (Nat.le_of_ble_eq_true rfl) (Nat.le_trans (Nat.add_le_add_left (Nat.le_of_ble_eq_true (rfl : Nat.ble 0 21 = true)) _) hu1) (Nat.le_trans (Nat.add_le_add_left (Nat.le_of_ble_eq_true (rfl : Nat.ble 0 11725 = true)) _) hu2) (sX11_feed_mk hF hw (fun r m0 hw => ?_))
  refine cl_aload_n hG (hx_dq tdL_7 5 rfl) rfl ?_
  refine cl_saload hS (hx_dq tdL_7 6 rfl) rfl ?_
  refine cl_iload_n hG (hx_dq tdL_7 7 rfl) rfl ?_
  refine cl_iconst hG 1 (hx_dq tdL_7 8 rfl) iconst_1 ?_
  refine cl_iadd hG (hx_dq tdL_7 9 rfl) ?_
  refine cl_sald hS (hx_dq tdL_7 10 rfl) i1 ?_
  refine cl_saload hS (hx_dq tdL_7 11 rfl) rfl ?_
  refine cl_iload_n hG (hx_dq tdL_7 12 rfl) rfl ?_
  refine cl_iconst hG 2 (hx_dq tdL_7 13 rfl) iconst_2 ?_
  refine cl_iadd hG (hx_dq tdL_7 14 rfl) ?_
  refine cl_sald hS (hx_dq tdL_7 15 rfl) i2 ?_
  refine cl_saload hS (hx_dq tdL_7 16 rfl) rfl ?_
  refine cl_iload_n hG (hx_dq tdL_7 17 rfl) rfl ?_
  refine cl_iconst hG 3 (hx_dq tdL_7 18 rfl) iconst_3 ?_
  refine cl_iadd hG (hx_dq tdL_7 19 rfl) ?_
  refine cl_sald hS (hx_dq tdL_7 20 rfl) i3 ?_
  refine cl_saload hS (hx_dq tdL_7 21 rfl) rfl ?_
  refine cl_iload_n hG (hx_dq tdL_7 22 rfl) rfl ?_
  refine cl_iconst hG 4 (hx_dq tdL_7 23 rfl) iconst_4 ?_
  refine cl_iadd hG (hx_dq tdL_7 24 rfl) ?_
  refine cl_sald hS (hx_dq tdL_7 25 rfl) i4 ?_
  refine cl_saload hS (hx_dq tdL_7 26 rfl) rfl ?_
  refine cl_iload_n hG (hx_dq tdL_7 27 rfl) rfl ?_
  refine cl_iconst hG 5 (hx_dq tdL_7 28 rfl) iconst_5 ?_
  refine cl_iadd hG (hx_dq tdL_7 29 rfl) ?_
  refine cl_sald hS (hx_dq tdL_7 30 rfl) i5 ?_
  refine cl_callV5 (caL_46 cA) (hx_dq tdL_7 31 rfl) (mF_S49 hM) (Nat.le_of_ble_eq_true rfl) (Nat.le_trans (Nat.add_le_add_left (Nat.le_of_ble_eq_true (rfl : Nat.ble 0 21 = true)) _) hu1) (Nat.le_trans (Nat.add_le_add_left (Nat.le_of_ble_eq_true (rfl : Nat.ble 0 11725 = true)) _) hu2) (sX12_feed_mk hM hw (fun q m1 hw => ?_))
  obtain ⟨he, hw⟩ := hw
  exact cl_icmp_eq hG 1301 (hx_dq tdL_8 0 rfl) rfl (fun _ => hK _ _ _ (Nat.add_le_add_left (Nat.le_of_ble_eq_true (rfl : Nat.ble 0 21 = true)) _) (Nat.add_le_add_left (Nat.le_of_ble_eq_true (rfl : Nat.ble 0 11725 = true)) _) hw) (fun c => absurd he c)
def wL_7 (Λ : hx_L) (μ : hx_M) (a1 : Int32) (K : hx_L → hx_M → Prop) : Prop := wX11_law Λ μ a1 (fun r L0 m0 => mF L0 ∧ wX12_law m0 a1 (fun q m1 => r = q ∧ K L0 m1))
theorem kL_7 {G : hx_GT} {KK : hx_KT} {L : Nat} {xs : Nat → Int32} (hG : hx_K cL_law 4 600000 7302250 (some .boolean) TbL KK G) (hS : hx_LW cL_law L xs G) (cA : hx_CA RL cL_law 2048 600000 7302250 G) {Λ : hx_L} {μ : hx_M} {u : Nat × Nat} (hF : cF Λ) (hM : mF Λ) {v3 : Int32} (hi : ∀ k : Nat, k < 6 → vp_in (v3 + Int32.ofNat k) L) {K : hx_L → hx_M → Prop} (hu1 : u.1 + 21 ≤ 600000) (hu2 : u.2 + 11725 ≤ 7302250) (hK : ∀ (Λ1 : hx_L) (μ1 : hx_M) (u1 : Nat × Nat), u1.1 ≤ u.1 + 21 → u1.2 ≤ u.2 + 11725 → K Λ1 μ1 → G Λ1 μ1 u1 1301 [some (.retAddr 3), some (.ref 0), some (.ref 49), some (.int v3)] []) (hw : wL_7 Λ μ (xs (v3 + 1).toNatClampNeg) K) : G Λ μ u 475 [some (.retAddr 3), some (.ref 0), some (.ref 49), some (.int v3)] [] := by
  unfold wL_7 at hw
  have i1 : vp_in (v3 + 1) L := hi 1 (by decide)
  refine cl_aload_n hG (hx_dq tdL_8 3 rfl) rfl ?_
  refine cl_saload hS (hx_dq tdL_8 4 rfl) rfl ?_
  refine cl_iload_n hG (hx_dq tdL_8 5 rfl) rfl ?_
  refine cl_iconst hG 1 (hx_dq tdL_8 6 rfl) iconst_1 ?_
  refine cl_iadd hG (hx_dq tdL_8 7 rfl) ?_
  refine cl_sald hS (hx_dq tdL_8 8 rfl) i1 ?_
  refine cl_callV1 (caL_47 cA) (hx_dq tdL_8 9 rfl) (cF_S0 hF) (Nat.le_of_ble_eq_true rfl) (Nat.le_trans (Nat.add_le_add_left (Nat.le_of_ble_eq_true (rfl : Nat.ble 2 21 = true)) _) hu1) (Nat.le_trans (Nat.add_le_add_left (Nat.le_of_ble_eq_true (rfl : Nat.ble 702 11725 = true)) _) hu2) (sX11_law_mk hF hw (fun r L0 m0 hw => ?_))
  refine cl_aload_n hG (hx_dq tdL_8 10 rfl) rfl ?_
  refine cl_saload hS (hx_dq tdL_8 11 rfl) rfl ?_
  refine cl_iload_n hG (hx_dq tdL_8 12 rfl) rfl ?_
  refine cl_iconst hG 1 (hx_dq tdL_8 13 rfl) iconst_1 ?_
  refine cl_iadd hG (hx_dq tdL_8 14 rfl) ?_
  refine cl_sald hS (hx_dq tdL_8 15 rfl) i1 ?_
  obtain ⟨hM1, hw⟩ := hw
  refine cl_callV1 (caL_51 cA) (hx_dq tdL_8 16 rfl) (mF_S49 hM1) (Nat.le_of_ble_eq_true rfl) (Nat.le_trans (Nat.add_le_add_left (Nat.le_of_ble_eq_true (rfl : Nat.ble 2 21 = true)) _) hu1) (Nat.le_trans (Nat.add_le_add_left (Nat.le_of_ble_eq_true (rfl : Nat.ble 702 11725 = true)) _) hu2) (sX12_law_mk hM1 hw (fun q m1 hw => ?_))
  obtain ⟨he, hw⟩ := hw
  exact cl_icmp_eq hG 1301 (hx_dq tdL_8 17 rfl) rfl (fun _ => hK _ _ _ (Nat.add_le_add_left (Nat.le_of_ble_eq_true (rfl : Nat.ble 2 21 = true)) _) (Nat.add_le_add_left (Nat.le_of_ble_eq_true (rfl : Nat.ble 702 11725 = true)) _) hw) (fun c => absurd he c)
def wL_8 (Λ : hx_L) (μ : hx_M) (a1 : Int32) (K : hx_L → hx_M → Prop) : Prop := wX11_force μ a1 (fun r m0 => wX12_force m0 a1 (fun q m1 => r = q ∧ K Λ m1))
theorem kL_8 {G : hx_GT} {KK : hx_KT} {L : Nat} {xs : Nat → Int32} (hG : hx_K cL_law 4 600000 7302250 (some .boolean) TbL KK G) (hS : hx_LW cL_law L xs G) (cA : hx_CA RL cL_law 2048 600000 7302250 G) {Λ : hx_L} {μ : hx_M} {u : Nat × Nat} (hF : cF Λ) (hM : mF Λ) {v3 : Int32} (hi : ∀ k : Nat, k < 6 → vp_in (v3 + Int32.ofNat k) L) {K : hx_L → hx_M → Prop} (hu1 : u.1 + 21 ≤ 600000) (hu2 : u.2 + 11725 ≤ 7302250) (hK : ∀ (Λ1 : hx_L) (μ1 : hx_M) (u1 : Nat × Nat), u1.1 ≤ u.1 + 21 → u1.2 ≤ u.2 + 11725 → K Λ1 μ1 → G Λ1 μ1 u1 1301 [some (.retAddr 3), some (.ref 0), some (.ref 49), some (.int v3)] []) (hw : wL_8 Λ μ (xs (v3 + 1).toNatClampNeg) K) : G Λ μ u 498 [some (.retAddr 3), some (.ref 0), some (.ref 49), some (.int v3)] [] := by
  unfold wL_8 at hw
  have i1 : vp_in (v3 + 1) L := hi 1 (by decide)
  refine cl_aload_n hG (hx_dq tdL_8 20 rfl) rfl ?_
  refine cl_saload hS (hx_dq tdL_8 21 rfl) rfl ?_
  refine cl_iload_n hG (hx_dq tdL_8 22 rfl) rfl ?_
  refine cl_iconst hG 1 (hx_dq tdL_8 23 rfl) iconst_1 ?_
  refine cl_iadd hG (hx_dq tdL_8 24 rfl) ?_
  refine cl_sald hS (hx_dq tdL_8 25 rfl) i1 ?_
  refine cl_callV1 (caL_52 cA) (hx_dq tdL_8 26 rfl) (cF_S0 hF) (Nat.le_of_ble_eq_true rfl) (Nat.le_trans (Nat.add_le_add_left (Nat.le_of_ble_eq_true (rfl : Nat.ble 0 21 = true)) _) hu1) (Nat.le_trans (Nat.add_le_add_left (Nat.le_of_ble_eq_true (rfl : Nat.ble 0 11725 = true)) _) hu2) (sX11_force_mk hF hw (fun r m0 hw => ?_))
  refine cl_aload_n hG (hx_dq tdL_8 27 rfl) rfl ?_
  refine cl_saload hS (hx_dq tdL_8 28 rfl) rfl ?_
  refine cl_iload_n hG (hx_dq tdL_8 29 rfl) rfl ?_
  refine cl_iconst hG 1 (hx_dq tdL_8 30 rfl) iconst_1 ?_
  refine cl_iadd hG (hx_dq tdL_8 31 rfl) ?_
  refine cl_sald hS (hx_dq tdL_9 0 rfl) i1 ?_
  refine cl_callV1 (caL_55 cA) (hx_dq tdL_9 1 rfl) (mF_S49 hM) (Nat.le_of_ble_eq_true rfl) (Nat.le_trans (Nat.add_le_add_left (Nat.le_of_ble_eq_true (rfl : Nat.ble 0 21 = true)) _) hu1) (Nat.le_trans (Nat.add_le_add_left (Nat.le_of_ble_eq_true (rfl : Nat.ble 0 11725 = true)) _) hu2) (sX12_force_mk hM hw (fun q m1 hw => ?_))
  obtain ⟨he, hw⟩ := hw
  exact cl_icmp_eq hG 1301 (hx_dq tdL_9 2 rfl) rfl (fun _ => hK _ _ _ (Nat.add_le_add_left (Nat.le_of_ble_eq_true (rfl : Nat.ble 0 21 = true)) _) (Nat.add_le_add_left (Nat.le_of_ble_eq_true (rfl : Nat.ble 0 11725 = true)) _) hw) (fun c => absurd he c)
def wL_9 (Λ : hx_L) (μ : hx_M) (K : hx_L → hx_M → Prop) : Prop := wX11_fault μ (fun r => wX12_fault μ (fun q => r = q ∧ K Λ μ))
theorem kL_9 {G : hx_GT} {KK : hx_KT} {L : Nat} {xs : Nat → Int32} (hG : hx_K cL_law 4 600000 7302250 (some .boolean) TbL KK G) (hS : hx_LW cL_law L xs G) (cA : hx_CA RL cL_law 2048 600000 7302250 G) {Λ : hx_L} {μ : hx_M} {u : Nat × Nat} (hF : cF Λ) (hM : mF Λ) {v3 : Int32} (hi : ∀ k : Nat, k < 6 → vp_in (v3 + Int32.ofNat k) L) {K : hx_L → hx_M → Prop} (hu1 : u.1 + 21 ≤ 600000) (hu2 : u.2 + 11725 ≤ 7302250) (hK : ∀ (Λ1 : hx_L) (μ1 : hx_M) (u1 : Nat × Nat), u1.1 ≤ u.1 + 21 → u1.2 ≤ u.2 + 11725 → K Λ1 μ1 → G Λ1 μ1 u1 1301 [some (.retAddr 3), some (.ref 0), some (.ref 49), some (.int v3)] []) (hw : wL_9 Λ μ K) : G Λ μ u 521 [some (.retAddr 3), some (.ref 0), some (.ref 49), some (.int v3)] [] := by
  unfold wL_9 at hw
  refine cl_aload_n hG (hx_dq tdL_9 5 rfl) rfl ?_
  refine cl_callV0 (caL_56 cA) (hx_dq tdL_9 6 rfl) (cF_S0 hF) (Nat.le_of_ble_eq_true rfl) (Nat.le_trans (Nat.add_le_add_left (Nat.le_of_ble_eq_true (rfl : Nat.ble 0 21 = true)) _) hu1) (Nat.le_trans (Nat.add_le_add_left (Nat.le_of_ble_eq_true (rfl : Nat.ble 0 11725 = true)) _) hu2) (sX11_fault_mk hF hw (fun r hw => ?_))
  refine cl_aload_n hG (hx_dq tdL_9 7 rfl) rfl ?_
  refine cl_callV0 (caL_60 cA) (hx_dq tdL_9 8 rfl) (mF_S49 hM) (Nat.le_of_ble_eq_true rfl) (Nat.le_trans (Nat.add_le_add_left (Nat.le_of_ble_eq_true (rfl : Nat.ble 0 21 = true)) _) hu1) (Nat.le_trans (Nat.add_le_add_left (Nat.le_of_ble_eq_true (rfl : Nat.ble 0 11725 = true)) _) hu2) (sX12_fault_mk hM hw (fun q hw => ?_))
  obtain ⟨he, hw⟩ := hw
  exact cl_icmp_eq hG 1301 (hx_dq tdL_9 9 rfl) rfl (fun _ => hK _ _ _ (Nat.add_le_add_left (Nat.le_of_ble_eq_true (rfl : Nat.ble 0 21 = true)) _) (Nat.add_le_add_left (Nat.le_of_ble_eq_true (rfl : Nat.ble 0 11725 = true)) _) hw) (fun c => absurd he c)
def wL_10 (Λ : hx_L) (μ : hx_M) (a1 : Int32) (K : hx_L → hx_M → Prop) : Prop := wX11_run Λ μ a1 (fun r m0 => wX12_run m0 a1 (fun q m1 => r = q ∧ K Λ m1))
theorem kL_10 {G : hx_GT} {KK : hx_KT} {L : Nat} {xs : Nat → Int32} (hG : hx_K cL_law 4 600000 7302250 (some .boolean) TbL KK G) (hS : hx_LW cL_law L xs G) (cA : hx_CA RL cL_law 2048 600000 7302250 G) {Λ : hx_L} {μ : hx_M} {u : Nat × Nat} (hF : cF Λ) (hM : mF Λ) {v3 : Int32} (hi : ∀ k : Nat, k < 6 → vp_in (v3 + Int32.ofNat k) L) {K : hx_L → hx_M → Prop} (hu1 : u.1 + 21 ≤ 600000) (hu2 : u.2 + 11725 ≤ 7302250) (hK : ∀ (Λ1 : hx_L) (μ1 : hx_M) (u1 : Nat × Nat), u1.1 ≤ u.1 + 21 → u1.2 ≤ u.2 + 11725 → K Λ1 μ1 → G Λ1 μ1 u1 1301 [some (.retAddr 3), some (.ref 0), some (.ref 49), some (.int v3)] []) (hw : wL_10 Λ μ (xs (v3 + 1).toNatClampNeg) K) : G Λ μ u 534 [some (.retAddr 3), some (.ref 0), some (.ref 49), some (.int v3)] [] := by
  unfold wL_10 at hw
  have i1 : vp_in (v3 + 1) L := hi 1 (by decide)
  refine cl_aload_n hG (hx_dq tdL_9 12 rfl) rfl ?_
  refine cl_saload hS (hx_dq tdL_9 13 rfl) rfl ?_
  refine cl_iload_n hG (hx_dq tdL_9 14 rfl) rfl ?_
  refine cl_iconst hG 1 (hx_dq tdL_9 15 rfl) iconst_1 ?_
  refine cl_iadd hG (hx_dq tdL_9 16 rfl) ?_
  refine cl_sald hS (hx_dq tdL_9 17 rfl) i1 ?_
  refine cl_callV1 (caL_61 cA) (hx_dq tdL_9 18 rfl) (cF_S0 hF) (Nat.le_of_ble_eq_true rfl) (Nat.le_trans (Nat.add_le_add_left (Nat.le_of_ble_eq_true (rfl : Nat.ble 0 21 = true)) _) hu1) (Nat.le_trans (Nat.add_le_add_left (Nat.le_of_ble_eq_true (rfl : Nat.ble 0 11725 = true)) _) hu2) (sX11_run_mk hF hw (fun r m0 hw => ?_))
  refine cl_aload_n hG (hx_dq tdL_9 19 rfl) rfl ?_
  refine cl_saload hS (hx_dq tdL_9 20 rfl) rfl ?_
  refine cl_iload_n hG (hx_dq tdL_9 21 rfl) rfl ?_
  refine cl_iconst hG 1 (hx_dq tdL_9 22 rfl) iconst_1 ?_
  refine cl_iadd hG (hx_dq tdL_9 23 rfl) ?_
  refine cl_sald hS (hx_dq tdL_9 24 rfl) i1 ?_
  refine cl_callV1 (caL_64 cA) (hx_dq tdL_9 25 rfl) (mF_S49 hM) (Nat.le_of_ble_eq_true rfl) (Nat.le_trans (Nat.add_le_add_left (Nat.le_of_ble_eq_true (rfl : Nat.ble 0 21 = true)) _) hu1) (Nat.le_trans (Nat.add_le_add_left (Nat.le_of_ble_eq_true (rfl : Nat.ble 0 11725 = true)) _) hu2) (sX12_run_mk hM hw (fun q m1 hw => ?_))
  obtain ⟨he, hw⟩ := hw
  exact cl_icmp_eq hG 1301 (hx_dq tdL_9 26 rfl) rfl (fun _ => hK _ _ _ (Nat.add_le_add_left (Nat.le_of_ble_eq_true (rfl : Nat.ble 0 21 = true)) _) (Nat.add_le_add_left (Nat.le_of_ble_eq_true (rfl : Nat.ble 0 11725 = true)) _) hw) (fun c => absurd he c)
def wL_11 (Λ : hx_L) (μ : hx_M) (a1 : Int32) (K : hx_L → hx_M → Prop) : Prop := wX11_line μ a1 (fun r => wX12_line μ a1 (fun q => r = q ∧ K Λ μ))
theorem kL_11 {G : hx_GT} {KK : hx_KT} {L : Nat} {xs : Nat → Int32} (hG : hx_K cL_law 4 600000 7302250 (some .boolean) TbL KK G) (hS : hx_LW cL_law L xs G) (cA : hx_CA RL cL_law 2048 600000 7302250 G) {Λ : hx_L} {μ : hx_M} {u : Nat × Nat} (hF : cF Λ) (hM : mF Λ) {v3 : Int32} (hi : ∀ k : Nat, k < 6 → vp_in (v3 + Int32.ofNat k) L) {K : hx_L → hx_M → Prop} (hu1 : u.1 + 21 ≤ 600000) (hu2 : u.2 + 11725 ≤ 7302250) (hK : ∀ (Λ1 : hx_L) (μ1 : hx_M) (u1 : Nat × Nat), u1.1 ≤ u.1 + 21 → u1.2 ≤ u.2 + 11725 → K Λ1 μ1 → G Λ1 μ1 u1 1301 [some (.retAddr 3), some (.ref 0), some (.ref 49), some (.int v3)] []) (hw : wL_11 Λ μ (xs (v3 + 1).toNatClampNeg) K) : G Λ μ u 557 [some (.retAddr 3), some (.ref 0), some (.ref 49), some (.int v3)] [] := by
  unfold wL_11 at hw
  have i1 : vp_in (v3 + 1) L := hi 1 (by decide)
  refine cl_aload_n hG (hx_dq tdL_9 29 rfl) rfl ?_
  refine cl_saload hS (hx_dq tdL_9 30 rfl) rfl ?_
  refine cl_iload_n hG (hx_dq tdL_9 31 rfl) rfl ?_
  refine cl_iconst hG 1 (hx_dq tdL_10 0 rfl) iconst_1 ?_
  refine cl_iadd hG (hx_dq tdL_10 1 rfl) ?_
  refine cl_sald hS (hx_dq tdL_10 2 rfl) i1 ?_
  refine cl_callV1 (caL_65 cA) (hx_dq tdL_10 3 rfl) (cF_S0 hF) (Nat.le_of_ble_eq_true rfl) (Nat.le_trans (Nat.add_le_add_left (Nat.le_of_ble_eq_true (rfl : Nat.ble 0 21 = true)) _) hu1) (Nat.le_trans (Nat.add_le_add_left (Nat.le_of_ble_eq_true (rfl : Nat.ble 0 11725 = true)) _) hu2) (sX11_line_mk hF hw (fun r hw => ?_))
  refine cl_aload_n hG (hx_dq tdL_10 4 rfl) rfl ?_
  refine cl_saload hS (hx_dq tdL_10 5 rfl) rfl ?_
  refine cl_iload_n hG (hx_dq tdL_10 6 rfl) rfl ?_
  refine cl_iconst hG 1 (hx_dq tdL_10 7 rfl) iconst_1 ?_
  refine cl_iadd hG (hx_dq tdL_10 8 rfl) ?_
  refine cl_sald hS (hx_dq tdL_10 9 rfl) i1 ?_
  refine cl_callV1 (caL_68 cA) (hx_dq tdL_10 10 rfl) (mF_S49 hM) (Nat.le_of_ble_eq_true rfl) (Nat.le_trans (Nat.add_le_add_left (Nat.le_of_ble_eq_true (rfl : Nat.ble 0 21 = true)) _) hu1) (Nat.le_trans (Nat.add_le_add_left (Nat.le_of_ble_eq_true (rfl : Nat.ble 0 11725 = true)) _) hu2) (sX12_line_mk hM hw (fun q hw => ?_))
  obtain ⟨he, hw⟩ := hw
  exact cl_icmp_eq hG 1301 (hx_dq tdL_10 11 rfl) rfl (fun _ => hK _ _ _ (Nat.add_le_add_left (Nat.le_of_ble_eq_true (rfl : Nat.ble 0 21 = true)) _) (Nat.add_le_add_left (Nat.le_of_ble_eq_true (rfl : Nat.ble 0 11725 = true)) _) hw) (fun c => absurd he c)
def wL_12 (Λ : hx_L) (μ : hx_M) (a1 : Int32) (a2 : Int32) (K : hx_L → hx_M → Prop) : Prop := wX11_length μ a1 a2 (fun r => wX12_length μ a1 a2 (fun q => r = q ∧ K Λ μ))
theorem kL_12 {G : hx_GT} {KK : hx_KT} {L : Nat} {xs : Nat → Int32} (hG : hx_K cL_law 4 600000 7302250 (some .boolean) TbL KK G) (hS : hx_LW cL_law L xs G) (cA : hx_CA RL cL_law 2048 600000 7302250 G) {Λ : hx_L} {μ : hx_M} {u : Nat × Nat} (hF : cF Λ) (hM : mF Λ) {v3 : Int32} (hi : ∀ k : Nat, k < 6 → vp_in (v3 + Int32.ofNat k) L) {K : hx_L → hx_M → Prop} (hu1 : u.1 + 21 ≤ 600000) (hu2 : u.2 + 11725 ≤ 7302250) (hK : ∀ (Λ1 : hx_L) (μ1 : hx_M) (u1 : Nat × Nat), u1.1 ≤ u.1 + 21 → u1.2 ≤ u.2 + 11725 → K Λ1 μ1 → G Λ1 μ1 u1 1301 [some (.retAddr 3), some (.ref 0), some (.ref 49), some (.int v3)] []) (hw : wL_12 Λ μ (xs (v3 + 1).toNatClampNeg) (xs (v3 + 2).toNatClampNeg) K) : G Λ μ u 580 [some (.retAddr 3), some (.ref 0), some (.ref 49), some (.int v3)] [] := by
  unfold wL_12 at hw
  have i1 : vp_in (v3 + 1) L := hi 1 (by decide)
  have i2 : vp_in (v3 + 2) L := hi 2 (by decide)
  refine cl_aload_n hG (hx_dq tdL_10 14 rfl) rfl ?_
  refine cl_saload hS (hx_dq tdL_10 15 rfl) rfl ?_
  refine cl_iload_n hG (hx_dq tdL_10 16 rfl) rfl ?_
  refine cl_iconst hG 1 (hx_dq tdL_10 17 rfl) iconst_1 ?_
  refine cl_iadd hG (hx_dq tdL_10 18 rfl) ?_
  refine cl_sald hS (hx_dq tdL_10 19 rfl) i1 ?_
  refine cl_saload hS (hx_dq tdL_10 20 rfl) rfl ?_
  refine cl_iload_n hG (hx_dq tdL_10 21 rfl) rfl ?_
  refine cl_iconst hG 2 (hx_dq tdL_10 22 rfl) iconst_2 ?_
  refine cl_iadd hG (hx_dq tdL_10 23 rfl) ?_
  refine cl_sald hS (hx_dq tdL_10 24 rfl) i2 ?_
  refine cl_callV2 (caL_69 cA) (hx_dq tdL_10 25 rfl) (cF_S0 hF) (Nat.le_of_ble_eq_true rfl) (Nat.le_trans (Nat.add_le_add_left (Nat.le_of_ble_eq_true (rfl : Nat.ble 0 21 = true)) _) hu1) (Nat.le_trans (Nat.add_le_add_left (Nat.le_of_ble_eq_true (rfl : Nat.ble 0 11725 = true)) _) hu2) (sX11_length_mk hF hw (fun r hw => ?_))
  refine cl_aload_n hG (hx_dq tdL_10 26 rfl) rfl ?_
  refine cl_saload hS (hx_dq tdL_10 27 rfl) rfl ?_
  refine cl_iload_n hG (hx_dq tdL_10 28 rfl) rfl ?_
  refine cl_iconst hG 1 (hx_dq tdL_10 29 rfl) iconst_1 ?_
  refine cl_iadd hG (hx_dq tdL_10 30 rfl) ?_
  refine cl_sald hS (hx_dq tdL_10 31 rfl) i1 ?_
  refine cl_saload hS (hx_dq tdL_11 0 rfl) rfl ?_
  refine cl_iload_n hG (hx_dq tdL_11 1 rfl) rfl ?_
  refine cl_iconst hG 2 (hx_dq tdL_11 2 rfl) iconst_2 ?_
  refine cl_iadd hG (hx_dq tdL_11 3 rfl) ?_
  refine cl_sald hS (hx_dq tdL_11 4 rfl) i2 ?_
  refine cl_callV2 (caL_73 cA) (hx_dq tdL_11 5 rfl) (mF_S49 hM) (Nat.le_of_ble_eq_true rfl) (Nat.le_trans (Nat.add_le_add_left (Nat.le_of_ble_eq_true (rfl : Nat.ble 0 21 = true)) _) hu1) (Nat.le_trans (Nat.add_le_add_left (Nat.le_of_ble_eq_true (rfl : Nat.ble 0 11725 = true)) _) hu2) (sX12_length_mk hM hw (fun q hw => ?_))
  obtain ⟨he, hw⟩ := hw
  exact cl_icmp_eq hG 1301 (hx_dq tdL_11 6 rfl) rfl (fun _ => hK _ _ _ (Nat.add_le_add_left (Nat.le_of_ble_eq_true (rfl : Nat.ble 0 21 = true)) _) (Nat.add_le_add_left (Nat.le_of_ble_eq_true (rfl : Nat.ble 0 11725 = true)) _) hw) (fun c => absurd he c)
def wL_13 (Λ : hx_L) (μ : hx_M) (a1 : Int32) (a2 : Int32) (K : hx_L → hx_M → Prop) : Prop := wX11_wears Λ μ a1 a2 (fun r m0 => wX12_wears m0 a1 a2 (fun q m1 => r = q ∧ K Λ m1))
theorem kL_13 {G : hx_GT} {KK : hx_KT} {L : Nat} {xs : Nat → Int32} (hG : hx_K cL_law 4 600000 7302250 (some .boolean) TbL KK G) (hS : hx_LW cL_law L xs G) (cA : hx_CA RL cL_law 2048 600000 7302250 G) {Λ : hx_L} {μ : hx_M} {u : Nat × Nat} (hF : cF Λ) (hM : mF Λ) {v3 : Int32} (hi : ∀ k : Nat, k < 6 → vp_in (v3 + Int32.ofNat k) L) {K : hx_L → hx_M → Prop} (hu1 : u.1 + 21 ≤ 600000) (hu2 : u.2 + 11725 ≤ 7302250) (hK : ∀ (Λ1 : hx_L) (μ1 : hx_M) (u1 : Nat × Nat), u1.1 ≤ u.1 + 21 → u1.2 ≤ u.2 + 11725 → K Λ1 μ1 → G Λ1 μ1 u1 1301 [some (.retAddr 3), some (.ref 0), some (.ref 49), some (.int v3)] []) (hw : wL_13 Λ μ (xs (v3 + 1).toNatClampNeg) (xs (v3 + 2).toNatClampNeg) K) : G Λ μ u 613 [some (.retAddr 3), some (.ref 0), some (.ref 49), some (.int v3)] [] := by
  unfold wL_13 at hw
  have i1 : vp_in (v3 + 1) L := hi 1 (by decide)
  have i2 : vp_in (v3 + 2) L := hi 2 (by decide)
  refine cl_aload_n hG (hx_dq tdL_11 9 rfl) rfl ?_
  refine cl_saload hS (hx_dq tdL_11 10 rfl) rfl ?_
  refine cl_iload_n hG (hx_dq tdL_11 11 rfl) rfl ?_
  refine cl_iconst hG 1 (hx_dq tdL_11 12 rfl) iconst_1 ?_
  refine cl_iadd hG (hx_dq tdL_11 13 rfl) ?_
  refine cl_sald hS (hx_dq tdL_11 14 rfl) i1 ?_
  refine cl_saload hS (hx_dq tdL_11 15 rfl) rfl ?_
  refine cl_iload_n hG (hx_dq tdL_11 16 rfl) rfl ?_
  refine cl_iconst hG 2 (hx_dq tdL_11 17 rfl) iconst_2 ?_
  refine cl_iadd hG (hx_dq tdL_11 18 rfl) ?_
  refine cl_sald hS (hx_dq tdL_11 19 rfl) i2 ?_
  refine cl_callV2 (caL_74 cA) (hx_dq tdL_11 20 rfl) (cF_S0 hF) (Nat.le_of_ble_eq_true rfl) (Nat.le_trans (Nat.add_le_add_left (Nat.le_of_ble_eq_true (rfl : Nat.ble 0 21 = true)) _) hu1) (Nat.le_trans (Nat.add_le_add_left (Nat.le_of_ble_eq_true (rfl : Nat.ble 0 11725 = true)) _) hu2) (sX11_wears_mk hF hw (fun r m0 hw => ?_))
  refine cl_aload_n hG (hx_dq tdL_11 21 rfl) rfl ?_
  refine cl_saload hS (hx_dq tdL_11 22 rfl) rfl ?_
  refine cl_iload_n hG (hx_dq tdL_11 23 rfl) rfl ?_
  refine cl_iconst hG 1 (hx_dq tdL_11 24 rfl) iconst_1 ?_
  refine cl_iadd hG (hx_dq tdL_11 25 rfl) ?_
  refine cl_sald hS (hx_dq tdL_11 26 rfl) i1 ?_
  refine cl_saload hS (hx_dq tdL_11 27 rfl) rfl ?_
  refine cl_iload_n hG (hx_dq tdL_11 28 rfl) rfl ?_
  refine cl_iconst hG 2 (hx_dq tdL_11 29 rfl) iconst_2 ?_
  refine cl_iadd hG (hx_dq tdL_11 30 rfl) ?_
  refine cl_sald hS (hx_dq tdL_11 31 rfl) i2 ?_
  refine cl_callV2 (caL_77 cA) (hx_dq tdL_12 0 rfl) (mF_S49 hM) (Nat.le_of_ble_eq_true rfl) (Nat.le_trans (Nat.add_le_add_left (Nat.le_of_ble_eq_true (rfl : Nat.ble 0 21 = true)) _) hu1) (Nat.le_trans (Nat.add_le_add_left (Nat.le_of_ble_eq_true (rfl : Nat.ble 0 11725 = true)) _) hu2) (sX12_wears_mk hM hw (fun q m1 hw => ?_))
  obtain ⟨he, hw⟩ := hw
  exact cl_icmp_eq hG 1301 (hx_dq tdL_12 1 rfl) rfl (fun _ => hK _ _ _ (Nat.add_le_add_left (Nat.le_of_ble_eq_true (rfl : Nat.ble 0 21 = true)) _) (Nat.add_le_add_left (Nat.le_of_ble_eq_true (rfl : Nat.ble 0 11725 = true)) _) hw) (fun c => absurd he c)
def wL_14 (Λ : hx_L) (μ : hx_M) (a1 : Int32) (a2 : Int32) (K : hx_L → hx_M → Prop) : Prop := wX11_round Λ μ a1 a2 (fun r m0 => wX12_round m0 a1 a2 (fun q m1 => r = q ∧ K Λ m1))
theorem kL_14 {G : hx_GT} {KK : hx_KT} {L : Nat} {xs : Nat → Int32} (hG : hx_K cL_law 4 600000 7302250 (some .boolean) TbL KK G) (hS : hx_LW cL_law L xs G) (cA : hx_CA RL cL_law 2048 600000 7302250 G) {Λ : hx_L} {μ : hx_M} {u : Nat × Nat} (hF : cF Λ) (hM : mF Λ) {v3 : Int32} (hi : ∀ k : Nat, k < 6 → vp_in (v3 + Int32.ofNat k) L) {K : hx_L → hx_M → Prop} (hu1 : u.1 + 21 ≤ 600000) (hu2 : u.2 + 11725 ≤ 7302250) (hK : ∀ (Λ1 : hx_L) (μ1 : hx_M) (u1 : Nat × Nat), u1.1 ≤ u.1 + 21 → u1.2 ≤ u.2 + 11725 → K Λ1 μ1 → G Λ1 μ1 u1 1301 [some (.retAddr 3), some (.ref 0), some (.ref 49), some (.int v3)] []) (hw : wL_14 Λ μ (xs (v3 + 1).toNatClampNeg) (xs (v3 + 2).toNatClampNeg) K) : G Λ μ u 646 [some (.retAddr 3), some (.ref 0), some (.ref 49), some (.int v3)] [] := by
  unfold wL_14 at hw
  have i1 : vp_in (v3 + 1) L := hi 1 (by decide)
  have i2 : vp_in (v3 + 2) L := hi 2 (by decide)
  refine cl_aload_n hG (hx_dq tdL_12 4 rfl) rfl ?_
  refine cl_saload hS (hx_dq tdL_12 5 rfl) rfl ?_
  refine cl_iload_n hG (hx_dq tdL_12 6 rfl) rfl ?_
  refine cl_iconst hG 1 (hx_dq tdL_12 7 rfl) iconst_1 ?_
  refine cl_iadd hG (hx_dq tdL_12 8 rfl) ?_
  refine cl_sald hS (hx_dq tdL_12 9 rfl) i1 ?_
  refine cl_saload hS (hx_dq tdL_12 10 rfl) rfl ?_
  refine cl_iload_n hG (hx_dq tdL_12 11 rfl) rfl ?_
  refine cl_iconst hG 2 (hx_dq tdL_12 12 rfl) iconst_2 ?_
  refine cl_iadd hG (hx_dq tdL_12 13 rfl) ?_
  refine cl_sald hS (hx_dq tdL_12 14 rfl) i2 ?_
  refine cl_callV2 (caL_78 cA) (hx_dq tdL_12 15 rfl) (cF_S0 hF) (Nat.le_of_ble_eq_true rfl) (Nat.le_trans (Nat.add_le_add_left (Nat.le_of_ble_eq_true (rfl : Nat.ble 0 21 = true)) _) hu1) (Nat.le_trans (Nat.add_le_add_left (Nat.le_of_ble_eq_true (rfl : Nat.ble 0 11725 = true)) _) hu2) (sX11_round_mk hF hw (fun r m0 hw => ?_))
  refine cl_aload_n hG (hx_dq tdL_12 16 rfl) rfl ?_
  refine cl_saload hS (hx_dq tdL_12 17 rfl) rfl ?_
  refine cl_iload_n hG (hx_dq tdL_12 18 rfl) rfl ?_
  refine cl_iconst hG 1 (hx_dq tdL_12 19 rfl) iconst_1 ?_
  refine cl_iadd hG (hx_dq tdL_12 20 rfl) ?_
  refine cl_sald hS (hx_dq tdL_12 21 rfl) i1 ?_
  refine cl_saload hS (hx_dq tdL_12 22 rfl) rfl ?_
  refine cl_iload_n hG (hx_dq tdL_12 23 rfl) rfl ?_
  refine cl_iconst hG 2 (hx_dq tdL_12 24 rfl) iconst_2 ?_
  refine cl_iadd hG (hx_dq tdL_12 25 rfl) ?_
  refine cl_sald hS (hx_dq tdL_12 26 rfl) i2 ?_
  refine cl_callV2 (caL_81 cA) (hx_dq tdL_12 27 rfl) (mF_S49 hM) (Nat.le_of_ble_eq_true rfl) (Nat.le_trans (Nat.add_le_add_left (Nat.le_of_ble_eq_true (rfl : Nat.ble 0 21 = true)) _) hu1) (Nat.le_trans (Nat.add_le_add_left (Nat.le_of_ble_eq_true (rfl : Nat.ble 0 11725 = true)) _) hu2) (sX12_round_mk hM hw (fun q m1 hw => ?_))
  obtain ⟨he, hw⟩ := hw
  exact cl_icmp_eq hG 1301 (hx_dq tdL_12 28 rfl) rfl (fun _ => hK _ _ _ (Nat.add_le_add_left (Nat.le_of_ble_eq_true (rfl : Nat.ble 0 21 = true)) _) (Nat.add_le_add_left (Nat.le_of_ble_eq_true (rfl : Nat.ble 0 11725 = true)) _) hw) (fun c => absurd he c)
def wL_15 (Λ : hx_L) (μ : hx_M) (a1 : Int32) (a2 : Int32) (a3 : Int32) (a4 : Int32) (K : hx_L → hx_M → Prop) : Prop := wX11_pushed Λ μ a1 a2 a3 a4 (fun r m0 => wX12_pushed m0 a1 a2 a3 a4 (fun q m1 => r = q ∧ K Λ m1))
theorem kL_15 {G : hx_GT} {KK : hx_KT} {L : Nat} {xs : Nat → Int32} (hG : hx_K cL_law 4 600000 7302250 (some .boolean) TbL KK G) (hS : hx_LW cL_law L xs G) (cA : hx_CA RL cL_law 2048 600000 7302250 G) {Λ : hx_L} {μ : hx_M} {u : Nat × Nat} (hF : cF Λ) (hM : mF Λ) {v3 : Int32} (hi : ∀ k : Nat, k < 6 → vp_in (v3 + Int32.ofNat k) L) {K : hx_L → hx_M → Prop} (hu1 : u.1 + 21 ≤ 600000) (hu2 : u.2 + 11725 ≤ 7302250) (hK : ∀ (Λ1 : hx_L) (μ1 : hx_M) (u1 : Nat × Nat), u1.1 ≤ u.1 + 21 → u1.2 ≤ u.2 + 11725 → K Λ1 μ1 → G Λ1 μ1 u1 1301 [some (.retAddr 3), some (.ref 0), some (.ref 49), some (.int v3)] []) (hw : wL_15 Λ μ (xs (v3 + 1).toNatClampNeg) (xs (v3 + 2).toNatClampNeg) (xs (v3 + 3).toNatClampNeg) (xs (v3 + 4).toNatClampNeg) K) : G Λ μ u 679 [some (.retAddr 3), some (.ref 0), some (.ref 49), some (.int v3)] [] := by
  unfold wL_15 at hw
  have i1 : vp_in (v3 + 1) L := hi 1 (by decide)
  have i2 : vp_in (v3 + 2) L := hi 2 (by decide)
  have i3 : vp_in (v3 + 3) L := hi 3 (by decide)
  have i4 : vp_in (v3 + 4) L := hi 4 (by decide)
  refine cl_aload_n hG (hx_dq tdL_12 31 rfl) rfl ?_
  refine cl_saload hS (hx_dq tdL_13 0 rfl) rfl ?_
  refine cl_iload_n hG (hx_dq tdL_13 1 rfl) rfl ?_
  refine cl_iconst hG 1 (hx_dq tdL_13 2 rfl) iconst_1 ?_
  refine cl_iadd hG (hx_dq tdL_13 3 rfl) ?_
  refine cl_sald hS (hx_dq tdL_13 4 rfl) i1 ?_
  refine cl_saload hS (hx_dq tdL_13 5 rfl) rfl ?_
  refine cl_iload_n hG (hx_dq tdL_13 6 rfl) rfl ?_
  refine cl_iconst hG 2 (hx_dq tdL_13 7 rfl) iconst_2 ?_
  refine cl_iadd hG (hx_dq tdL_13 8 rfl) ?_
  refine cl_sald hS (hx_dq tdL_13 9 rfl) i2 ?_
  refine cl_saload hS (hx_dq tdL_13 10 rfl) rfl ?_
  refine cl_iload_n hG (hx_dq tdL_13 11 rfl) rfl ?_
  refine cl_iconst hG 3 (hx_dq tdL_13 12 rfl) iconst_3 ?_
  refine cl_iadd hG (hx_dq tdL_13 13 rfl) ?_
  refine cl_sald hS (hx_dq tdL_13 14 rfl) i3 ?_
  refine cl_saload hS (hx_dq tdL_13 15 rfl) rfl ?_
  refine cl_iload_n hG (hx_dq tdL_13 16 rfl) rfl ?_
  refine cl_iconst hG 4 (hx_dq tdL_13 17 rfl) iconst_4 ?_
  refine cl_iadd hG (hx_dq tdL_13 18 rfl) ?_
  refine cl_sald hS (hx_dq tdL_13 19 rfl) i4 ?_
  refine cl_callV4 (caL_82 cA) (hx_dq tdL_13 20 rfl) (cF_S0 hF) (Nat.le_of_ble_eq_true rfl) (Nat.le_trans (Nat.add_le_add_left (Nat.le_of_ble_eq_true (rfl : Nat.ble 0 21 = true)) _) hu1) (Nat.le_trans (Nat.add_le_add_left (Nat.le_of_ble_eq_true (rfl : Nat.ble 0 11725 = true)) _) hu2) (sX11_pushed_mk hF hw (fun r m0 hw => ?_))
  refine cl_aload_n hG (hx_dq tdL_13 21 rfl) rfl ?_
  refine cl_saload hS (hx_dq tdL_13 22 rfl) rfl ?_
  refine cl_iload_n hG (hx_dq tdL_13 23 rfl) rfl ?_
  refine cl_iconst hG 1 (hx_dq tdL_13 24 rfl) iconst_1 ?_
  refine cl_iadd hG (hx_dq tdL_13 25 rfl) ?_
  refine cl_sald hS (hx_dq tdL_13 26 rfl) i1 ?_
  refine cl_saload hS (hx_dq tdL_13 27 rfl) rfl ?_
  refine cl_iload_n hG (hx_dq tdL_13 28 rfl) rfl ?_
  refine cl_iconst hG 2 (hx_dq tdL_13 29 rfl) iconst_2 ?_
  refine cl_iadd hG (hx_dq tdL_13 30 rfl) ?_
  refine cl_sald hS (hx_dq tdL_13 31 rfl) i2 ?_
  refine cl_saload hS (hx_dq tdL_14 0 rfl) rfl ?_
  refine cl_iload_n hG (hx_dq tdL_14 1 rfl) rfl ?_
  refine cl_iconst hG 3 (hx_dq tdL_14 2 rfl) iconst_3 ?_
  refine cl_iadd hG (hx_dq tdL_14 3 rfl) ?_
  refine cl_sald hS (hx_dq tdL_14 4 rfl) i3 ?_
  refine cl_saload hS (hx_dq tdL_14 5 rfl) rfl ?_
  refine cl_iload_n hG (hx_dq tdL_14 6 rfl) rfl ?_
  refine cl_iconst hG 4 (hx_dq tdL_14 7 rfl) iconst_4 ?_
  refine cl_iadd hG (hx_dq tdL_14 8 rfl) ?_
  refine cl_sald hS (hx_dq tdL_14 9 rfl) i4 ?_
  refine cl_callV4 (caL_86 cA) (hx_dq tdL_14 10 rfl) (mF_S49 hM) (Nat.le_of_ble_eq_true rfl) (Nat.le_trans (Nat.add_le_add_left (Nat.le_of_ble_eq_true (rfl : Nat.ble 0 21 = true)) _) hu1) (Nat.le_trans (Nat.add_le_add_left (Nat.le_of_ble_eq_true (rfl : Nat.ble 0 11725 = true)) _) hu2) (sX12_pushed_mk hM hw (fun q m1 hw => ?_))
  obtain ⟨he, hw⟩ := hw
  exact cl_icmp_eq hG 1301 (hx_dq tdL_14 11 rfl) rfl (fun _ => hK _ _ _ (Nat.add_le_add_left (Nat.le_of_ble_eq_true (rfl : Nat.ble 0 21 = true)) _) (Nat.add_le_add_left (Nat.le_of_ble_eq_true (rfl : Nat.ble 0 11725 = true)) _) hw) (fun c => absurd he c)
def wL_16 (Λ : hx_L) (μ : hx_M) (a1 : Int32) (a2 : Int32) (K : hx_L → hx_M → Prop) : Prop := wX11_led Λ μ a1 a2 (fun r m0 => wX12_led m0 a1 a2 (fun q => r = q ∧ K Λ m0))
theorem kL_16 {G : hx_GT} {KK : hx_KT} {L : Nat} {xs : Nat → Int32} (hG : hx_K cL_law 4 600000 7302250 (some .boolean) TbL KK G) (hS : hx_LW cL_law L xs G) (cA : hx_CA RL cL_law 2048 600000 7302250 G) {Λ : hx_L} {μ : hx_M} {u : Nat × Nat} (hF : cF Λ) (hM : mF Λ) {v3 : Int32} (hi : ∀ k : Nat, k < 6 → vp_in (v3 + Int32.ofNat k) L) {K : hx_L → hx_M → Prop} (hu1 : u.1 + 21 ≤ 600000) (hu2 : u.2 + 11725 ≤ 7302250) (hK : ∀ (Λ1 : hx_L) (μ1 : hx_M) (u1 : Nat × Nat), u1.1 ≤ u.1 + 21 → u1.2 ≤ u.2 + 11725 → K Λ1 μ1 → G Λ1 μ1 u1 1301 [some (.retAddr 3), some (.ref 0), some (.ref 49), some (.int v3)] []) (hw : wL_16 Λ μ (xs (v3 + 1).toNatClampNeg) (xs (v3 + 2).toNatClampNeg) K) : G Λ μ u 732 [some (.retAddr 3), some (.ref 0), some (.ref 49), some (.int v3)] [] := by
  unfold wL_16 at hw
  have i1 : vp_in (v3 + 1) L := hi 1 (by decide)
  have i2 : vp_in (v3 + 2) L := hi 2 (by decide)
  refine cl_aload_n hG (hx_dq tdL_14 14 rfl) rfl ?_
  refine cl_saload hS (hx_dq tdL_14 15 rfl) rfl ?_
  refine cl_iload_n hG (hx_dq tdL_14 16 rfl) rfl ?_
  refine cl_iconst hG 1 (hx_dq tdL_14 17 rfl) iconst_1 ?_
  refine cl_iadd hG (hx_dq tdL_14 18 rfl) ?_
  refine cl_sald hS (hx_dq tdL_14 19 rfl) i1 ?_
  refine cl_saload hS (hx_dq tdL_14 20 rfl) rfl ?_
  refine cl_iload_n hG (hx_dq tdL_14 21 rfl) rfl ?_
  refine cl_iconst hG 2 (hx_dq tdL_14 22 rfl) iconst_2 ?_
  refine cl_iadd hG (hx_dq tdL_14 23 rfl) ?_
  refine cl_sald hS (hx_dq tdL_14 24 rfl) i2 ?_
  refine cl_callV2 (caL_87 cA) (hx_dq tdL_14 25 rfl) (cF_S0 hF) (Nat.le_of_ble_eq_true rfl) (Nat.le_trans (Nat.add_le_add_left (Nat.le_of_ble_eq_true (rfl : Nat.ble 0 21 = true)) _) hu1) (Nat.le_trans (Nat.add_le_add_left (Nat.le_of_ble_eq_true (rfl : Nat.ble 0 11725 = true)) _) hu2) (sX11_led_mk hF hw (fun r m0 hw => ?_))
  refine cl_aload_n hG (hx_dq tdL_14 26 rfl) rfl ?_
  refine cl_saload hS (hx_dq tdL_14 27 rfl) rfl ?_
  refine cl_iload_n hG (hx_dq tdL_14 28 rfl) rfl ?_
  refine cl_iconst hG 1 (hx_dq tdL_14 29 rfl) iconst_1 ?_
  refine cl_iadd hG (hx_dq tdL_14 30 rfl) ?_
  refine cl_sald hS (hx_dq tdL_14 31 rfl) i1 ?_
  refine cl_saload hS (hx_dq tdL_15 0 rfl) rfl ?_
  refine cl_iload_n hG (hx_dq tdL_15 1 rfl) rfl ?_
  refine cl_iconst hG 2 (hx_dq tdL_15 2 rfl) iconst_2 ?_
  refine cl_iadd hG (hx_dq tdL_15 3 rfl) ?_
  refine cl_sald hS (hx_dq tdL_15 4 rfl) i2 ?_
  refine cl_callV2 (caL_90 cA) (hx_dq tdL_15 5 rfl) (mF_S49 hM) (Nat.le_of_ble_eq_true rfl) (Nat.le_trans (Nat.add_le_add_left (Nat.le_of_ble_eq_true (rfl : Nat.ble 0 21 = true)) _) hu1) (Nat.le_trans (Nat.add_le_add_left (Nat.le_of_ble_eq_true (rfl : Nat.ble 0 11725 = true)) _) hu2) (sX12_led_mk hM hw (fun q hw => ?_))
  obtain ⟨he, hw⟩ := hw
  exact cl_icmp_eq hG 1301 (hx_dq tdL_15 6 rfl) rfl (fun _ => hK _ _ _ (Nat.add_le_add_left (Nat.le_of_ble_eq_true (rfl : Nat.ble 0 21 = true)) _) (Nat.add_le_add_left (Nat.le_of_ble_eq_true (rfl : Nat.ble 0 11725 = true)) _) hw) (fun c => absurd he c)
def wL_17 (Λ : hx_L) (μ : hx_M) (a1 : Int32) (a2 : Int32) (a3 : Int32) (K : hx_L → hx_M → Prop) : Prop := wX11_alone μ a1 a2 a3 (fun r => wX12_alone μ a1 a2 a3 (fun q => r = q ∧ K Λ μ))
theorem kL_17 {G : hx_GT} {KK : hx_KT} {L : Nat} {xs : Nat → Int32} (hG : hx_K cL_law 4 600000 7302250 (some .boolean) TbL KK G) (hS : hx_LW cL_law L xs G) (cA : hx_CA RL cL_law 2048 600000 7302250 G) {Λ : hx_L} {μ : hx_M} {u : Nat × Nat} (hF : cF Λ) (hM : mF Λ) {v3 : Int32} (hi : ∀ k : Nat, k < 6 → vp_in (v3 + Int32.ofNat k) L) {K : hx_L → hx_M → Prop} (hu1 : u.1 + 21 ≤ 600000) (hu2 : u.2 + 11725 ≤ 7302250) (hK : ∀ (Λ1 : hx_L) (μ1 : hx_M) (u1 : Nat × Nat), u1.1 ≤ u.1 + 21 → u1.2 ≤ u.2 + 11725 → K Λ1 μ1 → G Λ1 μ1 u1 1301 [some (.retAddr 3), some (.ref 0), some (.ref 49), some (.int v3)] []) (hw : wL_17 Λ μ (xs (v3 + 1).toNatClampNeg) (xs (v3 + 2).toNatClampNeg) (xs (v3 + 3).toNatClampNeg) K) : G Λ μ u 765 [some (.retAddr 3), some (.ref 0), some (.ref 49), some (.int v3)] [] := by
  unfold wL_17 at hw
  have i1 : vp_in (v3 + 1) L := hi 1 (by decide)
  have i2 : vp_in (v3 + 2) L := hi 2 (by decide)
  have i3 : vp_in (v3 + 3) L := hi 3 (by decide)
  refine cl_aload_n hG (hx_dq tdL_15 9 rfl) rfl ?_
  refine cl_saload hS (hx_dq tdL_15 10 rfl) rfl ?_
  refine cl_iload_n hG (hx_dq tdL_15 11 rfl) rfl ?_
  refine cl_iconst hG 1 (hx_dq tdL_15 12 rfl) iconst_1 ?_
  refine cl_iadd hG (hx_dq tdL_15 13 rfl) ?_
  refine cl_sald hS (hx_dq tdL_15 14 rfl) i1 ?_
  refine cl_saload hS (hx_dq tdL_15 15 rfl) rfl ?_
  refine cl_iload_n hG (hx_dq tdL_15 16 rfl) rfl ?_
  refine cl_iconst hG 2 (hx_dq tdL_15 17 rfl) iconst_2 ?_
  refine cl_iadd hG (hx_dq tdL_15 18 rfl) ?_
  refine cl_sald hS (hx_dq tdL_15 19 rfl) i2 ?_
  refine cl_saload hS (hx_dq tdL_15 20 rfl) rfl ?_
  refine cl_iload_n hG (hx_dq tdL_15 21 rfl) rfl ?_
  refine cl_iconst hG 3 (hx_dq tdL_15 22 rfl) iconst_3 ?_
  refine cl_iadd hG (hx_dq tdL_15 23 rfl) ?_
  refine cl_sald hS (hx_dq tdL_15 24 rfl) i3 ?_
  refine cl_callV3 (caL_91 cA) (hx_dq tdL_15 25 rfl) (cF_S0 hF) (Nat.le_of_ble_eq_true rfl) (Nat.le_trans (Nat.add_le_add_left (Nat.le_of_ble_eq_true (rfl : Nat.ble 0 21 = true)) _) hu1) (Nat.le_trans (Nat.add_le_add_left (Nat.le_of_ble_eq_true (rfl : Nat.ble 0 11725 = true)) _) hu2) (sX11_alone_mk hF hw (fun r hw => ?_))
  refine cl_aload_n hG (hx_dq tdL_15 26 rfl) rfl ?_
  refine cl_saload hS (hx_dq tdL_15 27 rfl) rfl ?_
  refine cl_iload_n hG (hx_dq tdL_15 28 rfl) rfl ?_
  refine cl_iconst hG 1 (hx_dq tdL_15 29 rfl) iconst_1 ?_
  refine cl_iadd hG (hx_dq tdL_15 30 rfl) ?_
  refine cl_sald hS (hx_dq tdL_15 31 rfl) i1 ?_
  refine cl_saload hS (hx_dq tdL_16 0 rfl) rfl ?_
  refine cl_iload_n hG (hx_dq tdL_16 1 rfl) rfl ?_
  refine cl_iconst hG 2 (hx_dq tdL_16 2 rfl) iconst_2 ?_
  refine cl_iadd hG (hx_dq tdL_16 3 rfl) ?_
  refine cl_sald hS (hx_dq tdL_16 4 rfl) i2 ?_
  refine cl_saload hS (hx_dq tdL_16 5 rfl) rfl ?_
  refine cl_iload_n hG (hx_dq tdL_16 6 rfl) rfl ?_
  refine cl_iconst hG 3 (hx_dq tdL_16 7 rfl) iconst_3 ?_
  refine cl_iadd hG (hx_dq tdL_16 8 rfl) ?_
  refine cl_sald hS (hx_dq tdL_16 9 rfl) i3 ?_
  refine cl_callV3 (caL_94 cA) (hx_dq tdL_16 10 rfl) (mF_S49 hM) (Nat.le_of_ble_eq_true rfl) (Nat.le_trans (Nat.add_le_add_left (Nat.le_of_ble_eq_true (rfl : Nat.ble 0 21 = true)) _) hu1) (Nat.le_trans (Nat.add_le_add_left (Nat.le_of_ble_eq_true (rfl : Nat.ble 0 11725 = true)) _) hu2) (sX12_alone_mk hM hw (fun q hw => ?_))
  obtain ⟨he, hw⟩ := hw
  exact cl_icmp_eq hG 1301 (hx_dq tdL_16 11 rfl) rfl (fun _ => hK _ _ _ (Nat.add_le_add_left (Nat.le_of_ble_eq_true (rfl : Nat.ble 0 21 = true)) _) (Nat.add_le_add_left (Nat.le_of_ble_eq_true (rfl : Nat.ble 0 11725 = true)) _) hw) (fun c => absurd he c)
def wL_18 (Λ : hx_L) (μ : hx_M) (a1 : Int32) (a2 : Int32) (K : hx_L → hx_M → Prop) : Prop := wX11_like μ a1 a2 (fun r => wX12_like μ a1 a2 (fun q => r = q ∧ K Λ μ))
theorem kL_18 {G : hx_GT} {KK : hx_KT} {L : Nat} {xs : Nat → Int32} (hG : hx_K cL_law 4 600000 7302250 (some .boolean) TbL KK G) (hS : hx_LW cL_law L xs G) (cA : hx_CA RL cL_law 2048 600000 7302250 G) {Λ : hx_L} {μ : hx_M} {u : Nat × Nat} (hF : cF Λ) (hM : mF Λ) {v3 : Int32} (hi : ∀ k : Nat, k < 6 → vp_in (v3 + Int32.ofNat k) L) {K : hx_L → hx_M → Prop} (hu1 : u.1 + 21 ≤ 600000) (hu2 : u.2 + 11725 ≤ 7302250) (hK : ∀ (Λ1 : hx_L) (μ1 : hx_M) (u1 : Nat × Nat), u1.1 ≤ u.1 + 21 → u1.2 ≤ u.2 + 11725 → K Λ1 μ1 → G Λ1 μ1 u1 1301 [some (.retAddr 3), some (.ref 0), some (.ref 49), some (.int v3)] []) (hw : wL_18 Λ μ (xs (v3 + 1).toNatClampNeg) (xs (v3 + 2).toNatClampNeg) K) : G Λ μ u 808 [some (.retAddr 3), some (.ref 0), some (.ref 49), some (.int v3)] [] := by
  unfold wL_18 at hw
  have i1 : vp_in (v3 + 1) L := hi 1 (by decide)
  have i2 : vp_in (v3 + 2) L := hi 2 (by decide)
  refine cl_aload_n hG (hx_dq tdL_16 14 rfl) rfl ?_
  refine cl_saload hS (hx_dq tdL_16 15 rfl) rfl ?_
  refine cl_iload_n hG (hx_dq tdL_16 16 rfl) rfl ?_
  refine cl_iconst hG 1 (hx_dq tdL_16 17 rfl) iconst_1 ?_
  refine cl_iadd hG (hx_dq tdL_16 18 rfl) ?_
  refine cl_sald hS (hx_dq tdL_16 19 rfl) i1 ?_
  refine cl_saload hS (hx_dq tdL_16 20 rfl) rfl ?_
  refine cl_iload_n hG (hx_dq tdL_16 21 rfl) rfl ?_
  refine cl_iconst hG 2 (hx_dq tdL_16 22 rfl) iconst_2 ?_
  refine cl_iadd hG (hx_dq tdL_16 23 rfl) ?_
  refine cl_sald hS (hx_dq tdL_16 24 rfl) i2 ?_
  refine cl_callV2 (caL_95 cA) (hx_dq tdL_16 25 rfl) (cF_S0 hF) (Nat.le_of_ble_eq_true rfl) (Nat.le_trans (Nat.add_le_add_left (Nat.le_of_ble_eq_true (rfl : Nat.ble 0 21 = true)) _) hu1) (Nat.le_trans (Nat.add_le_add_left (Nat.le_of_ble_eq_true (rfl : Nat.ble 0 11725 = true)) _) hu2) (sX11_like_mk hF hw (fun r hw => ?_))
  refine cl_aload_n hG (hx_dq tdL_16 26 rfl) rfl ?_
  refine cl_saload hS (hx_dq tdL_16 27 rfl) rfl ?_
  refine cl_iload_n hG (hx_dq tdL_16 28 rfl) rfl ?_
  refine cl_iconst hG 1 (hx_dq tdL_16 29 rfl) iconst_1 ?_
  refine cl_iadd hG (hx_dq tdL_16 30 rfl) ?_
  refine cl_sald hS (hx_dq tdL_16 31 rfl) i1 ?_
  refine cl_saload hS (hx_dq tdL_17 0 rfl) rfl ?_
  refine cl_iload_n hG (hx_dq tdL_17 1 rfl) rfl ?_
  refine cl_iconst hG 2 (hx_dq tdL_17 2 rfl) iconst_2 ?_
  refine cl_iadd hG (hx_dq tdL_17 3 rfl) ?_
  refine cl_sald hS (hx_dq tdL_17 4 rfl) i2 ?_
  refine cl_callV2 (caL_98 cA) (hx_dq tdL_17 5 rfl) (mF_S49 hM) (Nat.le_of_ble_eq_true rfl) (Nat.le_trans (Nat.add_le_add_left (Nat.le_of_ble_eq_true (rfl : Nat.ble 0 21 = true)) _) hu1) (Nat.le_trans (Nat.add_le_add_left (Nat.le_of_ble_eq_true (rfl : Nat.ble 0 11725 = true)) _) hu2) (sX12_like_mk hM hw (fun q hw => ?_))
  obtain ⟨he, hw⟩ := hw
  exact cl_icmp_eq hG 1301 (hx_dq tdL_17 6 rfl) rfl (fun _ => hK _ _ _ (Nat.add_le_add_left (Nat.le_of_ble_eq_true (rfl : Nat.ble 0 21 = true)) _) (Nat.add_le_add_left (Nat.le_of_ble_eq_true (rfl : Nat.ble 0 11725 = true)) _) hw) (fun c => absurd he c)
def wL_19 (Λ : hx_L) (μ : hx_M) (a1 : Int32) (a2 : Int32) (K : hx_L → hx_M → Prop) : Prop := wX11_street μ a1 a2 (fun r => wX12_street μ a1 a2 (fun q m1 => r = q ∧ K Λ m1))
theorem kL_19 {G : hx_GT} {KK : hx_KT} {L : Nat} {xs : Nat → Int32} (hG : hx_K cL_law 4 600000 7302250 (some .boolean) TbL KK G) (hS : hx_LW cL_law L xs G) (cA : hx_CA RL cL_law 2048 600000 7302250 G) {Λ : hx_L} {μ : hx_M} {u : Nat × Nat} (hF : cF Λ) (hM : mF Λ) {v3 : Int32} (hi : ∀ k : Nat, k < 6 → vp_in (v3 + Int32.ofNat k) L) {K : hx_L → hx_M → Prop} (hu1 : u.1 + 21 ≤ 600000) (hu2 : u.2 + 11725 ≤ 7302250) (hK : ∀ (Λ1 : hx_L) (μ1 : hx_M) (u1 : Nat × Nat), u1.1 ≤ u.1 + 21 → u1.2 ≤ u.2 + 11725 → K Λ1 μ1 → G Λ1 μ1 u1 1301 [some (.retAddr 3), some (.ref 0), some (.ref 49), some (.int v3)] []) (hw : wL_19 Λ μ (xs (v3 + 1).toNatClampNeg) (xs (v3 + 2).toNatClampNeg) K) : G Λ μ u 841 [some (.retAddr 3), some (.ref 0), some (.ref 49), some (.int v3)] [] := by
  unfold wL_19 at hw
  have i1 : vp_in (v3 + 1) L := hi 1 (by decide)
  have i2 : vp_in (v3 + 2) L := hi 2 (by decide)
  refine cl_aload_n hG (hx_dq tdL_17 9 rfl) rfl ?_
  refine cl_saload hS (hx_dq tdL_17 10 rfl) rfl ?_
  refine cl_iload_n hG (hx_dq tdL_17 11 rfl) rfl ?_
  refine cl_iconst hG 1 (hx_dq tdL_17 12 rfl) iconst_1 ?_
  refine cl_iadd hG (hx_dq tdL_17 13 rfl) ?_
  refine cl_sald hS (hx_dq tdL_17 14 rfl) i1 ?_
  refine cl_saload hS (hx_dq tdL_17 15 rfl) rfl ?_
  refine cl_iload_n hG (hx_dq tdL_17 16 rfl) rfl ?_
  refine cl_iconst hG 2 (hx_dq tdL_17 17 rfl) iconst_2 ?_
  refine cl_iadd hG (hx_dq tdL_17 18 rfl) ?_
  refine cl_sald hS (hx_dq tdL_17 19 rfl) i2 ?_
  refine cl_callV2 (caL_99 cA) (hx_dq tdL_17 20 rfl) (cF_S0 hF) (Nat.le_of_ble_eq_true rfl) (Nat.le_trans (Nat.add_le_add_left (Nat.le_of_ble_eq_true (rfl : Nat.ble 0 21 = true)) _) hu1) (Nat.le_trans (Nat.add_le_add_left (Nat.le_of_ble_eq_true (rfl : Nat.ble 0 11725 = true)) _) hu2) (sX11_street_mk hF hw (fun r hw => ?_))
  refine cl_aload_n hG (hx_dq tdL_17 21 rfl) rfl ?_
  refine cl_saload hS (hx_dq tdL_17 22 rfl) rfl ?_
  refine cl_iload_n hG (hx_dq tdL_17 23 rfl) rfl ?_
  refine cl_iconst hG 1 (hx_dq tdL_17 24 rfl) iconst_1 ?_
  refine cl_iadd hG (hx_dq tdL_17 25 rfl) ?_
  refine cl_sald hS (hx_dq tdL_17 26 rfl) i1 ?_
  refine cl_saload hS (hx_dq tdL_17 27 rfl) rfl ?_
  refine cl_iload_n hG (hx_dq tdL_17 28 rfl) rfl ?_
  refine cl_iconst hG 2 (hx_dq tdL_17 29 rfl) iconst_2 ?_
  refine cl_iadd hG (hx_dq tdL_17 30 rfl) ?_
  refine cl_sald hS (hx_dq tdL_17 31 rfl) i2 ?_
  refine cl_callV2 (caL_102 cA) (hx_dq tdL_18 0 rfl) (mF_S49 hM) (Nat.le_of_ble_eq_true rfl) (Nat.le_trans (Nat.add_le_add_left (Nat.le_of_ble_eq_true (rfl : Nat.ble 0 21 = true)) _) hu1) (Nat.le_trans (Nat.add_le_add_left (Nat.le_of_ble_eq_true (rfl : Nat.ble 0 11725 = true)) _) hu2) (sX12_street_mk hM hw (fun q m1 hw => ?_))
  obtain ⟨he, hw⟩ := hw
  exact cl_icmp_eq hG 1301 (hx_dq tdL_18 1 rfl) rfl (fun _ => hK _ _ _ (Nat.add_le_add_left (Nat.le_of_ble_eq_true (rfl : Nat.ble 0 21 = true)) _) (Nat.add_le_add_left (Nat.le_of_ble_eq_true (rfl : Nat.ble 0 11725 = true)) _) hw) (fun c => absurd he c)
def wL_20 (Λ : hx_L) (μ : hx_M) (a1 : Int32) (a2 : Int32) (K : hx_L → hx_M → Prop) : Prop := wX11_followed μ a1 a2 (fun r => wX12_followed μ a1 a2 (fun q => r = q ∧ K Λ μ))
theorem kL_20 {G : hx_GT} {KK : hx_KT} {L : Nat} {xs : Nat → Int32} (hG : hx_K cL_law 4 600000 7302250 (some .boolean) TbL KK G) (hS : hx_LW cL_law L xs G) (cA : hx_CA RL cL_law 2048 600000 7302250 G) {Λ : hx_L} {μ : hx_M} {u : Nat × Nat} (hF : cF Λ) (hM : mF Λ) {v3 : Int32} (hi : ∀ k : Nat, k < 6 → vp_in (v3 + Int32.ofNat k) L) {K : hx_L → hx_M → Prop} (hu1 : u.1 + 21 ≤ 600000) (hu2 : u.2 + 11725 ≤ 7302250) (hK : ∀ (Λ1 : hx_L) (μ1 : hx_M) (u1 : Nat × Nat), u1.1 ≤ u.1 + 21 → u1.2 ≤ u.2 + 11725 → K Λ1 μ1 → G Λ1 μ1 u1 1301 [some (.retAddr 3), some (.ref 0), some (.ref 49), some (.int v3)] []) (hw : wL_20 Λ μ (xs (v3 + 1).toNatClampNeg) (xs (v3 + 2).toNatClampNeg) K) : G Λ μ u 874 [some (.retAddr 3), some (.ref 0), some (.ref 49), some (.int v3)] [] := by
  unfold wL_20 at hw
  have i1 : vp_in (v3 + 1) L := hi 1 (by decide)
  have i2 : vp_in (v3 + 2) L := hi 2 (by decide)
  refine cl_aload_n hG (hx_dq tdL_18 4 rfl) rfl ?_
  refine cl_saload hS (hx_dq tdL_18 5 rfl) rfl ?_
  refine cl_iload_n hG (hx_dq tdL_18 6 rfl) rfl ?_
  refine cl_iconst hG 1 (hx_dq tdL_18 7 rfl) iconst_1 ?_
  refine cl_iadd hG (hx_dq tdL_18 8 rfl) ?_
  refine cl_sald hS (hx_dq tdL_18 9 rfl) i1 ?_
  refine cl_saload hS (hx_dq tdL_18 10 rfl) rfl ?_
  refine cl_iload_n hG (hx_dq tdL_18 11 rfl) rfl ?_
  refine cl_iconst hG 2 (hx_dq tdL_18 12 rfl) iconst_2 ?_
  refine cl_iadd hG (hx_dq tdL_18 13 rfl) ?_
  refine cl_sald hS (hx_dq tdL_18 14 rfl) i2 ?_
  refine cl_callV2 (caL_103 cA) (hx_dq tdL_18 15 rfl) (cF_S0 hF) (Nat.le_of_ble_eq_true rfl) (Nat.le_trans (Nat.add_le_add_left (Nat.le_of_ble_eq_true (rfl : Nat.ble 0 21 = true)) _) hu1) (Nat.le_trans (Nat.add_le_add_left (Nat.le_of_ble_eq_true (rfl : Nat.ble 0 11725 = true)) _) hu2) (sX11_followed_mk hF hw (fun r hw => ?_))
  refine cl_aload_n hG (hx_dq tdL_18 16 rfl) rfl ?_
  refine cl_saload hS (hx_dq tdL_18 17 rfl) rfl ?_
  refine cl_iload_n hG (hx_dq tdL_18 18 rfl) rfl ?_
  refine cl_iconst hG 1 (hx_dq tdL_18 19 rfl) iconst_1 ?_
  refine cl_iadd hG (hx_dq tdL_18 20 rfl) ?_
  refine cl_sald hS (hx_dq tdL_18 21 rfl) i1 ?_
  refine cl_saload hS (hx_dq tdL_18 22 rfl) rfl ?_
  refine cl_iload_n hG (hx_dq tdL_18 23 rfl) rfl ?_
  refine cl_iconst hG 2 (hx_dq tdL_18 24 rfl) iconst_2 ?_
  refine cl_iadd hG (hx_dq tdL_18 25 rfl) ?_
  refine cl_sald hS (hx_dq tdL_18 26 rfl) i2 ?_
  refine cl_callV2 (caL_106 cA) (hx_dq tdL_18 27 rfl) (mF_S49 hM) (Nat.le_of_ble_eq_true rfl) (Nat.le_trans (Nat.add_le_add_left (Nat.le_of_ble_eq_true (rfl : Nat.ble 0 21 = true)) _) hu1) (Nat.le_trans (Nat.add_le_add_left (Nat.le_of_ble_eq_true (rfl : Nat.ble 0 11725 = true)) _) hu2) (sX12_followed_mk hM hw (fun q hw => ?_))
  obtain ⟨he, hw⟩ := hw
  exact cl_icmp_eq hG 1301 (hx_dq tdL_18 28 rfl) rfl (fun _ => hK _ _ _ (Nat.add_le_add_left (Nat.le_of_ble_eq_true (rfl : Nat.ble 0 21 = true)) _) (Nat.add_le_add_left (Nat.le_of_ble_eq_true (rfl : Nat.ble 0 11725 = true)) _) hw) (fun c => absurd he c)
def wL_21 (Λ : hx_L) (μ : hx_M) (a1 : Int32) (a2 : Int32) (K : hx_L → hx_M → Prop) : Prop := wX11_luck Λ μ a1 a2 (fun r m0 => wX12_luck m0 a1 a2 (fun q m1 => r = q ∧ K Λ m1))
theorem kL_21 {G : hx_GT} {KK : hx_KT} {L : Nat} {xs : Nat → Int32} (hG : hx_K cL_law 4 600000 7302250 (some .boolean) TbL KK G) (hS : hx_LW cL_law L xs G) (cA : hx_CA RL cL_law 2048 600000 7302250 G) {Λ : hx_L} {μ : hx_M} {u : Nat × Nat} (hF : cF Λ) (hM : mF Λ) {v3 : Int32} (hi : ∀ k : Nat, k < 6 → vp_in (v3 + Int32.ofNat k) L) {K : hx_L → hx_M → Prop} (hu1 : u.1 + 21 ≤ 600000) (hu2 : u.2 + 11725 ≤ 7302250) (hK : ∀ (Λ1 : hx_L) (μ1 : hx_M) (u1 : Nat × Nat), u1.1 ≤ u.1 + 21 → u1.2 ≤ u.2 + 11725 → K Λ1 μ1 → G Λ1 μ1 u1 1301 [some (.retAddr 3), some (.ref 0), some (.ref 49), some (.int v3)] []) (hw : wL_21 Λ μ (xs (v3 + 1).toNatClampNeg) (xs (v3 + 2).toNatClampNeg) K) : G Λ μ u 907 [some (.retAddr 3), some (.ref 0), some (.ref 49), some (.int v3)] [] := by
  unfold wL_21 at hw
  have i1 : vp_in (v3 + 1) L := hi 1 (by decide)
  have i2 : vp_in (v3 + 2) L := hi 2 (by decide)
  refine cl_aload_n hG (hx_dq tdL_18 31 rfl) rfl ?_
  refine cl_saload hS (hx_dq tdL_19 0 rfl) rfl ?_
  refine cl_iload_n hG (hx_dq tdL_19 1 rfl) rfl ?_
  refine cl_iconst hG 1 (hx_dq tdL_19 2 rfl) iconst_1 ?_
  refine cl_iadd hG (hx_dq tdL_19 3 rfl) ?_
  refine cl_sald hS (hx_dq tdL_19 4 rfl) i1 ?_
  refine cl_saload hS (hx_dq tdL_19 5 rfl) rfl ?_
  refine cl_iload_n hG (hx_dq tdL_19 6 rfl) rfl ?_
  refine cl_iconst hG 2 (hx_dq tdL_19 7 rfl) iconst_2 ?_
  refine cl_iadd hG (hx_dq tdL_19 8 rfl) ?_
  refine cl_sald hS (hx_dq tdL_19 9 rfl) i2 ?_
  refine cl_callV2 (caL_107 cA) (hx_dq tdL_19 10 rfl) (cF_S0 hF) (Nat.le_of_ble_eq_true rfl) (Nat.le_trans (Nat.add_le_add_left (Nat.le_of_ble_eq_true (rfl : Nat.ble 0 21 = true)) _) hu1) (Nat.le_trans (Nat.add_le_add_left (Nat.le_of_ble_eq_true (rfl : Nat.ble 0 11725 = true)) _) hu2) (sX11_luck_mk hF hw (fun r m0 hw => ?_))
  refine cl_aload_n hG (hx_dq tdL_19 11 rfl) rfl ?_
  refine cl_saload hS (hx_dq tdL_19 12 rfl) rfl ?_
  refine cl_iload_n hG (hx_dq tdL_19 13 rfl) rfl ?_
  refine cl_iconst hG 1 (hx_dq tdL_19 14 rfl) iconst_1 ?_
  refine cl_iadd hG (hx_dq tdL_19 15 rfl) ?_
  refine cl_sald hS (hx_dq tdL_19 16 rfl) i1 ?_
  refine cl_saload hS (hx_dq tdL_19 17 rfl) rfl ?_
  refine cl_iload_n hG (hx_dq tdL_19 18 rfl) rfl ?_
  refine cl_iconst hG 2 (hx_dq tdL_19 19 rfl) iconst_2 ?_
  refine cl_iadd hG (hx_dq tdL_19 20 rfl) ?_
  refine cl_sald hS (hx_dq tdL_19 21 rfl) i2 ?_
  refine cl_callV2 (caL_111 cA) (hx_dq tdL_19 22 rfl) (mF_S49 hM) (Nat.le_of_ble_eq_true rfl) (Nat.le_trans (Nat.add_le_add_left (Nat.le_of_ble_eq_true (rfl : Nat.ble 0 21 = true)) _) hu1) (Nat.le_trans (Nat.add_le_add_left (Nat.le_of_ble_eq_true (rfl : Nat.ble 0 11725 = true)) _) hu2) (sX12_luck_mk hM hw (fun q m1 hw => ?_))
  obtain ⟨he, hw⟩ := hw
  subst he
  refine cl_lcmp hG (hx_dq tdL_19 23 rfl) ?_
  exact cl_if_eq hG 1301 (hx_dq tdL_19 24 rfl) rfl (fun _ => hK _ _ _ (Nat.add_le_add_left (Nat.le_of_ble_eq_true (rfl : Nat.ble 0 21 = true)) _) (Nat.add_le_add_left (Nat.le_of_ble_eq_true (rfl : Nat.ble 0 11725 = true)) _) hw) (fun c => absurd (hx_cmp0 _) c)
def wL_22 (Λ : hx_L) (μ : hx_M) (a1 : Int32) (a2 : Int32) (K : hx_L → hx_M → Prop) : Prop := wX11_claim μ a1 a2 (fun r m0 => wX12_claim m0 a1 a2 (fun q m1 => r = q ∧ K Λ m1))
theorem kL_22 {G : hx_GT} {KK : hx_KT} {L : Nat} {xs : Nat → Int32} (hG : hx_K cL_law 4 600000 7302250 (some .boolean) TbL KK G) (hS : hx_LW cL_law L xs G) (cA : hx_CA RL cL_law 2048 600000 7302250 G) {Λ : hx_L} {μ : hx_M} {u : Nat × Nat} (hF : cF Λ) (hM : mF Λ) {v3 : Int32} (hi : ∀ k : Nat, k < 6 → vp_in (v3 + Int32.ofNat k) L) {K : hx_L → hx_M → Prop} (hu1 : u.1 + 21 ≤ 600000) (hu2 : u.2 + 11725 ≤ 7302250) (hK : ∀ (Λ1 : hx_L) (μ1 : hx_M) (u1 : Nat × Nat), u1.1 ≤ u.1 + 21 → u1.2 ≤ u.2 + 11725 → K Λ1 μ1 → G Λ1 μ1 u1 1301 [some (.retAddr 3), some (.ref 0), some (.ref 49), some (.int v3)] []) (hw : wL_22 Λ μ (xs (v3 + 1).toNatClampNeg) (xs (v3 + 2).toNatClampNeg) K) : G Λ μ u 941 [some (.retAddr 3), some (.ref 0), some (.ref 49), some (.int v3)] [] := by
  unfold wL_22 at hw
  have i1 : vp_in (v3 + 1) L := hi 1 (by decide)
  have i2 : vp_in (v3 + 2) L := hi 2 (by decide)
  refine cl_aload_n hG (hx_dq tdL_19 27 rfl) rfl ?_
  refine cl_saload hS (hx_dq tdL_19 28 rfl) rfl ?_
  refine cl_iload_n hG (hx_dq tdL_19 29 rfl) rfl ?_
  refine cl_iconst hG 1 (hx_dq tdL_19 30 rfl) iconst_1 ?_
  refine cl_iadd hG (hx_dq tdL_19 31 rfl) ?_
  refine cl_sald hS (hx_dq tdL_20 0 rfl) i1 ?_
  refine cl_saload hS (hx_dq tdL_20 1 rfl) rfl ?_
  refine cl_iload_n hG (hx_dq tdL_20 2 rfl) rfl ?_
  refine cl_iconst hG 2 (hx_dq tdL_20 3 rfl) iconst_2 ?_
  refine cl_iadd hG (hx_dq tdL_20 4 rfl) ?_
  refine cl_sald hS (hx_dq tdL_20 5 rfl) i2 ?_
  refine cl_callV2 (caL_112 cA) (hx_dq tdL_20 6 rfl) (cF_S0 hF) (Nat.le_of_ble_eq_true rfl) (Nat.le_trans (Nat.add_le_add_left (Nat.le_of_ble_eq_true (rfl : Nat.ble 0 21 = true)) _) hu1) (Nat.le_trans (Nat.add_le_add_left (Nat.le_of_ble_eq_true (rfl : Nat.ble 0 11725 = true)) _) hu2) (sX11_claim_mk hF hw (fun r m0 hw => ?_))
  refine cl_aload_n hG (hx_dq tdL_20 7 rfl) rfl ?_
  refine cl_saload hS (hx_dq tdL_20 8 rfl) rfl ?_
  refine cl_iload_n hG (hx_dq tdL_20 9 rfl) rfl ?_
  refine cl_iconst hG 1 (hx_dq tdL_20 10 rfl) iconst_1 ?_
  refine cl_iadd hG (hx_dq tdL_20 11 rfl) ?_
  refine cl_sald hS (hx_dq tdL_20 12 rfl) i1 ?_
  refine cl_saload hS (hx_dq tdL_20 13 rfl) rfl ?_
  refine cl_iload_n hG (hx_dq tdL_20 14 rfl) rfl ?_
  refine cl_iconst hG 2 (hx_dq tdL_20 15 rfl) iconst_2 ?_
  refine cl_iadd hG (hx_dq tdL_20 16 rfl) ?_
  refine cl_sald hS (hx_dq tdL_20 17 rfl) i2 ?_
  refine cl_callV2 (caL_115 cA) (hx_dq tdL_20 18 rfl) (mF_S49 hM) (Nat.le_of_ble_eq_true rfl) (Nat.le_trans (Nat.add_le_add_left (Nat.le_of_ble_eq_true (rfl : Nat.ble 0 21 = true)) _) hu1) (Nat.le_trans (Nat.add_le_add_left (Nat.le_of_ble_eq_true (rfl : Nat.ble 0 11725 = true)) _) hu2) (sX12_claim_mk hM hw (fun q m1 hw => ?_))
  obtain ⟨he, hw⟩ := hw
  subst he
  refine cl_lcmp hG (hx_dq tdL_20 19 rfl) ?_
  exact cl_if_eq hG 1301 (hx_dq tdL_20 20 rfl) rfl (fun _ => hK _ _ _ (Nat.add_le_add_left (Nat.le_of_ble_eq_true (rfl : Nat.ble 0 21 = true)) _) (Nat.add_le_add_left (Nat.le_of_ble_eq_true (rfl : Nat.ble 0 11725 = true)) _) hw) (fun c => absurd (hx_cmp0 _) c)
def wL_23 (Λ : hx_L) (μ : hx_M) (K : hx_L → hx_M → Prop) : Prop := wX11_best μ (fun r m0 => wX12_best m0 (fun q m1 => r = q ∧ K Λ m1))
theorem kL_23 {G : hx_GT} {KK : hx_KT} {L : Nat} {xs : Nat → Int32} (hG : hx_K cL_law 4 600000 7302250 (some .boolean) TbL KK G) (hS : hx_LW cL_law L xs G) (cA : hx_CA RL cL_law 2048 600000 7302250 G) {Λ : hx_L} {μ : hx_M} {u : Nat × Nat} (hF : cF Λ) (hM : mF Λ) {v3 : Int32} (hi : ∀ k : Nat, k < 6 → vp_in (v3 + Int32.ofNat k) L) {K : hx_L → hx_M → Prop} (hu1 : u.1 + 21 ≤ 600000) (hu2 : u.2 + 11725 ≤ 7302250) (hK : ∀ (Λ1 : hx_L) (μ1 : hx_M) (u1 : Nat × Nat), u1.1 ≤ u.1 + 21 → u1.2 ≤ u.2 + 11725 → K Λ1 μ1 → G Λ1 μ1 u1 1301 [some (.retAddr 3), some (.ref 0), some (.ref 49), some (.int v3)] []) (hw : wL_23 Λ μ K) : G Λ μ u 975 [some (.retAddr 3), some (.ref 0), some (.ref 49), some (.int v3)] [] := by
  unfold wL_23 at hw
  refine cl_aload_n hG (hx_dq tdL_20 23 rfl) rfl ?_
  refine cl_callV0 (caL_116 cA) (hx_dq tdL_20 24 rfl) (cF_S0 hF) (Nat.le_of_ble_eq_true rfl) (Nat.le_trans (Nat.add_le_add_left (Nat.le_of_ble_eq_true (rfl : Nat.ble 0 21 = true)) _) hu1) (Nat.le_trans (Nat.add_le_add_left (Nat.le_of_ble_eq_true (rfl : Nat.ble 0 11725 = true)) _) hu2) (sX11_best_mk hF hw (fun r m0 hw => ?_))
  refine cl_aload_n hG (hx_dq tdL_20 25 rfl) rfl ?_
  refine cl_callV0 (caL_119 cA) (hx_dq tdL_20 26 rfl) (mF_S49 hM) (Nat.le_of_ble_eq_true rfl) (Nat.le_trans (Nat.add_le_add_left (Nat.le_of_ble_eq_true (rfl : Nat.ble 0 21 = true)) _) hu1) (Nat.le_trans (Nat.add_le_add_left (Nat.le_of_ble_eq_true (rfl : Nat.ble 0 11725 = true)) _) hu2) (sX12_best_mk hM hw (fun q m1 hw => ?_))
  obtain ⟨he, hw⟩ := hw
  exact cl_icmp_eq hG 1301 (hx_dq tdL_20 27 rfl) rfl (fun _ => hK _ _ _ (Nat.add_le_add_left (Nat.le_of_ble_eq_true (rfl : Nat.ble 0 21 = true)) _) (Nat.add_le_add_left (Nat.le_of_ble_eq_true (rfl : Nat.ble 0 11725 = true)) _) hw) (fun c => absurd he c)
def wL_24 (Λ : hx_L) (μ : hx_M) (a1 : Int32) (a2 : Int32) (a3 : Int32) (K : hx_L → hx_M → Prop) : Prop := wX11_plate μ a1 a2 a3 (fun r m0 => wX12_plate m0 a1 a2 a3 (fun q m1 => r = q ∧ K Λ m1))
theorem kL_24 {G : hx_GT} {KK : hx_KT} {L : Nat} {xs : Nat → Int32} (hG : hx_K cL_law 4 600000 7302250 (some .boolean) TbL KK G) (hS : hx_LW cL_law L xs G) (cA : hx_CA RL cL_law 2048 600000 7302250 G) {Λ : hx_L} {μ : hx_M} {u : Nat × Nat} (hF : cF Λ) (hM : mF Λ) {v3 : Int32} (hi : ∀ k : Nat, k < 6 → vp_in (v3 + Int32.ofNat k) L) {K : hx_L → hx_M → Prop} (hu1 : u.1 + 21 ≤ 600000) (hu2 : u.2 + 11725 ≤ 7302250) (hK : ∀ (Λ1 : hx_L) (μ1 : hx_M) (u1 : Nat × Nat), u1.1 ≤ u.1 + 21 → u1.2 ≤ u.2 + 11725 → K Λ1 μ1 → G Λ1 μ1 u1 1301 [some (.retAddr 3), some (.ref 0), some (.ref 49), some (.int v3)] []) (hw : wL_24 Λ μ (xs (v3 + 1).toNatClampNeg) (xs (v3 + 2).toNatClampNeg) (xs (v3 + 3).toNatClampNeg) K) : G Λ μ u 988 [some (.retAddr 3), some (.ref 0), some (.ref 49), some (.int v3)] [] := by
  unfold wL_24 at hw
  have i1 : vp_in (v3 + 1) L := hi 1 (by decide)
  have i2 : vp_in (v3 + 2) L := hi 2 (by decide)
  have i3 : vp_in (v3 + 3) L := hi 3 (by decide)
  refine cl_aload_n hG (hx_dq tdL_20 30 rfl) rfl ?_
  refine cl_saload hS (hx_dq tdL_20 31 rfl) rfl ?_
  refine cl_iload_n hG (hx_dq tdL_21 0 rfl) rfl ?_
  refine cl_iconst hG 1 (hx_dq tdL_21 1 rfl) iconst_1 ?_
  refine cl_iadd hG (hx_dq tdL_21 2 rfl) ?_
  refine cl_sald hS (hx_dq tdL_21 3 rfl) i1 ?_
  refine cl_saload hS (hx_dq tdL_21 4 rfl) rfl ?_
  refine cl_iload_n hG (hx_dq tdL_21 5 rfl) rfl ?_
  refine cl_iconst hG 2 (hx_dq tdL_21 6 rfl) iconst_2 ?_
  refine cl_iadd hG (hx_dq tdL_21 7 rfl) ?_
  refine cl_sald hS (hx_dq tdL_21 8 rfl) i2 ?_
  refine cl_saload hS (hx_dq tdL_21 9 rfl) rfl ?_
  refine cl_iload_n hG (hx_dq tdL_21 10 rfl) rfl ?_
  refine cl_iconst hG 3 (hx_dq tdL_21 11 rfl) iconst_3 ?_
  refine cl_iadd hG (hx_dq tdL_21 12 rfl) ?_
  refine cl_sald hS (hx_dq tdL_21 13 rfl) i3 ?_
  refine cl_callV3 (caL_120 cA) (hx_dq tdL_21 14 rfl) (cF_S0 hF) (Nat.le_of_ble_eq_true rfl) (Nat.le_trans (Nat.add_le_add_left (Nat.le_of_ble_eq_true (rfl : Nat.ble 0 21 = true)) _) hu1) (Nat.le_trans (Nat.add_le_add_left (Nat.le_of_ble_eq_true (rfl : Nat.ble 0 11725 = true)) _) hu2) (sX11_plate_mk hF hw (fun r m0 hw => ?_))
  refine cl_aload_n hG (hx_dq tdL_21 15 rfl) rfl ?_
  refine cl_saload hS (hx_dq tdL_21 16 rfl) rfl ?_
  refine cl_iload_n hG (hx_dq tdL_21 17 rfl) rfl ?_
  refine cl_iconst hG 1 (hx_dq tdL_21 18 rfl) iconst_1 ?_
  refine cl_iadd hG (hx_dq tdL_21 19 rfl) ?_
  refine cl_sald hS (hx_dq tdL_21 20 rfl) i1 ?_
  refine cl_saload hS (hx_dq tdL_21 21 rfl) rfl ?_
  refine cl_iload_n hG (hx_dq tdL_21 22 rfl) rfl ?_
  refine cl_iconst hG 2 (hx_dq tdL_21 23 rfl) iconst_2 ?_
  refine cl_iadd hG (hx_dq tdL_21 24 rfl) ?_
  refine cl_sald hS (hx_dq tdL_21 25 rfl) i2 ?_
  refine cl_saload hS (hx_dq tdL_21 26 rfl) rfl ?_
  refine cl_iload_n hG (hx_dq tdL_21 27 rfl) rfl ?_
  refine cl_iconst hG 3 (hx_dq tdL_21 28 rfl) iconst_3 ?_
  refine cl_iadd hG (hx_dq tdL_21 29 rfl) ?_
  refine cl_sald hS (hx_dq tdL_21 30 rfl) i3 ?_
  refine cl_callV3 (caL_123 cA) (hx_dq tdL_21 31 rfl) (mF_S49 hM) (Nat.le_of_ble_eq_true rfl) (Nat.le_trans (Nat.add_le_add_left (Nat.le_of_ble_eq_true (rfl : Nat.ble 0 21 = true)) _) hu1) (Nat.le_trans (Nat.add_le_add_left (Nat.le_of_ble_eq_true (rfl : Nat.ble 0 11725 = true)) _) hu2) (sX12_plate_mk hM hw (fun q m1 hw => ?_))
  obtain ⟨he, hw⟩ := hw
  exact cl_icmp_eq hG 1301 (hx_dq tdL_22 0 rfl) rfl (fun _ => hK _ _ _ (Nat.add_le_add_left (Nat.le_of_ble_eq_true (rfl : Nat.ble 0 21 = true)) _) (Nat.add_le_add_left (Nat.le_of_ble_eq_true (rfl : Nat.ble 0 11725 = true)) _) hw) (fun c => absurd he c)
def wL_25 (Λ : hx_L) (μ : hx_M) (a1 : Int32) (a2 : Int32) (K : hx_L → hx_M → Prop) : Prop := wX11_off μ a1 a2 (fun r => wX12_off μ a1 a2 (fun q => r = q ∧ K Λ μ))
theorem kL_25 {G : hx_GT} {KK : hx_KT} {L : Nat} {xs : Nat → Int32} (hG : hx_K cL_law 4 600000 7302250 (some .boolean) TbL KK G) (hS : hx_LW cL_law L xs G) (cA : hx_CA RL cL_law 2048 600000 7302250 G) {Λ : hx_L} {μ : hx_M} {u : Nat × Nat} (hF : cF Λ) (hM : mF Λ) {v3 : Int32} (hi : ∀ k : Nat, k < 6 → vp_in (v3 + Int32.ofNat k) L) {K : hx_L → hx_M → Prop} (hu1 : u.1 + 21 ≤ 600000) (hu2 : u.2 + 11725 ≤ 7302250) (hK : ∀ (Λ1 : hx_L) (μ1 : hx_M) (u1 : Nat × Nat), u1.1 ≤ u.1 + 21 → u1.2 ≤ u.2 + 11725 → K Λ1 μ1 → G Λ1 μ1 u1 1301 [some (.retAddr 3), some (.ref 0), some (.ref 49), some (.int v3)] []) (hw : wL_25 Λ μ (xs (v3 + 1).toNatClampNeg) (xs (v3 + 2).toNatClampNeg) K) : G Λ μ u 1031 [some (.retAddr 3), some (.ref 0), some (.ref 49), some (.int v3)] [] := by
  unfold wL_25 at hw
  have i1 : vp_in (v3 + 1) L := hi 1 (by decide)
  have i2 : vp_in (v3 + 2) L := hi 2 (by decide)
  refine cl_aload_n hG (hx_dq tdL_22 3 rfl) rfl ?_
  refine cl_saload hS (hx_dq tdL_22 4 rfl) rfl ?_
  refine cl_iload_n hG (hx_dq tdL_22 5 rfl) rfl ?_
  refine cl_iconst hG 1 (hx_dq tdL_22 6 rfl) iconst_1 ?_
  refine cl_iadd hG (hx_dq tdL_22 7 rfl) ?_
  refine cl_sald hS (hx_dq tdL_22 8 rfl) i1 ?_
  refine cl_saload hS (hx_dq tdL_22 9 rfl) rfl ?_
  refine cl_iload_n hG (hx_dq tdL_22 10 rfl) rfl ?_
  refine cl_iconst hG 2 (hx_dq tdL_22 11 rfl) iconst_2 ?_
  refine cl_iadd hG (hx_dq tdL_22 12 rfl) ?_
  refine cl_sald hS (hx_dq tdL_22 13 rfl) i2 ?_
  refine cl_callV2 (caL_124 cA) (hx_dq tdL_22 14 rfl) (cF_S0 hF) (Nat.le_of_ble_eq_true rfl) (Nat.le_trans (Nat.add_le_add_left (Nat.le_of_ble_eq_true (rfl : Nat.ble 0 21 = true)) _) hu1) (Nat.le_trans (Nat.add_le_add_left (Nat.le_of_ble_eq_true (rfl : Nat.ble 0 11725 = true)) _) hu2) (sX11_off_mk hF hw (fun r hw => ?_))
  refine cl_aload_n hG (hx_dq tdL_22 15 rfl) rfl ?_
  refine cl_saload hS (hx_dq tdL_22 16 rfl) rfl ?_
  refine cl_iload_n hG (hx_dq tdL_22 17 rfl) rfl ?_
  refine cl_iconst hG 1 (hx_dq tdL_22 18 rfl) iconst_1 ?_
  refine cl_iadd hG (hx_dq tdL_22 19 rfl) ?_
  refine cl_sald hS (hx_dq tdL_22 20 rfl) i1 ?_
  refine cl_saload hS (hx_dq tdL_22 21 rfl) rfl ?_
  refine cl_iload_n hG (hx_dq tdL_22 22 rfl) rfl ?_
  refine cl_iconst hG 2 (hx_dq tdL_22 23 rfl) iconst_2 ?_
  refine cl_iadd hG (hx_dq tdL_22 24 rfl) ?_
  refine cl_sald hS (hx_dq tdL_22 25 rfl) i2 ?_
  refine cl_callV2 (caL_127 cA) (hx_dq tdL_22 26 rfl) (mF_S49 hM) (Nat.le_of_ble_eq_true rfl) (Nat.le_trans (Nat.add_le_add_left (Nat.le_of_ble_eq_true (rfl : Nat.ble 0 21 = true)) _) hu1) (Nat.le_trans (Nat.add_le_add_left (Nat.le_of_ble_eq_true (rfl : Nat.ble 0 11725 = true)) _) hu2) (sX12_off_mk hM hw (fun q hw => ?_))
  obtain ⟨he, hw⟩ := hw
  exact cl_icmp_eq hG 1301 (hx_dq tdL_22 27 rfl) rfl (fun _ => hK _ _ _ (Nat.add_le_add_left (Nat.le_of_ble_eq_true (rfl : Nat.ble 0 21 = true)) _) (Nat.add_le_add_left (Nat.le_of_ble_eq_true (rfl : Nat.ble 0 11725 = true)) _) hw) (fun c => absurd he c)
def wL_26 (Λ : hx_L) (μ : hx_M) (a1 : Int32) (a2 : Int32) (K : hx_L → hx_M → Prop) : Prop := wX11_again μ a1 a2 (fun r => wX12_again μ a1 a2 (fun q => r = q ∧ K Λ μ))
theorem kL_26 {G : hx_GT} {KK : hx_KT} {L : Nat} {xs : Nat → Int32} (hG : hx_K cL_law 4 600000 7302250 (some .boolean) TbL KK G) (hS : hx_LW cL_law L xs G) (cA : hx_CA RL cL_law 2048 600000 7302250 G) {Λ : hx_L} {μ : hx_M} {u : Nat × Nat} (hF : cF Λ) (hM : mF Λ) {v3 : Int32} (hi : ∀ k : Nat, k < 6 → vp_in (v3 + Int32.ofNat k) L) {K : hx_L → hx_M → Prop} (hu1 : u.1 + 21 ≤ 600000) (hu2 : u.2 + 11725 ≤ 7302250) (hK : ∀ (Λ1 : hx_L) (μ1 : hx_M) (u1 : Nat × Nat), u1.1 ≤ u.1 + 21 → u1.2 ≤ u.2 + 11725 → K Λ1 μ1 → G Λ1 μ1 u1 1301 [some (.retAddr 3), some (.ref 0), some (.ref 49), some (.int v3)] []) (hw : wL_26 Λ μ (xs (v3 + 1).toNatClampNeg) (xs (v3 + 2).toNatClampNeg) K) : G Λ μ u 1064 [some (.retAddr 3), some (.ref 0), some (.ref 49), some (.int v3)] [] := by
  unfold wL_26 at hw
  have i1 : vp_in (v3 + 1) L := hi 1 (by decide)
  have i2 : vp_in (v3 + 2) L := hi 2 (by decide)
  refine cl_aload_n hG (hx_dq tdL_22 30 rfl) rfl ?_
  refine cl_saload hS (hx_dq tdL_22 31 rfl) rfl ?_
  refine cl_iload_n hG (hx_dq tdL_23 0 rfl) rfl ?_
  refine cl_iconst hG 1 (hx_dq tdL_23 1 rfl) iconst_1 ?_
  refine cl_iadd hG (hx_dq tdL_23 2 rfl) ?_
  refine cl_sald hS (hx_dq tdL_23 3 rfl) i1 ?_
  refine cl_saload hS (hx_dq tdL_23 4 rfl) rfl ?_
  refine cl_iload_n hG (hx_dq tdL_23 5 rfl) rfl ?_
  refine cl_iconst hG 2 (hx_dq tdL_23 6 rfl) iconst_2 ?_
  refine cl_iadd hG (hx_dq tdL_23 7 rfl) ?_
  refine cl_sald hS (hx_dq tdL_23 8 rfl) i2 ?_
  refine cl_callV2 (caL_128 cA) (hx_dq tdL_23 9 rfl) (cF_S0 hF) (Nat.le_of_ble_eq_true rfl) (Nat.le_trans (Nat.add_le_add_left (Nat.le_of_ble_eq_true (rfl : Nat.ble 0 21 = true)) _) hu1) (Nat.le_trans (Nat.add_le_add_left (Nat.le_of_ble_eq_true (rfl : Nat.ble 0 11725 = true)) _) hu2) (sX11_again_mk hF hw (fun r hw => ?_))
  refine cl_aload_n hG (hx_dq tdL_23 10 rfl) rfl ?_
  refine cl_saload hS (hx_dq tdL_23 11 rfl) rfl ?_
  refine cl_iload_n hG (hx_dq tdL_23 12 rfl) rfl ?_
  refine cl_iconst hG 1 (hx_dq tdL_23 13 rfl) iconst_1 ?_
  refine cl_iadd hG (hx_dq tdL_23 14 rfl) ?_
  refine cl_sald hS (hx_dq tdL_23 15 rfl) i1 ?_
  refine cl_saload hS (hx_dq tdL_23 16 rfl) rfl ?_
  refine cl_iload_n hG (hx_dq tdL_23 17 rfl) rfl ?_
  refine cl_iconst hG 2 (hx_dq tdL_23 18 rfl) iconst_2 ?_
  refine cl_iadd hG (hx_dq tdL_23 19 rfl) ?_
  refine cl_sald hS (hx_dq tdL_23 20 rfl) i2 ?_
  refine cl_callV2 (caL_131 cA) (hx_dq tdL_23 21 rfl) (mF_S49 hM) (Nat.le_of_ble_eq_true rfl) (Nat.le_trans (Nat.add_le_add_left (Nat.le_of_ble_eq_true (rfl : Nat.ble 0 21 = true)) _) hu1) (Nat.le_trans (Nat.add_le_add_left (Nat.le_of_ble_eq_true (rfl : Nat.ble 0 11725 = true)) _) hu2) (sX12_again_mk hM hw (fun q hw => ?_))
  obtain ⟨he, hw⟩ := hw
  exact cl_icmp_eq hG 1301 (hx_dq tdL_23 22 rfl) rfl (fun _ => hK _ _ _ (Nat.add_le_add_left (Nat.le_of_ble_eq_true (rfl : Nat.ble 0 21 = true)) _) (Nat.add_le_add_left (Nat.le_of_ble_eq_true (rfl : Nat.ble 0 11725 = true)) _) hw) (fun c => absurd he c)
def wL_27 (Λ : hx_L) (μ : hx_M) (a1 : Int32) (K : hx_L → hx_M → Prop) : Prop := wX11_foretell Λ μ a1 (fun r m0 => wX12_foretell m0 a1 (fun q m1 => r = q ∧ K Λ m1))
theorem kL_27 {G : hx_GT} {KK : hx_KT} {L : Nat} {xs : Nat → Int32} (hG : hx_K cL_law 4 600000 7302250 (some .boolean) TbL KK G) (hS : hx_LW cL_law L xs G) (cA : hx_CA RL cL_law 2048 600000 7302250 G) {Λ : hx_L} {μ : hx_M} {u : Nat × Nat} (hF : cF Λ) (hM : mF Λ) {v3 : Int32} (hi : ∀ k : Nat, k < 6 → vp_in (v3 + Int32.ofNat k) L) {K : hx_L → hx_M → Prop} (hu1 : u.1 + 21 ≤ 600000) (hu2 : u.2 + 11725 ≤ 7302250) (hK : ∀ (Λ1 : hx_L) (μ1 : hx_M) (u1 : Nat × Nat), u1.1 ≤ u.1 + 21 → u1.2 ≤ u.2 + 11725 → K Λ1 μ1 → G Λ1 μ1 u1 1301 [some (.retAddr 3), some (.ref 0), some (.ref 49), some (.int v3)] []) (hw : wL_27 Λ μ (xs (v3 + 1).toNatClampNeg) K) : G Λ μ u 1097 [some (.retAddr 3), some (.ref 0), some (.ref 49), some (.int v3)] [] := by
  unfold wL_27 at hw
  have i1 : vp_in (v3 + 1) L := hi 1 (by decide)
  refine cl_aload_n hG (hx_dq tdL_23 25 rfl) rfl ?_
  refine cl_saload hS (hx_dq tdL_23 26 rfl) rfl ?_
  refine cl_iload_n hG (hx_dq tdL_23 27 rfl) rfl ?_
  refine cl_iconst hG 1 (hx_dq tdL_23 28 rfl) iconst_1 ?_
  refine cl_iadd hG (hx_dq tdL_23 29 rfl) ?_
  refine cl_sald hS (hx_dq tdL_23 30 rfl) i1 ?_
  refine cl_callV1 (caL_132 cA) (hx_dq tdL_23 31 rfl) (cF_S0 hF) (Nat.le_of_ble_eq_true rfl) (Nat.le_trans (Nat.add_le_add_left (Nat.le_of_ble_eq_true (rfl : Nat.ble 0 21 = true)) _) hu1) (Nat.le_trans (Nat.add_le_add_left (Nat.le_of_ble_eq_true (rfl : Nat.ble 0 11725 = true)) _) hu2) (sX11_foretell_mk hF hw (fun r m0 hw => ?_))
  refine cl_aload_n hG (hx_dq tdL_24 0 rfl) rfl ?_
  refine cl_saload hS (hx_dq tdL_24 1 rfl) rfl ?_
  refine cl_iload_n hG (hx_dq tdL_24 2 rfl) rfl ?_
  refine cl_iconst hG 1 (hx_dq tdL_24 3 rfl) iconst_1 ?_
  refine cl_iadd hG (hx_dq tdL_24 4 rfl) ?_
  refine cl_sald hS (hx_dq tdL_24 5 rfl) i1 ?_
  refine cl_callV1 (caL_135 cA) (hx_dq tdL_24 6 rfl) (mF_S49 hM) (Nat.le_of_ble_eq_true rfl) (Nat.le_trans (Nat.add_le_add_left (Nat.le_of_ble_eq_true (rfl : Nat.ble 0 21 = true)) _) hu1) (Nat.le_trans (Nat.add_le_add_left (Nat.le_of_ble_eq_true (rfl : Nat.ble 0 11725 = true)) _) hu2) (sX12_foretell_mk hM hw (fun q m1 hw => ?_))
  obtain ⟨he, hw⟩ := hw
  exact cl_icmp_eq hG 1301 (hx_dq tdL_24 7 rfl) rfl (fun _ => hK _ _ _ (Nat.add_le_add_left (Nat.le_of_ble_eq_true (rfl : Nat.ble 0 21 = true)) _) (Nat.add_le_add_left (Nat.le_of_ble_eq_true (rfl : Nat.ble 0 11725 = true)) _) hw) (fun c => absurd he c)
def wL_28 (Λ : hx_L) (μ : hx_M) (a1 : Int32) (a2 : Int32) (K : hx_L → hx_M → Prop) : Prop := wX11_held μ a1 a2 (fun r => wX12_held μ a1 a2 (fun q => r = q ∧ K Λ μ))
theorem kL_28 {G : hx_GT} {KK : hx_KT} {L : Nat} {xs : Nat → Int32} (hG : hx_K cL_law 4 600000 7302250 (some .boolean) TbL KK G) (hS : hx_LW cL_law L xs G) (cA : hx_CA RL cL_law 2048 600000 7302250 G) {Λ : hx_L} {μ : hx_M} {u : Nat × Nat} (hF : cF Λ) (hM : mF Λ) {v3 : Int32} (hi : ∀ k : Nat, k < 6 → vp_in (v3 + Int32.ofNat k) L) {K : hx_L → hx_M → Prop} (hu1 : u.1 + 21 ≤ 600000) (hu2 : u.2 + 11725 ≤ 7302250) (hK : ∀ (Λ1 : hx_L) (μ1 : hx_M) (u1 : Nat × Nat), u1.1 ≤ u.1 + 21 → u1.2 ≤ u.2 + 11725 → K Λ1 μ1 → G Λ1 μ1 u1 1301 [some (.retAddr 3), some (.ref 0), some (.ref 49), some (.int v3)] []) (hw : wL_28 Λ μ (xs (v3 + 1).toNatClampNeg) (xs (v3 + 2).toNatClampNeg) K) : G Λ μ u 1120 [some (.retAddr 3), some (.ref 0), some (.ref 49), some (.int v3)] [] := by
  unfold wL_28 at hw
  have i1 : vp_in (v3 + 1) L := hi 1 (by decide)
  have i2 : vp_in (v3 + 2) L := hi 2 (by decide)
  refine cl_aload_n hG (hx_dq tdL_24 10 rfl) rfl ?_
  refine cl_saload hS (hx_dq tdL_24 11 rfl) rfl ?_
  refine cl_iload_n hG (hx_dq tdL_24 12 rfl) rfl ?_
  refine cl_iconst hG 1 (hx_dq tdL_24 13 rfl) iconst_1 ?_
  refine cl_iadd hG (hx_dq tdL_24 14 rfl) ?_
  refine cl_sald hS (hx_dq tdL_24 15 rfl) i1 ?_
  refine cl_saload hS (hx_dq tdL_24 16 rfl) rfl ?_
  refine cl_iload_n hG (hx_dq tdL_24 17 rfl) rfl ?_
  refine cl_iconst hG 2 (hx_dq tdL_24 18 rfl) iconst_2 ?_
  refine cl_iadd hG (hx_dq tdL_24 19 rfl) ?_
  refine cl_sald hS (hx_dq tdL_24 20 rfl) i2 ?_
  refine cl_callV2 (caL_136 cA) (hx_dq tdL_24 21 rfl) (cF_S0 hF) (Nat.le_of_ble_eq_true rfl) (Nat.le_trans (Nat.add_le_add_left (Nat.le_of_ble_eq_true (rfl : Nat.ble 0 21 = true)) _) hu1) (Nat.le_trans (Nat.add_le_add_left (Nat.le_of_ble_eq_true (rfl : Nat.ble 0 11725 = true)) _) hu2) (sX11_held_mk hF hw (fun r hw => ?_))
  refine cl_aload_n hG (hx_dq tdL_24 22 rfl) rfl ?_
  refine cl_saload hS (hx_dq tdL_24 23 rfl) rfl ?_
  refine cl_iload_n hG (hx_dq tdL_24 24 rfl) rfl ?_
  refine cl_iconst hG 1 (hx_dq tdL_24 25 rfl) iconst_1 ?_
  refine cl_iadd hG (hx_dq tdL_24 26 rfl) ?_
  refine cl_sald hS (hx_dq tdL_24 27 rfl) i1 ?_
  refine cl_saload hS (hx_dq tdL_24 28 rfl) rfl ?_
  refine cl_iload_n hG (hx_dq tdL_24 29 rfl) rfl ?_
  refine cl_iconst hG 2 (hx_dq tdL_24 30 rfl) iconst_2 ?_
  refine cl_iadd hG (hx_dq tdL_24 31 rfl) ?_
  refine cl_sald hS (hx_dq tdL_25 0 rfl) i2 ?_
  refine cl_callV2 (caL_139 cA) (hx_dq tdL_25 1 rfl) (mF_S49 hM) (Nat.le_of_ble_eq_true rfl) (Nat.le_trans (Nat.add_le_add_left (Nat.le_of_ble_eq_true (rfl : Nat.ble 0 21 = true)) _) hu1) (Nat.le_trans (Nat.add_le_add_left (Nat.le_of_ble_eq_true (rfl : Nat.ble 0 11725 = true)) _) hu2) (sX12_held_mk hM hw (fun q hw => ?_))
  obtain ⟨he, hw⟩ := hw
  exact cl_icmp_eq hG 1301 (hx_dq tdL_25 2 rfl) rfl (fun _ => hK _ _ _ (Nat.add_le_add_left (Nat.le_of_ble_eq_true (rfl : Nat.ble 0 21 = true)) _) (Nat.add_le_add_left (Nat.le_of_ble_eq_true (rfl : Nat.ble 0 11725 = true)) _) hw) (fun c => absurd he c)
def wL_29 (Λ : hx_L) (μ : hx_M) (a1 : Int32) (a2 : Int32) (K : hx_L → hx_M → Prop) : Prop := wX11_behind μ a1 a2 (fun r => wX12_behind μ a1 a2 (fun q => r = q ∧ K Λ μ))
theorem kL_29 {G : hx_GT} {KK : hx_KT} {L : Nat} {xs : Nat → Int32} (hG : hx_K cL_law 4 600000 7302250 (some .boolean) TbL KK G) (hS : hx_LW cL_law L xs G) (cA : hx_CA RL cL_law 2048 600000 7302250 G) {Λ : hx_L} {μ : hx_M} {u : Nat × Nat} (hF : cF Λ) (hM : mF Λ) {v3 : Int32} (hi : ∀ k : Nat, k < 6 → vp_in (v3 + Int32.ofNat k) L) {K : hx_L → hx_M → Prop} (hu1 : u.1 + 21 ≤ 600000) (hu2 : u.2 + 11725 ≤ 7302250) (hK : ∀ (Λ1 : hx_L) (μ1 : hx_M) (u1 : Nat × Nat), u1.1 ≤ u.1 + 21 → u1.2 ≤ u.2 + 11725 → K Λ1 μ1 → G Λ1 μ1 u1 1301 [some (.retAddr 3), some (.ref 0), some (.ref 49), some (.int v3)] []) (hw : wL_29 Λ μ (xs (v3 + 1).toNatClampNeg) (xs (v3 + 2).toNatClampNeg) K) : G Λ μ u 1153 [some (.retAddr 3), some (.ref 0), some (.ref 49), some (.int v3)] [] := by
  unfold wL_29 at hw
  have i1 : vp_in (v3 + 1) L := hi 1 (by decide)
  have i2 : vp_in (v3 + 2) L := hi 2 (by decide)
  refine cl_aload_n hG (hx_dq tdL_25 5 rfl) rfl ?_
  refine cl_saload hS (hx_dq tdL_25 6 rfl) rfl ?_
  refine cl_iload_n hG (hx_dq tdL_25 7 rfl) rfl ?_
  refine cl_iconst hG 1 (hx_dq tdL_25 8 rfl) iconst_1 ?_
  refine cl_iadd hG (hx_dq tdL_25 9 rfl) ?_
  refine cl_sald hS (hx_dq tdL_25 10 rfl) i1 ?_
  refine cl_saload hS (hx_dq tdL_25 11 rfl) rfl ?_
  refine cl_iload_n hG (hx_dq tdL_25 12 rfl) rfl ?_
  refine cl_iconst hG 2 (hx_dq tdL_25 13 rfl) iconst_2 ?_
  refine cl_iadd hG (hx_dq tdL_25 14 rfl) ?_
  refine cl_sald hS (hx_dq tdL_25 15 rfl) i2 ?_
  refine cl_callV2 (caL_140 cA) (hx_dq tdL_25 16 rfl) (cF_S0 hF) (Nat.le_of_ble_eq_true rfl) (Nat.le_trans (Nat.add_le_add_left (Nat.le_of_ble_eq_true (rfl : Nat.ble 0 21 = true)) _) hu1) (Nat.le_trans (Nat.add_le_add_left (Nat.le_of_ble_eq_true (rfl : Nat.ble 0 11725 = true)) _) hu2) (sX11_behind_mk hF hw (fun r hw => ?_))
  refine cl_aload_n hG (hx_dq tdL_25 17 rfl) rfl ?_
  refine cl_saload hS (hx_dq tdL_25 18 rfl) rfl ?_
  refine cl_iload_n hG (hx_dq tdL_25 19 rfl) rfl ?_
  refine cl_iconst hG 1 (hx_dq tdL_25 20 rfl) iconst_1 ?_
  refine cl_iadd hG (hx_dq tdL_25 21 rfl) ?_
  refine cl_sald hS (hx_dq tdL_25 22 rfl) i1 ?_
  refine cl_saload hS (hx_dq tdL_25 23 rfl) rfl ?_
  refine cl_iload_n hG (hx_dq tdL_25 24 rfl) rfl ?_
  refine cl_iconst hG 2 (hx_dq tdL_25 25 rfl) iconst_2 ?_
  refine cl_iadd hG (hx_dq tdL_25 26 rfl) ?_
  refine cl_sald hS (hx_dq tdL_25 27 rfl) i2 ?_
  refine cl_callV2 (caL_143 cA) (hx_dq tdL_25 28 rfl) (mF_S49 hM) (Nat.le_of_ble_eq_true rfl) (Nat.le_trans (Nat.add_le_add_left (Nat.le_of_ble_eq_true (rfl : Nat.ble 0 21 = true)) _) hu1) (Nat.le_trans (Nat.add_le_add_left (Nat.le_of_ble_eq_true (rfl : Nat.ble 0 11725 = true)) _) hu2) (sX12_behind_mk hM hw (fun q hw => ?_))
  obtain ⟨he, hw⟩ := hw
  exact cl_icmp_eq hG 1301 (hx_dq tdL_25 29 rfl) rfl (fun _ => hK _ _ _ (Nat.add_le_add_left (Nat.le_of_ble_eq_true (rfl : Nat.ble 0 21 = true)) _) (Nat.add_le_add_left (Nat.le_of_ble_eq_true (rfl : Nat.ble 0 11725 = true)) _) hw) (fun c => absurd he c)
def wL_30 (Λ : hx_L) (μ : hx_M) (a1 : Int32) (a2 : Int32) (K : hx_L → hx_M → Prop) : Prop := wX11_shop Λ μ a1 a2 (fun r m0 => wX12_shop m0 a1 a2 (fun q m1 => r = q ∧ K Λ m1))
theorem kL_30 {G : hx_GT} {KK : hx_KT} {L : Nat} {xs : Nat → Int32} (hG : hx_K cL_law 4 600000 7302250 (some .boolean) TbL KK G) (hS : hx_LW cL_law L xs G) (cA : hx_CA RL cL_law 2048 600000 7302250 G) {Λ : hx_L} {μ : hx_M} {u : Nat × Nat} (hF : cF Λ) (hM : mF Λ) {v3 : Int32} (hi : ∀ k : Nat, k < 6 → vp_in (v3 + Int32.ofNat k) L) {K : hx_L → hx_M → Prop} (hu1 : u.1 + 21 ≤ 600000) (hu2 : u.2 + 11725 ≤ 7302250) (hK : ∀ (Λ1 : hx_L) (μ1 : hx_M) (u1 : Nat × Nat), u1.1 ≤ u.1 + 21 → u1.2 ≤ u.2 + 11725 → K Λ1 μ1 → G Λ1 μ1 u1 1301 [some (.retAddr 3), some (.ref 0), some (.ref 49), some (.int v3)] []) (hw : wL_30 Λ μ (xs (v3 + 1).toNatClampNeg) (xs (v3 + 2).toNatClampNeg) K) : G Λ μ u 1186 [some (.retAddr 3), some (.ref 0), some (.ref 49), some (.int v3)] [] := by
  unfold wL_30 at hw
  have i1 : vp_in (v3 + 1) L := hi 1 (by decide)
  have i2 : vp_in (v3 + 2) L := hi 2 (by decide)
  refine cl_aload_n hG (hx_dq tdL_26 0 rfl) rfl ?_
  refine cl_saload hS (hx_dq tdL_26 1 rfl) rfl ?_
  refine cl_iload_n hG (hx_dq tdL_26 2 rfl) rfl ?_
  refine cl_iconst hG 1 (hx_dq tdL_26 3 rfl) iconst_1 ?_
  refine cl_iadd hG (hx_dq tdL_26 4 rfl) ?_
  refine cl_sald hS (hx_dq tdL_26 5 rfl) i1 ?_
  refine cl_saload hS (hx_dq tdL_26 6 rfl) rfl ?_
  refine cl_iload_n hG (hx_dq tdL_26 7 rfl) rfl ?_
  refine cl_iconst hG 2 (hx_dq tdL_26 8 rfl) iconst_2 ?_
  refine cl_iadd hG (hx_dq tdL_26 9 rfl) ?_
  refine cl_sald hS (hx_dq tdL_26 10 rfl) i2 ?_
  refine cl_callV2 (caL_144 cA) (hx_dq tdL_26 11 rfl) (cF_S0 hF) (Nat.le_of_ble_eq_true rfl) (Nat.le_trans (Nat.add_le_add_left (Nat.le_of_ble_eq_true (rfl : Nat.ble 0 21 = true)) _) hu1) (Nat.le_trans (Nat.add_le_add_left (Nat.le_of_ble_eq_true (rfl : Nat.ble 0 11725 = true)) _) hu2) (sX11_shop_mk hF hw (fun r m0 hw => ?_))
  refine cl_aload_n hG (hx_dq tdL_26 12 rfl) rfl ?_
  refine cl_saload hS (hx_dq tdL_26 13 rfl) rfl ?_
  refine cl_iload_n hG (hx_dq tdL_26 14 rfl) rfl ?_
  refine cl_iconst hG 1 (hx_dq tdL_26 15 rfl) iconst_1 ?_
  refine cl_iadd hG (hx_dq tdL_26 16 rfl) ?_
  refine cl_sald hS (hx_dq tdL_26 17 rfl) i1 ?_
  refine cl_saload hS (hx_dq tdL_26 18 rfl) rfl ?_
  refine cl_iload_n hG (hx_dq tdL_26 19 rfl) rfl ?_
  refine cl_iconst hG 2 (hx_dq tdL_26 20 rfl) iconst_2 ?_
  refine cl_iadd hG (hx_dq tdL_26 21 rfl) ?_
  refine cl_sald hS (hx_dq tdL_26 22 rfl) i2 ?_
  refine cl_callV2 (caL_147 cA) (hx_dq tdL_26 23 rfl) (mF_S49 hM) (Nat.le_of_ble_eq_true rfl) (Nat.le_trans (Nat.add_le_add_left (Nat.le_of_ble_eq_true (rfl : Nat.ble 0 21 = true)) _) hu1) (Nat.le_trans (Nat.add_le_add_left (Nat.le_of_ble_eq_true (rfl : Nat.ble 0 11725 = true)) _) hu2) (sX12_shop_mk hM hw (fun q m1 hw => ?_))
  obtain ⟨he, hw⟩ := hw
  exact cl_icmp_eq hG 1301 (hx_dq tdL_26 24 rfl) rfl (fun _ => hK _ _ _ (Nat.add_le_add_left (Nat.le_of_ble_eq_true (rfl : Nat.ble 0 21 = true)) _) (Nat.add_le_add_left (Nat.le_of_ble_eq_true (rfl : Nat.ble 0 11725 = true)) _) hw) (fun c => absurd he c)
def wL_31 (Λ : hx_L) (μ : hx_M) (a1 : Int32) (K : hx_L → hx_M → Prop) : Prop := wX11_read Λ μ a1 (fun r m0 => wX12_read m0 a1 (fun q m1 => r = q ∧ K Λ m1))
theorem kL_31 {G : hx_GT} {KK : hx_KT} {L : Nat} {xs : Nat → Int32} (hG : hx_K cL_law 4 600000 7302250 (some .boolean) TbL KK G) (hS : hx_LW cL_law L xs G) (cA : hx_CA RL cL_law 2048 600000 7302250 G) {Λ : hx_L} {μ : hx_M} {u : Nat × Nat} (hF : cF Λ) (hM : mF Λ) {v3 : Int32} (hi : ∀ k : Nat, k < 6 → vp_in (v3 + Int32.ofNat k) L) {K : hx_L → hx_M → Prop} (hu1 : u.1 + 21 ≤ 600000) (hu2 : u.2 + 11725 ≤ 7302250) (hK : ∀ (Λ1 : hx_L) (μ1 : hx_M) (u1 : Nat × Nat), u1.1 ≤ u.1 + 21 → u1.2 ≤ u.2 + 11725 → K Λ1 μ1 → G Λ1 μ1 u1 1301 [some (.retAddr 3), some (.ref 0), some (.ref 49), some (.int v3)] []) (hw : wL_31 Λ μ (xs (v3 + 1).toNatClampNeg) K) : G Λ μ u 1219 [some (.retAddr 3), some (.ref 0), some (.ref 49), some (.int v3)] [] := by
  unfold wL_31 at hw
  have i1 : vp_in (v3 + 1) L := hi 1 (by decide)
  refine cl_aload_n hG (hx_dq tdL_26 27 rfl) rfl ?_
  refine cl_saload hS (hx_dq tdL_26 28 rfl) rfl ?_
  refine cl_iload_n hG (hx_dq tdL_26 29 rfl) rfl ?_
  refine cl_iconst hG 1 (hx_dq tdL_26 30 rfl) iconst_1 ?_
  refine cl_iadd hG (hx_dq tdL_26 31 rfl) ?_
  refine cl_sald hS (hx_dq tdL_27 0 rfl) i1 ?_
  refine cl_callV1 (caL_148 cA) (hx_dq tdL_27 1 rfl) (cF_S0 hF) (Nat.le_of_ble_eq_true rfl) (Nat.le_trans (Nat.add_le_add_left (Nat.le_of_ble_eq_true (rfl : Nat.ble 0 21 = true)) _) hu1) (Nat.le_trans (Nat.add_le_add_left (Nat.le_of_ble_eq_true (rfl : Nat.ble 0 11725 = true)) _) hu2) (sX11_read_mk hF hw (fun r m0 hw => ?_))
  refine cl_aload_n hG (hx_dq tdL_27 2 rfl) rfl ?_
  refine cl_saload hS (hx_dq tdL_27 3 rfl) rfl ?_
  refine cl_iload_n hG (hx_dq tdL_27 4 rfl) rfl ?_
  refine cl_iconst hG 1 (hx_dq tdL_27 5 rfl) iconst_1 ?_
  refine cl_iadd hG (hx_dq tdL_27 6 rfl) ?_
  refine cl_sald hS (hx_dq tdL_27 7 rfl) i1 ?_
  refine cl_callV1 (caL_151 cA) (hx_dq tdL_27 8 rfl) (mF_S49 hM) (Nat.le_of_ble_eq_true rfl) (Nat.le_trans (Nat.add_le_add_left (Nat.le_of_ble_eq_true (rfl : Nat.ble 0 21 = true)) _) hu1) (Nat.le_trans (Nat.add_le_add_left (Nat.le_of_ble_eq_true (rfl : Nat.ble 0 11725 = true)) _) hu2) (sX12_read_mk hM hw (fun q m1 hw => ?_))
  obtain ⟨he, hw⟩ := hw
  exact cl_icmp_eq hG 1301 (hx_dq tdL_27 9 rfl) rfl (fun _ => hK _ _ _ (Nat.add_le_add_left (Nat.le_of_ble_eq_true (rfl : Nat.ble 0 21 = true)) _) (Nat.add_le_add_left (Nat.le_of_ble_eq_true (rfl : Nat.ble 0 11725 = true)) _) hw) (fun c => absurd he c)
def wL_32 (Λ : hx_L) (μ : hx_M) (K : hx_L → hx_M → Prop) : Prop := wX11_image Λ μ (fun r L0 m0 => mF L0 ∧ wX12_image L0 m0 (fun q m1 => r = q ∧ K L0 m1))
theorem kL_32 {G : hx_GT} {KK : hx_KT} {L : Nat} {xs : Nat → Int32} (hG : hx_K cL_law 4 600000 7302250 (some .boolean) TbL KK G) (hS : hx_LW cL_law L xs G) (cA : hx_CA RL cL_law 2048 600000 7302250 G) {Λ : hx_L} {μ : hx_M} {u : Nat × Nat} (hF : cF Λ) (hM : mF Λ) {v3 : Int32} (hi : ∀ k : Nat, k < 6 → vp_in (v3 + Int32.ofNat k) L) {K : hx_L → hx_M → Prop} (hu1 : u.1 + 21 ≤ 600000) (hu2 : u.2 + 11725 ≤ 7302250) (hK : ∀ (Λ1 : hx_L) (μ1 : hx_M) (u1 : Nat × Nat), u1.1 ≤ u.1 + 21 → u1.2 ≤ u.2 + 11725 → K Λ1 μ1 → G Λ1 μ1 u1 1301 [some (.retAddr 3), some (.ref 0), some (.ref 49), some (.int v3)] []) (hw : wL_32 Λ μ K) : G Λ μ u 1242 [some (.retAddr 3), some (.ref 0), some (.ref 49), some (.int v3)] [] := by
  unfold wL_32 at hw
  refine cl_aload_n hG (hx_dq tdL_27 12 rfl) rfl ?_
  refine cl_callV0 (caL_152 cA) (hx_dq tdL_27 13 rfl) (cF_S0 hF) (Nat.le_of_ble_eq_true rfl) (Nat.le_trans (Nat.add_le_add_left (Nat.le_of_ble_eq_true (rfl : Nat.ble 21 21 = true)) _) hu1) (Nat.le_trans (Nat.add_le_add_left (Nat.le_of_ble_eq_true (rfl : Nat.ble 11725 11725 = true)) _) hu2) (sX11_image_mk hF hw (fun r L0 m0 hw => ?_))
  refine cl_aload_n hG (hx_dq tdL_27 14 rfl) rfl ?_
  obtain ⟨hM1, hw⟩ := hw
  refine cl_callV0 (caL_155 cA) (hx_dq tdL_27 15 rfl) (mF_S49 hM1) (Nat.le_of_ble_eq_true rfl) (Nat.le_trans (Nat.add_le_add_left (Nat.le_of_ble_eq_true (rfl : Nat.ble 21 21 = true)) _) hu1) (Nat.le_trans (Nat.add_le_add_left (Nat.le_of_ble_eq_true (rfl : Nat.ble 11725 11725 = true)) _) hu2) (sX12_image_mk hM1 hw (fun q m1 hw => ?_))
  obtain ⟨he, hw⟩ := hw
  exact cl_icmp_eq hG 1301 (hx_dq tdL_27 16 rfl) rfl (fun _ => hK _ _ _ (Nat.add_le_add_left (Nat.le_of_ble_eq_true (rfl : Nat.ble 21 21 = true)) _) (Nat.add_le_add_left (Nat.le_of_ble_eq_true (rfl : Nat.ble 11725 11725 = true)) _) hw) (fun c => absurd he c)
def wL_33 (Λ : hx_L) (μ : hx_M) (a1 : Int32) (K : hx_L → hx_M → Prop) : Prop := wX11_back Λ μ a1 (fun r m0 => wX12_back Λ m0 a1 (fun q m1 => r = q ∧ K Λ m1))
theorem kL_33 {G : hx_GT} {KK : hx_KT} {L : Nat} {xs : Nat → Int32} (hG : hx_K cL_law 4 600000 7302250 (some .boolean) TbL KK G) (hS : hx_LW cL_law L xs G) (cA : hx_CA RL cL_law 2048 600000 7302250 G) {Λ : hx_L} {μ : hx_M} {u : Nat × Nat} (hF : cF Λ) (hM : mF Λ) {v3 : Int32} (hi : ∀ k : Nat, k < 6 → vp_in (v3 + Int32.ofNat k) L) {K : hx_L → hx_M → Prop} (hu1 : u.1 + 21 ≤ 600000) (hu2 : u.2 + 11725 ≤ 7302250) (hK : ∀ (Λ1 : hx_L) (μ1 : hx_M) (u1 : Nat × Nat), u1.1 ≤ u.1 + 21 → u1.2 ≤ u.2 + 11725 → K Λ1 μ1 → G Λ1 μ1 u1 1301 [some (.retAddr 3), some (.ref 0), some (.ref 49), some (.int v3)] []) (hw : wL_33 Λ μ (xs (v3 + 1).toNatClampNeg) K) : G Λ μ u 1255 [some (.retAddr 3), some (.ref 0), some (.ref 49), some (.int v3)] [] := by
  unfold wL_33 at hw
  have i1 : vp_in (v3 + 1) L := hi 1 (by decide)
  refine cl_aload_n hG (hx_dq tdL_27 19 rfl) rfl ?_
  refine cl_saload hS (hx_dq tdL_27 20 rfl) rfl ?_
  refine cl_iload_n hG (hx_dq tdL_27 21 rfl) rfl ?_
  refine cl_iconst hG 1 (hx_dq tdL_27 22 rfl) iconst_1 ?_
  refine cl_iadd hG (hx_dq tdL_27 23 rfl) ?_
  refine cl_sald hS (hx_dq tdL_27 24 rfl) i1 ?_
  refine cl_callV1 (caL_156 cA) (hx_dq tdL_27 25 rfl) (cF_S0 hF) (Nat.le_of_ble_eq_true rfl) (Nat.le_trans (Nat.add_le_add_left (Nat.le_of_ble_eq_true (rfl : Nat.ble 0 21 = true)) _) hu1) (Nat.le_trans (Nat.add_le_add_left (Nat.le_of_ble_eq_true (rfl : Nat.ble 0 11725 = true)) _) hu2) (sX11_back_mk hF hw (fun r m0 hw => ?_))
  refine cl_aload_n hG (hx_dq tdL_27 26 rfl) rfl ?_
  refine cl_saload hS (hx_dq tdL_27 27 rfl) rfl ?_
  refine cl_iload_n hG (hx_dq tdL_27 28 rfl) rfl ?_
  refine cl_iconst hG 1 (hx_dq tdL_27 29 rfl) iconst_1 ?_
  refine cl_iadd hG (hx_dq tdL_27 30 rfl) ?_
  refine cl_sald hS (hx_dq tdL_27 31 rfl) i1 ?_
  refine cl_callV1 (caL_159 cA) (hx_dq tdL_28 0 rfl) (mF_S49 hM) (Nat.le_of_ble_eq_true rfl) (Nat.le_trans (Nat.add_le_add_left (Nat.le_of_ble_eq_true (rfl : Nat.ble 0 21 = true)) _) hu1) (Nat.le_trans (Nat.add_le_add_left (Nat.le_of_ble_eq_true (rfl : Nat.ble 0 11725 = true)) _) hu2) (sX12_back_mk hM hw (fun q m1 hw => ?_))
  obtain ⟨he, hw⟩ := hw
  exact cl_icmp_eq hG 1301 (hx_dq tdL_28 1 rfl) rfl (fun _ => hK _ _ _ (Nat.add_le_add_left (Nat.le_of_ble_eq_true (rfl : Nat.ble 0 21 = true)) _) (Nat.add_le_add_left (Nat.le_of_ble_eq_true (rfl : Nat.ble 0 11725 = true)) _) hw) (fun c => absurd he c)
def wL_34 (Λ : hx_L) (μ : hx_M) (a1 : Int32) (K : hx_L → hx_M → Prop) : Prop := wX11_count Λ μ a1 (fun r => wX12_count μ a1 (fun q => r = q ∧ K Λ μ))
theorem kL_34 {G : hx_GT} {KK : hx_KT} {L : Nat} {xs : Nat → Int32} (hG : hx_K cL_law 4 600000 7302250 (some .boolean) TbL KK G) (hS : hx_LW cL_law L xs G) (cA : hx_CA RL cL_law 2048 600000 7302250 G) {Λ : hx_L} {μ : hx_M} {u : Nat × Nat} (hF : cF Λ) (hM : mF Λ) {v3 : Int32} (hi : ∀ k : Nat, k < 6 → vp_in (v3 + Int32.ofNat k) L) {K : hx_L → hx_M → Prop} (hu1 : u.1 + 21 ≤ 600000) (hu2 : u.2 + 11725 ≤ 7302250) (hK : ∀ (Λ1 : hx_L) (μ1 : hx_M) (u1 : Nat × Nat), u1.1 ≤ u.1 + 21 → u1.2 ≤ u.2 + 11725 → K Λ1 μ1 → G Λ1 μ1 u1 1301 [some (.retAddr 3), some (.ref 0), some (.ref 49), some (.int v3)] []) (hw : wL_34 Λ μ (xs (v3 + 1).toNatClampNeg) K) : G Λ μ u 1278 [some (.retAddr 3), some (.ref 0), some (.ref 49), some (.int v3)] [] := by
  unfold wL_34 at hw
  have i1 : vp_in (v3 + 1) L := hi 1 (by decide)
  refine cl_aload_n hG (hx_dq tdL_28 4 rfl) rfl ?_
  refine cl_saload hS (hx_dq tdL_28 5 rfl) rfl ?_
  refine cl_iload_n hG (hx_dq tdL_28 6 rfl) rfl ?_
  refine cl_iconst hG 1 (hx_dq tdL_28 7 rfl) iconst_1 ?_
  refine cl_iadd hG (hx_dq tdL_28 8 rfl) ?_
  refine cl_sald hS (hx_dq tdL_28 9 rfl) i1 ?_
  refine cl_callV1 (caL_160 cA) (hx_dq tdL_28 10 rfl) (cF_S0 hF) (Nat.le_of_ble_eq_true rfl) (Nat.le_trans (Nat.add_le_add_left (Nat.le_of_ble_eq_true (rfl : Nat.ble 0 21 = true)) _) hu1) (Nat.le_trans (Nat.add_le_add_left (Nat.le_of_ble_eq_true (rfl : Nat.ble 0 11725 = true)) _) hu2) (sX11_count_mk hF hw (fun r hw => ?_))
  refine cl_aload_n hG (hx_dq tdL_28 11 rfl) rfl ?_
  refine cl_saload hS (hx_dq tdL_28 12 rfl) rfl ?_
  refine cl_iload_n hG (hx_dq tdL_28 13 rfl) rfl ?_
  refine cl_iconst hG 1 (hx_dq tdL_28 14 rfl) iconst_1 ?_
  refine cl_iadd hG (hx_dq tdL_28 15 rfl) ?_
  refine cl_sald hS (hx_dq tdL_28 16 rfl) i1 ?_
  refine cl_callV1 (caL_163 cA) (hx_dq tdL_28 17 rfl) (mF_S49 hM) (Nat.le_of_ble_eq_true rfl) (Nat.le_trans (Nat.add_le_add_left (Nat.le_of_ble_eq_true (rfl : Nat.ble 0 21 = true)) _) hu1) (Nat.le_trans (Nat.add_le_add_left (Nat.le_of_ble_eq_true (rfl : Nat.ble 0 11725 = true)) _) hu2) (sX12_count_mk hM hw (fun q hw => ?_))
  obtain ⟨he, hw⟩ := hw
  exact cl_icmp_eq hG 1301 (hx_dq tdL_28 18 rfl) rfl (fun _ => hK _ _ _ (Nat.add_le_add_left (Nat.le_of_ble_eq_true (rfl : Nat.ble 0 21 = true)) _) (Nat.add_le_add_left (Nat.le_of_ble_eq_true (rfl : Nat.ble 0 11725 = true)) _) hw) (fun c => absurd he c)
theorem caL_9 {G : hx_GT} (cA : hx_CA RL cL_law 2048 600000 7302250 G) : hx_CI cL_law G 600000 7302250 9 0 sX11_init 48 15430 := cA.2.2.2 conX11_init ⟨by decide +kernel, by decide +kernel, by decide +kernel⟩ rfl mw_107 mw_108 mw_84 mw_109 (by decide) (by decide)
theorem caL_12 {G : hx_GT} (cA : hx_CA RL cL_law 2048 600000 7302250 G) : hx_CI cL_law G 600000 7302250 12 0 sX12_init 43 81507 := cA.2.2.2 conX12_init ⟨by decide +kernel, by decide +kernel, by decide +kernel⟩ rfl mw_1122 mw_1123 mw_97 mw_1124 (by decide) (by decide)
def TAL : hx_TA := ([(7, 11, 15), (10, 12, 70)], [], [], [])
theorem taL_n7 : (7, 11, 15) ∈ TAL.1 := List.mem_of_getElem? (i := 0) rfl
theorem toL_n7 : hx_nok RL (7, 11, 15) := ⟨RX11, TX11, tyX11, rfl, inX11, tyX11_ok, mw_105, mw_106, mw_84, nkX11, rfl⟩
theorem taL_n10 : (10, 12, 70) ∈ TAL.1 := List.mem_of_getElem? (i := 1) rfl
theorem toL_n10 : hx_nok RL (10, 12, 70) := ⟨RX12, TX12, tyX12, rfl, inX12, tyX12_ok, mw_1120, mw_1121, mw_97, nkX12, rfl⟩
theorem taokL : hx_taok RL TAL := ⟨(List.forall_mem_cons.mpr ⟨toL_n7, (List.forall_mem_cons.mpr ⟨toL_n10, (fun _ h => absurd h List.not_mem_nil)⟩)⟩), (fun _ h => absurd h List.not_mem_nil), (fun _ h => absurd h List.not_mem_nil), (fun _ h => absurd h List.not_mem_nil)⟩
def hx_L0 : hx_L := (fun _ => (0, 0), fun _ _ => none, 0)
def wL_start (μ : hx_M) (K : hx_L → hx_M → Prop) : Prop := wX11_init (hx_push hx_L0 (0, 11)) (hx_z μ 0) 0 (fun L1 m1 => L1.2.2 = 49 ∧ wX12_init (hx_push L1 (0, 12)) (hx_z m1 49) 49 K)
theorem kL_start {G : hx_GT} {KK : hx_KT} {L : Nat} {xs : Nat → Int32} (hG : hx_K cL_law 4 600000 7302250 (some .boolean) TbL KK G) (hS : hx_LW cL_law L xs G) (cA : hx_CA RL cL_law 2048 600000 7302250 G) (hM : hx_KA cL_law 600000 7302250 TAL G) {μ : hx_M} {K : hx_L → hx_M → Prop} (hK : ∀ (Λ1 : hx_L) (μ1 : hx_M), K Λ1 μ1 → G Λ1 μ1 (93, 97022) 18 [some (.retAddr 3), some (.ref 0), some (.ref 49), some (.int 0)] []) (hw : wL_start μ K) : G hx_L0 μ (0, 0) 0 [some (.retAddr 3), none, none, none] [] := by
  unfold wL_start at hw
  refine cl_new hM taL_n7 (hx_dq tdL_0 0 rfl) (Nat.le_of_ble_eq_true rfl) (Nat.le_of_ble_eq_true rfl) (Nat.lt_of_lt_of_le (Nat.zero_lt_one) (Nat.le_of_ble_eq_true rfl)) ?_
  refine cl_dup hG (hx_dq tdL_0 1 rfl) rfl ?_
  refine cl_callI0 (caL_9 cA) (hx_dq tdL_0 2 rfl) (Nat.le_of_ble_eq_true rfl) (Nat.le_of_ble_eq_true rfl) (Nat.le_of_ble_eq_true rfl) (sX11_init_mk hw (fun L1 m1 hw => ?_))
  obtain ⟨e49, hw⟩ := hw
  refine cl_astore_n hG (hx_dq tdL_0 3 rfl) (Nat.le_of_ble_eq_true rfl) rfl ?_
  refine cl_new hM taL_n10 (hx_dq tdL_0 4 rfl) (Nat.le_of_ble_eq_true rfl) (Nat.le_of_ble_eq_true rfl) (by rw [e49]; exact Nat.le_of_ble_eq_true rfl) ?_
  rw [e49]
  refine cl_dup hG (hx_dq tdL_0 5 rfl) rfl ?_
  refine cl_callI0 (caL_12 cA) (hx_dq tdL_0 6 rfl) (Nat.le_of_ble_eq_true rfl) (Nat.le_of_ble_eq_true rfl) (Nat.le_of_ble_eq_true rfl) (sX12_init_mk hw (fun L2 m2 hw => ?_))
  refine cl_astore_n hG (hx_dq tdL_0 7 rfl) (Nat.le_of_ble_eq_true rfl) rfl ?_
  refine cl_iconst hG 0 (hx_dq tdL_0 8 rfl) iconst_0 ?_
  refine cl_istore_n hG (hx_dq tdL_0 9 rfl) (Nat.le_of_ble_eq_true rfl) rfl ?_
  exact hK L2 m2 hw
/-- what is owed of the methods: each call keeps the invariant and gets one answer of both -/
def wL_all (I : hx_L → hx_M → Prop) : Prop := (∀ (Λ : hx_L) (μ : hx_M), I Λ μ → cF Λ ∧ mF Λ) ∧ (∀ (Λ : hx_L) (μ : hx_M) (a1 : Int32) (a2 : Int32) (a3 : Int32), I Λ μ → wL_0 Λ μ a1 a2 a3 I) ∧ (∀ (Λ : hx_L) (μ : hx_M) (a1 : Int32) (a2 : Int32) (a3 : Int32), I Λ μ → wL_1 Λ μ a1 a2 a3 I) ∧ (∀ (Λ : hx_L) (μ : hx_M) (a1 : Int32) (a2 : Int32), I Λ μ → wL_2 Λ μ a1 a2 I) ∧ (∀ (Λ : hx_L) (μ : hx_M) (a1 : Int32), I Λ μ → wL_3 Λ μ a1 I) ∧ (∀ (Λ : hx_L) (μ : hx_M) (a1 : Int32) (a2 : Int32) (a3 : Int32), I Λ μ → wL_4 Λ μ a1 a2 a3 I) ∧ (∀ (Λ : hx_L) (μ : hx_M) (a1 : Int32), I Λ μ → wL_5 Λ μ a1 I) ∧ (∀ (Λ : hx_L) (μ : hx_M) (a1 : Int32) (a2 : Int32) (a3 : Int32) (a4 : Int32) (a5 : Int32), I Λ μ → wL_6 Λ μ a1 a2 a3 a4 a5 I) ∧ (∀ (Λ : hx_L) (μ : hx_M) (a1 : Int32), I Λ μ → wL_7 Λ μ a1 I) ∧ (∀ (Λ : hx_L) (μ : hx_M) (a1 : Int32), I Λ μ → wL_8 Λ μ a1 I) ∧ (∀ (Λ : hx_L) (μ : hx_M), I Λ μ → wL_9 Λ μ I) ∧ (∀ (Λ : hx_L) (μ : hx_M) (a1 : Int32), I Λ μ → wL_10 Λ μ a1 I) ∧ (∀ (Λ : hx_L) (μ : hx_M) (a1 : Int32), I Λ μ → wL_11 Λ μ a1 I) ∧ (∀ (Λ : hx_L) (μ : hx_M) (a1 : Int32) (a2 : Int32), I Λ μ → wL_12 Λ μ a1 a2 I) ∧ (∀ (Λ : hx_L) (μ : hx_M) (a1 : Int32) (a2 : Int32), I Λ μ → wL_13 Λ μ a1 a2 I) ∧ (∀ (Λ : hx_L) (μ : hx_M) (a1 : Int32) (a2 : Int32), I Λ μ → wL_14 Λ μ a1 a2 I) ∧ (∀ (Λ : hx_L) (μ : hx_M) (a1 : Int32) (a2 : Int32) (a3 : Int32) (a4 : Int32), I Λ μ → wL_15 Λ μ a1 a2 a3 a4 I) ∧ (∀ (Λ : hx_L) (μ : hx_M) (a1 : Int32) (a2 : Int32), I Λ μ → wL_16 Λ μ a1 a2 I) ∧ (∀ (Λ : hx_L) (μ : hx_M) (a1 : Int32) (a2 : Int32) (a3 : Int32), I Λ μ → wL_17 Λ μ a1 a2 a3 I) ∧ (∀ (Λ : hx_L) (μ : hx_M) (a1 : Int32) (a2 : Int32), I Λ μ → wL_18 Λ μ a1 a2 I) ∧ (∀ (Λ : hx_L) (μ : hx_M) (a1 : Int32) (a2 : Int32), I Λ μ → wL_19 Λ μ a1 a2 I) ∧ (∀ (Λ : hx_L) (μ : hx_M) (a1 : Int32) (a2 : Int32), I Λ μ → wL_20 Λ μ a1 a2 I) ∧ (∀ (Λ : hx_L) (μ : hx_M) (a1 : Int32) (a2 : Int32), I Λ μ → wL_21 Λ μ a1 a2 I) ∧ (∀ (Λ : hx_L) (μ : hx_M) (a1 : Int32) (a2 : Int32), I Λ μ → wL_22 Λ μ a1 a2 I) ∧ (∀ (Λ : hx_L) (μ : hx_M), I Λ μ → wL_23 Λ μ I) ∧ (∀ (Λ : hx_L) (μ : hx_M) (a1 : Int32) (a2 : Int32) (a3 : Int32), I Λ μ → wL_24 Λ μ a1 a2 a3 I) ∧ (∀ (Λ : hx_L) (μ : hx_M) (a1 : Int32) (a2 : Int32), I Λ μ → wL_25 Λ μ a1 a2 I) ∧ (∀ (Λ : hx_L) (μ : hx_M) (a1 : Int32) (a2 : Int32), I Λ μ → wL_26 Λ μ a1 a2 I) ∧ (∀ (Λ : hx_L) (μ : hx_M) (a1 : Int32), I Λ μ → wL_27 Λ μ a1 I) ∧ (∀ (Λ : hx_L) (μ : hx_M) (a1 : Int32) (a2 : Int32), I Λ μ → wL_28 Λ μ a1 a2 I) ∧ (∀ (Λ : hx_L) (μ : hx_M) (a1 : Int32) (a2 : Int32), I Λ μ → wL_29 Λ μ a1 a2 I) ∧ (∀ (Λ : hx_L) (μ : hx_M) (a1 : Int32) (a2 : Int32), I Λ μ → wL_30 Λ μ a1 a2 I) ∧ (∀ (Λ : hx_L) (μ : hx_M) (a1 : Int32), I Λ μ → wL_31 Λ μ a1 I) ∧ (∀ (Λ : hx_L) (μ : hx_M), I Λ μ → wL_32 Λ μ I) ∧ (∀ (Λ : hx_L) (μ : hx_M) (a1 : Int32), I Λ μ → wL_33 Λ μ a1 I) ∧ (∀ (Λ : hx_L) (μ : hx_M) (a1 : Int32), I Λ μ → wL_34 Λ μ a1 I)
theorem hx_inI {m n : Nat} (h : m < n) (hn : n ≤ 65536) : vp_in (Int32.ofNat m) n := by
  have h1 : (Int32.ofNat m).toInt = m := Int32.toInt_ofNat_of_lt (by omega)
  intro h2
  rcases h2 with h2 | h2
  · have h3 := Int32.lt_iff_toInt_lt.mp h2
    rw [h1] at h3
    have : (0 : Int32).toInt = 0 := rfl
    omega
  · have h3 : (Int32.ofNat m).toNatClampNeg = m := by
      show (Int32.ofNat m).toInt.toNat = m
      rw [h1]; rfl
    omega
theorem hx_inA {q k n : Nat} (h : q + k < n) (hn : n ≤ 65536) : vp_in (Int32.ofNat q + Int32.ofNat k) n := by
  rw [← Int32.ofNat_add]
  exact hx_inI h hn
theorem hx_i6 {L q : Nat} (hL : L ≤ 3072) (hq : q ≤ 4000) : Int32.ofNat L - 6 < Int32.ofNat q ↔ L < q + 6 := by
  have h1 : (Int32.ofNat L).toInt = L := Int32.toInt_ofNat_of_lt (by omega)
  have h2 : (Int32.ofNat q).toInt = q := Int32.toInt_ofNat_of_lt (by omega)
  have h3 : (Int32.ofNat L - 6).toInt = L - 6 := by
    rw [Int32.toInt_sub, h1]
    have : (6 : Int32).toInt = 6 := rfl
    rw [this]
    apply Int.bmod_eq_of_le <;> omega
  rw [Int32.lt_iff_toInt_lt, h2, h3]
  omega
set_option maxRecDepth 100000 in
set_option maxHeartbeats 4000000 in
theorem kL_body {G : hx_GT} {KK : hx_KT} {L : Nat} {xs : Nat → Int32} (hG : hx_K cL_law 4 600000 7302250 (some .boolean) TbL KK G) (hS : hx_LW cL_law L xs G) (cA : hx_CA RL cL_law 2048 600000 7302250 G) (hL : L ≤ 3072) {I : hx_L → hx_M → Prop} (hI : wL_all I) {q : Nat} {Λ : hx_L} {μ : hx_M} {u : Nat × Nat} (hq : 6 * q + 6 ≤ L) (hu1 : u.1 + 21 ≤ 600000) (hu2 : u.2 + 11725 ≤ 7302250) (hi : I Λ μ) (hk : ∀ (Λ1 : hx_L) (μ1 : hx_M) (u1 : Nat × Nat), u1.1 ≤ u.1 + 21 → u1.2 ≤ u.2 + 11725 → I Λ1 μ1 → G Λ1 μ1 u1 1301 [some (.retAddr 3), some (.ref 0), some (.ref 49), some (.int (Int32.ofNat (6 * q)))] []) : G Λ μ u 27 [some (.retAddr 3), some (.ref 0), some (.ref 49), some (.int (Int32.ofNat (6 * q)))] [] := by
  have hv : ∀ k : Nat, k < 6 → vp_in (Int32.ofNat (6 * q) + Int32.ofNat k) L := fun k hk => hx_inA (by omega) (by omega)
  refine cl_saload hS (hx_dq tdL_0 16 rfl) rfl ?_
  refine cl_iload_n hG (hx_dq tdL_0 17 rfl) rfl ?_
  refine cl_sald hS (hx_dq tdL_0 18 rfl) (hx_inI (by omega) (by omega)) ?_
  refine cl_bipush hG 63 (hx_dq tdL_0 19 rfl) bipush_63 ?_
  refine cl_iand hG (hx_dq tdL_0 20 rfl) ?_
  refine hG.1 _ _ _ (hx_dq tdL_0 21 rfl) _ _ _ _ _ ⟨_, _, rfl, fun c => ⟨1301, rfl, ?_⟩, fun c e => ?_⟩
  · exact hk Λ μ u (Nat.le_add_right _ _) (Nat.le_add_right _ _) hi
  rcases hx_sw34 _ c e with c | c | c | c | c | c | c | c | c | c | c | c | c | c | c | c | c | c | c | c | c | c | c | c | c | c | c | c | c | c | c | c | c | c | c
  · refine ⟨155, 188, by rw [c]; decide, rfl, kL_0 hG hS cA (hI.1 _ _ hi).1 (hI.1 _ _ hi).2 hv hu1 hu2 hk (hI.2.1 Λ μ _ _ _ hi)⟩
  · refine ⟨198, 231, by rw [c]; decide, rfl, kL_1 hG hS cA (hI.1 _ _ hi).1 (hI.1 _ _ hi).2 hv hu1 hu2 hk (hI.2.2.1 Λ μ _ _ _ hi)⟩
  · refine ⟨257, 290, by rw [c]; decide, rfl, kL_2 hG hS cA (hI.1 _ _ hi).1 (hI.1 _ _ hi).2 hv hu1 hu2 hk (hI.2.2.2.1 Λ μ _ _ hi)⟩
  · refine ⟨290, 323, by rw [c]; decide, rfl, kL_3 hG hS cA (hI.1 _ _ hi).1 (hI.1 _ _ hi).2 hv hu1 hu2 hk (hI.2.2.2.2.1 Λ μ _ hi)⟩
  · refine ⟨313, 346, by rw [c]; decide, rfl, kL_4 hG hS cA (hI.1 _ _ hi).1 (hI.1 _ _ hi).2 hv hu1 hu2 hk (hI.2.2.2.2.2.1 Λ μ _ _ _ hi)⟩
  · refine ⟨356, 389, by rw [c]; decide, rfl, kL_5 hG hS cA (hI.1 _ _ hi).1 (hI.1 _ _ hi).2 hv hu1 hu2 hk (hI.2.2.2.2.2.2.1 Λ μ _ hi)⟩
  · refine ⟨379, 412, by rw [c]; decide, rfl, kL_6 hG hS cA (hI.1 _ _ hi).1 (hI.1 _ _ hi).2 hv hu1 hu2 hk (hI.2.2.2.2.2.2.2.1 Λ μ _ _ _ _ _ hi)⟩
  · refine ⟨442, 475, by rw [c]; decide, rfl, kL_7 hG hS cA (hI.1 _ _ hi).1 (hI.1 _ _ hi).2 hv hu1 hu2 hk (hI.2.2.2.2.2.2.2.2.1 Λ μ _ hi)⟩
  · refine ⟨465, 498, by rw [c]; decide, rfl, kL_8 hG hS cA (hI.1 _ _ hi).1 (hI.1 _ _ hi).2 hv hu1 hu2 hk (hI.2.2.2.2.2.2.2.2.2.1 Λ μ _ hi)⟩
  · refine ⟨488, 521, by rw [c]; decide, rfl, kL_9 hG hS cA (hI.1 _ _ hi).1 (hI.1 _ _ hi).2 hv hu1 hu2 hk (hI.2.2.2.2.2.2.2.2.2.2.1 Λ μ hi)⟩
  · refine ⟨501, 534, by rw [c]; decide, rfl, kL_10 hG hS cA (hI.1 _ _ hi).1 (hI.1 _ _ hi).2 hv hu1 hu2 hk (hI.2.2.2.2.2.2.2.2.2.2.2.1 Λ μ _ hi)⟩
  · refine ⟨524, 557, by rw [c]; decide, rfl, kL_11 hG hS cA (hI.1 _ _ hi).1 (hI.1 _ _ hi).2 hv hu1 hu2 hk (hI.2.2.2.2.2.2.2.2.2.2.2.2.1 Λ μ _ hi)⟩
  · refine ⟨547, 580, by rw [c]; decide, rfl, kL_12 hG hS cA (hI.1 _ _ hi).1 (hI.1 _ _ hi).2 hv hu1 hu2 hk (hI.2.2.2.2.2.2.2.2.2.2.2.2.2.1 Λ μ _ _ hi)⟩
  · refine ⟨580, 613, by rw [c]; decide, rfl, kL_13 hG hS cA (hI.1 _ _ hi).1 (hI.1 _ _ hi).2 hv hu1 hu2 hk (hI.2.2.2.2.2.2.2.2.2.2.2.2.2.2.1 Λ μ _ _ hi)⟩
  · refine ⟨613, 646, by rw [c]; decide, rfl, kL_14 hG hS cA (hI.1 _ _ hi).1 (hI.1 _ _ hi).2 hv hu1 hu2 hk (hI.2.2.2.2.2.2.2.2.2.2.2.2.2.2.2.1 Λ μ _ _ hi)⟩
  · refine ⟨646, 679, by rw [c]; decide, rfl, kL_15 hG hS cA (hI.1 _ _ hi).1 (hI.1 _ _ hi).2 hv hu1 hu2 hk (hI.2.2.2.2.2.2.2.2.2.2.2.2.2.2.2.2.1 Λ μ _ _ _ _ hi)⟩
  · refine ⟨699, 732, by rw [c]; decide, rfl, kL_16 hG hS cA (hI.1 _ _ hi).1 (hI.1 _ _ hi).2 hv hu1 hu2 hk (hI.2.2.2.2.2.2.2.2.2.2.2.2.2.2.2.2.2.1 Λ μ _ _ hi)⟩
  · refine ⟨732, 765, by rw [c]; decide, rfl, kL_17 hG hS cA (hI.1 _ _ hi).1 (hI.1 _ _ hi).2 hv hu1 hu2 hk (hI.2.2.2.2.2.2.2.2.2.2.2.2.2.2.2.2.2.2.1 Λ μ _ _ _ hi)⟩
  · refine ⟨775, 808, by rw [c]; decide, rfl, kL_18 hG hS cA (hI.1 _ _ hi).1 (hI.1 _ _ hi).2 hv hu1 hu2 hk (hI.2.2.2.2.2.2.2.2.2.2.2.2.2.2.2.2.2.2.2.1 Λ μ _ _ hi)⟩
  · refine ⟨808, 841, by rw [c]; decide, rfl, kL_19 hG hS cA (hI.1 _ _ hi).1 (hI.1 _ _ hi).2 hv hu1 hu2 hk (hI.2.2.2.2.2.2.2.2.2.2.2.2.2.2.2.2.2.2.2.2.1 Λ μ _ _ hi)⟩
  · refine ⟨841, 874, by rw [c]; decide, rfl, kL_20 hG hS cA (hI.1 _ _ hi).1 (hI.1 _ _ hi).2 hv hu1 hu2 hk (hI.2.2.2.2.2.2.2.2.2.2.2.2.2.2.2.2.2.2.2.2.2.1 Λ μ _ _ hi)⟩
  · refine ⟨874, 907, by rw [c]; decide, rfl, kL_21 hG hS cA (hI.1 _ _ hi).1 (hI.1 _ _ hi).2 hv hu1 hu2 hk (hI.2.2.2.2.2.2.2.2.2.2.2.2.2.2.2.2.2.2.2.2.2.2.1 Λ μ _ _ hi)⟩
  · refine ⟨908, 941, by rw [c]; decide, rfl, kL_22 hG hS cA (hI.1 _ _ hi).1 (hI.1 _ _ hi).2 hv hu1 hu2 hk (hI.2.2.2.2.2.2.2.2.2.2.2.2.2.2.2.2.2.2.2.2.2.2.2.1 Λ μ _ _ hi)⟩
  · refine ⟨942, 975, by rw [c]; decide, rfl, kL_23 hG hS cA (hI.1 _ _ hi).1 (hI.1 _ _ hi).2 hv hu1 hu2 hk (hI.2.2.2.2.2.2.2.2.2.2.2.2.2.2.2.2.2.2.2.2.2.2.2.2.1 Λ μ hi)⟩
  · refine ⟨955, 988, by rw [c]; decide, rfl, kL_24 hG hS cA (hI.1 _ _ hi).1 (hI.1 _ _ hi).2 hv hu1 hu2 hk (hI.2.2.2.2.2.2.2.2.2.2.2.2.2.2.2.2.2.2.2.2.2.2.2.2.2.1 Λ μ _ _ _ hi)⟩
  · refine ⟨998, 1031, by rw [c]; decide, rfl, kL_25 hG hS cA (hI.1 _ _ hi).1 (hI.1 _ _ hi).2 hv hu1 hu2 hk (hI.2.2.2.2.2.2.2.2.2.2.2.2.2.2.2.2.2.2.2.2.2.2.2.2.2.2.1 Λ μ _ _ hi)⟩
  · refine ⟨1031, 1064, by rw [c]; decide, rfl, kL_26 hG hS cA (hI.1 _ _ hi).1 (hI.1 _ _ hi).2 hv hu1 hu2 hk (hI.2.2.2.2.2.2.2.2.2.2.2.2.2.2.2.2.2.2.2.2.2.2.2.2.2.2.2.1 Λ μ _ _ hi)⟩
  · refine ⟨1064, 1097, by rw [c]; decide, rfl, kL_27 hG hS cA (hI.1 _ _ hi).1 (hI.1 _ _ hi).2 hv hu1 hu2 hk (hI.2.2.2.2.2.2.2.2.2.2.2.2.2.2.2.2.2.2.2.2.2.2.2.2.2.2.2.2.1 Λ μ _ hi)⟩
  · refine ⟨1087, 1120, by rw [c]; decide, rfl, kL_28 hG hS cA (hI.1 _ _ hi).1 (hI.1 _ _ hi).2 hv hu1 hu2 hk (hI.2.2.2.2.2.2.2.2.2.2.2.2.2.2.2.2.2.2.2.2.2.2.2.2.2.2.2.2.2.1 Λ μ _ _ hi)⟩
  · refine ⟨1120, 1153, by rw [c]; decide, rfl, kL_29 hG hS cA (hI.1 _ _ hi).1 (hI.1 _ _ hi).2 hv hu1 hu2 hk (hI.2.2.2.2.2.2.2.2.2.2.2.2.2.2.2.2.2.2.2.2.2.2.2.2.2.2.2.2.2.2.1 Λ μ _ _ hi)⟩
  · refine ⟨1153, 1186, by rw [c]; decide, rfl, kL_30 hG hS cA (hI.1 _ _ hi).1 (hI.1 _ _ hi).2 hv hu1 hu2 hk (hI.2.2.2.2.2.2.2.2.2.2.2.2.2.2.2.2.2.2.2.2.2.2.2.2.2.2.2.2.2.2.2.1 Λ μ _ _ hi)⟩
  · refine ⟨1186, 1219, by rw [c]; decide, rfl, kL_31 hG hS cA (hI.1 _ _ hi).1 (hI.1 _ _ hi).2 hv hu1 hu2 hk (hI.2.2.2.2.2.2.2.2.2.2.2.2.2.2.2.2.2.2.2.2.2.2.2.2.2.2.2.2.2.2.2.2.1 Λ μ _ hi)⟩
  · refine ⟨1209, 1242, by rw [c]; decide, rfl, kL_32 hG hS cA (hI.1 _ _ hi).1 (hI.1 _ _ hi).2 hv hu1 hu2 hk (hI.2.2.2.2.2.2.2.2.2.2.2.2.2.2.2.2.2.2.2.2.2.2.2.2.2.2.2.2.2.2.2.2.2.1 Λ μ hi)⟩
  · refine ⟨1222, 1255, by rw [c]; decide, rfl, kL_33 hG hS cA (hI.1 _ _ hi).1 (hI.1 _ _ hi).2 hv hu1 hu2 hk (hI.2.2.2.2.2.2.2.2.2.2.2.2.2.2.2.2.2.2.2.2.2.2.2.2.2.2.2.2.2.2.2.2.2.2.1 Λ μ _ hi)⟩
  · refine ⟨1245, 1278, by rw [c]; decide, rfl, kL_34 hG hS cA (hI.1 _ _ hi).1 (hI.1 _ _ hi).2 hv hu1 hu2 hk (hI.2.2.2.2.2.2.2.2.2.2.2.2.2.2.2.2.2.2.2.2.2.2.2.2.2.2.2.2.2.2.2.2.2.2.2 Λ μ _ hi)⟩
