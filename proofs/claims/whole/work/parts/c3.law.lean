/-! THE LAW: its loop, without the call of rank -/
def lc_0 : List mm_I := [(23, .iload 4, 2, 0), (25, .aload_n 0, 1, 0), (26, .arraylength, 1, 0), (27, .bipush 7, 2, 7), (29, .isub, 1, 0), (30, .if_icmp .gt 2010, 3, 0), (33, .aload_n 0, 1, 0), (34, .iload 4, 2, 0), (36, .iaload, 1, 0), (37, .bipush 63, 2, 63), (39, .iand, 1, 0), (40, .tableswitch 1994 0 52 #[228, 375, 388, 401, 438, 475, 524, 561, 610, 635, 684, 721, 746, 795, 808, 821, 834, 847, 872, 885, 910, 947, 984, 997, 1065, 1102, 1127, 1152, 1177, 1214, 1239, 1264, 1301, 1314, 1339, 1376, 1413, 1450, 1475, 1512, 1525, 1562, 1635, 1672, 1709, 1758, 1795, 1820, 1833, 1870, 1895, 1920, 1969], 228, 0), (268, .aload_n 1, 1, 0), (269, .aload_n 0, 1, 0), (270, .iload 4, 2, 0), (272, .iconst 1, 1, 1), (273, .iadd, 1, 0), (274, .iaload, 1, 0), (275, .i2l, 1, 0), (276, .bipush 32, 2, 32), (278, .lshl, 1, 0), (279, .aload_n 0, 1, 0), (280, .iload 4, 2, 0), (282, .iconst 2, 1, 2), (283, .iadd, 1, 0), (284, .iaload, 1, 0), (285, .i2l, 1, 0), (286, .ldc2_w 19, 3, 0), (289, .land, 1, 0), (290, .lor, 1, 0), (291, .aload_n 0, 1, 0), (292, .iload 4, 2, 0), (294, .iconst 3, 1, 3), (295, .iadd, 1, 0), (296, .iaload, 1, 0), (297, .i2l, 1, 0), (298, .bipush 32, 2, 32), (300, .lshl, 1, 0), (301, .aload_n 0, 1, 0), (302, .iload 4, 2, 0), (304, .iconst 4, 1, 4), (305, .iadd, 1, 0), (306, .iaload, 1, 0), (307, .i2l, 1, 0), (308, .ldc2_w 19, 3, 0), (311, .land, 1, 0), (312, .lor, 1, 0), (313, .aload_n 0, 1, 0), (314, .iload 4, 2, 0), (316, .iconst 5, 1, 5), (317, .iadd, 1, 0), (318, .iaload, 1, 0), (319, .i2l, 1, 0), (320, .bipush 32, 2, 32), (322, .lshl, 1, 0), (323, .aload_n 0, 1, 0), (324, .iload 4, 2, 0), (326, .bipush 6, 2, 6), (328, .iadd, 1, 0), (329, .iaload, 1, 0)]
def lc_1 : List mm_I := [(330, .i2l, 1, 0), (331, .ldc2_w 19, 3, 0), (334, .land, 1, 0), (335, .lor, 1, 0), (336, .invokevirtual 21, 3, 0), (339, .aload_n 2, 1, 0), (340, .aload_n 0, 1, 0), (341, .iload 4, 2, 0), (343, .iconst 1, 1, 1), (344, .iadd, 1, 0), (345, .iaload, 1, 0), (346, .i2l, 1, 0), (347, .bipush 32, 2, 32), (349, .lshl, 1, 0), (350, .aload_n 0, 1, 0), (351, .iload 4, 2, 0), (353, .iconst 2, 1, 2), (354, .iadd, 1, 0), (355, .iaload, 1, 0), (356, .i2l, 1, 0), (357, .ldc2_w 19, 3, 0), (360, .land, 1, 0), (361, .lor, 1, 0), (362, .aload_n 0, 1, 0), (363, .iload 4, 2, 0), (365, .iconst 3, 1, 3), (366, .iadd, 1, 0), (367, .iaload, 1, 0), (368, .i2l, 1, 0), (369, .bipush 32, 2, 32), (371, .lshl, 1, 0), (372, .aload_n 0, 1, 0), (373, .iload 4, 2, 0), (375, .iconst 4, 1, 4), (376, .iadd, 1, 0), (377, .iaload, 1, 0), (378, .i2l, 1, 0), (379, .ldc2_w 19, 3, 0), (382, .land, 1, 0), (383, .lor, 1, 0), (384, .aload_n 0, 1, 0), (385, .iload 4, 2, 0), (387, .iconst 5, 1, 5), (388, .iadd, 1, 0), (389, .iaload, 1, 0), (390, .i2l, 1, 0), (391, .bipush 32, 2, 32), (393, .lshl, 1, 0), (394, .aload_n 0, 1, 0), (395, .iload 4, 2, 0), (397, .bipush 6, 2, 6), (399, .iadd, 1, 0), (400, .iaload, 1, 0), (401, .i2l, 1, 0), (402, .ldc2_w 19, 3, 0), (405, .land, 1, 0), (406, .lor, 1, 0), (407, .invokevirtual 25, 3, 0), (410, .if_icmp .eq 1624, 3, 0), (413, .iconst 0, 1, 0)]
def lc_2 : List mm_I := [(414, .ireturn, 1, 0), (415, .aload_n 1, 1, 0), (416, .invokevirtual 26, 3, 0), (419, .aload_n 2, 1, 0), (420, .invokevirtual 30, 3, 0), (423, .if_icmp .eq 1611, 3, 0), (426, .iconst 0, 1, 0), (427, .ireturn, 1, 0), (428, .aload_n 1, 1, 0), (429, .invokevirtual 31, 3, 0), (432, .aload_n 2, 1, 0), (433, .invokevirtual 34, 3, 0), (436, .if_icmp .eq 1598, 3, 0), (439, .iconst 0, 1, 0), (440, .ireturn, 1, 0), (441, .aload_n 1, 1, 0), (442, .aload_n 0, 1, 0), (443, .iload 4, 2, 0), (445, .iconst 1, 1, 1), (446, .iadd, 1, 0), (447, .iaload, 1, 0), (448, .aload_n 0, 1, 0), (449, .iload 4, 2, 0), (451, .iconst 2, 1, 2), (452, .iadd, 1, 0), (453, .iaload, 1, 0), (454, .invokevirtual 35, 3, 0), (457, .aload_n 2, 1, 0), (458, .aload_n 0, 1, 0), (459, .iload 4, 2, 0), (461, .iconst 1, 1, 1), (462, .iadd, 1, 0), (463, .iaload, 1, 0), (464, .aload_n 0, 1, 0), (465, .iload 4, 2, 0), (467, .iconst 2, 1, 2), (468, .iadd, 1, 0), (469, .iaload, 1, 0), (470, .invokevirtual 38, 3, 0), (473, .if_icmp .eq 1561, 3, 0), (476, .iconst 0, 1, 0), (477, .ireturn, 1, 0), (478, .aload_n 1, 1, 0), (479, .aload_n 0, 1, 0), (480, .iload 4, 2, 0), (482, .iconst 1, 1, 1), (483, .iadd, 1, 0), (484, .iaload, 1, 0), (485, .aload_n 0, 1, 0), (486, .iload 4, 2, 0), (488, .iconst 2, 1, 2), (489, .iadd, 1, 0), (490, .iaload, 1, 0), (491, .invokevirtual 39, 3, 0), (494, .aload_n 2, 1, 0), (495, .aload_n 0, 1, 0), (496, .iload 4, 2, 0), (498, .iconst 1, 1, 1), (499, .iadd, 1, 0), (500, .iaload, 1, 0)]
def lc_3 : List mm_I := [(501, .aload_n 0, 1, 0), (502, .iload 4, 2, 0), (504, .iconst 2, 1, 2), (505, .iadd, 1, 0), (506, .iaload, 1, 0), (507, .invokevirtual 42, 3, 0), (510, .if_icmp .eq 1524, 3, 0), (513, .iconst 0, 1, 0), (514, .ireturn, 1, 0), (515, .aload_n 1, 1, 0), (516, .aload_n 0, 1, 0), (517, .iload 4, 2, 0), (519, .iconst 1, 1, 1), (520, .iadd, 1, 0), (521, .iaload, 1, 0), (522, .aload_n 0, 1, 0), (523, .iload 4, 2, 0), (525, .iconst 2, 1, 2), (526, .iadd, 1, 0), (527, .iaload, 1, 0), (528, .aload_n 0, 1, 0), (529, .iload 4, 2, 0), (531, .iconst 3, 1, 3), (532, .iadd, 1, 0), (533, .iaload, 1, 0), (534, .invokevirtual 43, 3, 0), (537, .aload_n 2, 1, 0), (538, .aload_n 0, 1, 0), (539, .iload 4, 2, 0), (541, .iconst 1, 1, 1), (542, .iadd, 1, 0), (543, .iaload, 1, 0), (544, .aload_n 0, 1, 0), (545, .iload 4, 2, 0), (547, .iconst 2, 1, 2), (548, .iadd, 1, 0), (549, .iaload, 1, 0), (550, .aload_n 0, 1, 0), (551, .iload 4, 2, 0), (553, .iconst 3, 1, 3), (554, .iadd, 1, 0), (555, .iaload, 1, 0), (556, .invokevirtual 47, 3, 0), (559, .if_icmp .eq 1475, 3, 0), (562, .iconst 0, 1, 0), (563, .ireturn, 1, 0), (564, .aload_n 1, 1, 0), (565, .aload_n 0, 1, 0), (566, .iload 4, 2, 0), (568, .iconst 1, 1, 1), (569, .iadd, 1, 0), (570, .iaload, 1, 0), (571, .aload_n 0, 1, 0), (572, .iload 4, 2, 0), (574, .iconst 2, 1, 2), (575, .iadd, 1, 0), (576, .iaload, 1, 0), (577, .invokevirtual 48, 3, 0), (580, .aload_n 2, 1, 0), (581, .aload_n 0, 1, 0)]
def lc_4 : List mm_I := [(582, .iload 4, 2, 0), (584, .iconst 1, 1, 1), (585, .iadd, 1, 0), (586, .iaload, 1, 0), (587, .aload_n 0, 1, 0), (588, .iload 4, 2, 0), (590, .iconst 2, 1, 2), (591, .iadd, 1, 0), (592, .iaload, 1, 0), (593, .invokevirtual 51, 3, 0), (596, .if_icmp .eq 1438, 3, 0), (599, .iconst 0, 1, 0), (600, .ireturn, 1, 0), (601, .aload_n 1, 1, 0), (602, .aload_n 0, 1, 0), (603, .iload 4, 2, 0), (605, .iconst 1, 1, 1), (606, .iadd, 1, 0), (607, .iaload, 1, 0), (608, .aload_n 0, 1, 0), (609, .iload 4, 2, 0), (611, .iconst 2, 1, 2), (612, .iadd, 1, 0), (613, .iaload, 1, 0), (614, .aload_n 0, 1, 0), (615, .iload 4, 2, 0), (617, .iconst 3, 1, 3), (618, .iadd, 1, 0), (619, .iaload, 1, 0), (620, .invokevirtual 52, 3, 0), (623, .aload_n 2, 1, 0), (624, .aload_n 0, 1, 0), (625, .iload 4, 2, 0), (627, .iconst 1, 1, 1), (628, .iadd, 1, 0), (629, .iaload, 1, 0), (630, .aload_n 0, 1, 0), (631, .iload 4, 2, 0), (633, .iconst 2, 1, 2), (634, .iadd, 1, 0), (635, .iaload, 1, 0), (636, .aload_n 0, 1, 0), (637, .iload 4, 2, 0), (639, .iconst 3, 1, 3), (640, .iadd, 1, 0), (641, .iaload, 1, 0), (642, .invokevirtual 55, 3, 0), (645, .if_icmp .eq 1389, 3, 0), (648, .iconst 0, 1, 0), (649, .ireturn, 1, 0), (650, .aload_n 1, 1, 0), (651, .aload_n 0, 1, 0), (652, .iload 4, 2, 0), (654, .iconst 1, 1, 1), (655, .iadd, 1, 0), (656, .iaload, 1, 0), (657, .invokevirtual 56, 3, 0), (660, .aload_n 2, 1, 0), (661, .aload_n 0, 1, 0), (662, .iload 4, 2, 0)]
def lc_5 : List mm_I := [(664, .iconst 1, 1, 1), (665, .iadd, 1, 0), (666, .iaload, 1, 0), (667, .invokevirtual 60, 3, 0), (670, .if_icmp .eq 1364, 3, 0), (673, .iconst 0, 1, 0), (674, .ireturn, 1, 0), (675, .aload_n 1, 1, 0), (676, .aload_n 0, 1, 0), (677, .iload 4, 2, 0), (679, .iconst 1, 1, 1), (680, .iadd, 1, 0), (681, .iaload, 1, 0), (682, .aload_n 0, 1, 0), (683, .iload 4, 2, 0), (685, .iconst 2, 1, 2), (686, .iadd, 1, 0), (687, .iaload, 1, 0), (688, .aload_n 0, 1, 0), (689, .iload 4, 2, 0), (691, .iconst 3, 1, 3), (692, .iadd, 1, 0), (693, .iaload, 1, 0), (694, .invokevirtual 61, 3, 0), (697, .aload_n 2, 1, 0), (698, .aload_n 0, 1, 0), (699, .iload 4, 2, 0), (701, .iconst 1, 1, 1), (702, .iadd, 1, 0), (703, .iaload, 1, 0), (704, .aload_n 0, 1, 0), (705, .iload 4, 2, 0), (707, .iconst 2, 1, 2), (708, .iadd, 1, 0), (709, .iaload, 1, 0), (710, .aload_n 0, 1, 0), (711, .iload 4, 2, 0), (713, .iconst 3, 1, 3), (714, .iadd, 1, 0), (715, .iaload, 1, 0), (716, .invokevirtual 65, 3, 0), (719, .if_icmp .eq 1315, 3, 0), (722, .iconst 0, 1, 0), (723, .ireturn, 1, 0), (724, .aload_n 1, 1, 0), (725, .aload_n 0, 1, 0), (726, .iload 4, 2, 0), (728, .iconst 1, 1, 1), (729, .iadd, 1, 0), (730, .iaload, 1, 0), (731, .aload_n 0, 1, 0), (732, .iload 4, 2, 0), (734, .iconst 2, 1, 2), (735, .iadd, 1, 0), (736, .iaload, 1, 0), (737, .invokevirtual 66, 3, 0), (740, .aload_n 2, 1, 0), (741, .aload_n 0, 1, 0), (742, .iload 4, 2, 0), (744, .iconst 1, 1, 1)]
def lc_6 : List mm_I := [(745, .iadd, 1, 0), (746, .iaload, 1, 0), (747, .aload_n 0, 1, 0), (748, .iload 4, 2, 0), (750, .iconst 2, 1, 2), (751, .iadd, 1, 0), (752, .iaload, 1, 0), (753, .invokevirtual 69, 3, 0), (756, .if_icmp .eq 1278, 3, 0), (759, .iconst 0, 1, 0), (760, .ireturn, 1, 0), (761, .aload_n 1, 1, 0), (762, .aload_n 0, 1, 0), (763, .iload 4, 2, 0), (765, .iconst 1, 1, 1), (766, .iadd, 1, 0), (767, .iaload, 1, 0), (768, .invokevirtual 70, 3, 0), (771, .aload_n 2, 1, 0), (772, .aload_n 0, 1, 0), (773, .iload 4, 2, 0), (775, .iconst 1, 1, 1), (776, .iadd, 1, 0), (777, .iaload, 1, 0), (778, .invokevirtual 73, 3, 0), (781, .if_icmp .eq 1253, 3, 0), (784, .iconst 0, 1, 0), (785, .ireturn, 1, 0), (786, .aload_n 1, 1, 0), (787, .aload_n 0, 1, 0), (788, .iload 4, 2, 0), (790, .iconst 1, 1, 1), (791, .iadd, 1, 0), (792, .iaload, 1, 0), (793, .aload_n 0, 1, 0), (794, .iload 4, 2, 0), (796, .iconst 2, 1, 2), (797, .iadd, 1, 0), (798, .iaload, 1, 0), (799, .aload_n 0, 1, 0), (800, .iload 4, 2, 0), (802, .iconst 3, 1, 3), (803, .iadd, 1, 0), (804, .iaload, 1, 0), (805, .invokevirtual 74, 3, 0), (808, .aload_n 2, 1, 0), (809, .aload_n 0, 1, 0), (810, .iload 4, 2, 0), (812, .iconst 1, 1, 1), (813, .iadd, 1, 0), (814, .iaload, 1, 0), (815, .aload_n 0, 1, 0), (816, .iload 4, 2, 0), (818, .iconst 2, 1, 2), (819, .iadd, 1, 0), (820, .iaload, 1, 0), (821, .aload_n 0, 1, 0), (822, .iload 4, 2, 0), (824, .iconst 3, 1, 3), (825, .iadd, 1, 0)]
def lc_7 : List mm_I := [(826, .iaload, 1, 0), (827, .invokevirtual 77, 3, 0), (830, .if_icmp .eq 1204, 3, 0), (833, .iconst 0, 1, 0), (834, .ireturn, 1, 0), (835, .aload_n 1, 1, 0), (836, .invokevirtual 78, 3, 0), (839, .aload_n 2, 1, 0), (840, .invokevirtual 81, 3, 0), (843, .if_icmp .eq 1191, 3, 0), (846, .iconst 0, 1, 0), (847, .ireturn, 1, 0), (848, .aload_n 1, 1, 0), (849, .invokevirtual 82, 3, 0), (852, .aload_n 2, 1, 0), (853, .invokevirtual 86, 3, 0), (856, .if_icmp .eq 1178, 3, 0), (859, .iconst 0, 1, 0), (860, .ireturn, 1, 0), (861, .aload_n 1, 1, 0), (862, .invokevirtual 87, 3, 0), (865, .aload_n 2, 1, 0), (866, .invokevirtual 90, 3, 0), (869, .if_icmp .eq 1165, 3, 0), (872, .iconst 0, 1, 0), (873, .ireturn, 1, 0), (874, .aload_n 1, 1, 0), (875, .invokevirtual 91, 3, 0), (878, .aload_n 2, 1, 0), (879, .invokevirtual 94, 3, 0), (882, .if_icmp .eq 1152, 3, 0), (885, .iconst 0, 1, 0), (886, .ireturn, 1, 0), (887, .aload_n 1, 1, 0), (888, .aload_n 0, 1, 0), (889, .iload 4, 2, 0), (891, .iconst 1, 1, 1), (892, .iadd, 1, 0), (893, .iaload, 1, 0), (894, .invokevirtual 95, 3, 0), (897, .aload_n 2, 1, 0), (898, .aload_n 0, 1, 0), (899, .iload 4, 2, 0), (901, .iconst 1, 1, 1), (902, .iadd, 1, 0), (903, .iaload, 1, 0), (904, .invokevirtual 99, 3, 0), (907, .if_icmp .eq 1127, 3, 0), (910, .iconst 0, 1, 0), (911, .ireturn, 1, 0), (912, .aload_n 1, 1, 0), (913, .invokevirtual 100, 3, 0), (916, .aload_n 2, 1, 0), (917, .invokevirtual 103, 3, 0), (920, .if_icmp .eq 1114, 3, 0), (923, .iconst 0, 1, 0), (924, .ireturn, 1, 0), (925, .aload_n 1, 1, 0), (926, .aload_n 0, 1, 0), (927, .iload 4, 2, 0)]
def lc_8 : List mm_I := [(929, .iconst 1, 1, 1), (930, .iadd, 1, 0), (931, .iaload, 1, 0), (932, .invokevirtual 104, 3, 0), (935, .aload_n 2, 1, 0), (936, .aload_n 0, 1, 0), (937, .iload 4, 2, 0), (939, .iconst 1, 1, 1), (940, .iadd, 1, 0), (941, .iaload, 1, 0), (942, .invokevirtual 107, 3, 0), (945, .if_icmp .eq 1089, 3, 0), (948, .iconst 0, 1, 0), (949, .ireturn, 1, 0), (950, .aload_n 1, 1, 0), (951, .aload_n 0, 1, 0), (952, .iload 4, 2, 0), (954, .iconst 1, 1, 1), (955, .iadd, 1, 0), (956, .iaload, 1, 0), (957, .aload_n 0, 1, 0), (958, .iload 4, 2, 0), (960, .iconst 2, 1, 2), (961, .iadd, 1, 0), (962, .iaload, 1, 0), (963, .invokevirtual 108, 3, 0), (966, .aload_n 2, 1, 0), (967, .aload_n 0, 1, 0), (968, .iload 4, 2, 0), (970, .iconst 1, 1, 1), (971, .iadd, 1, 0), (972, .iaload, 1, 0), (973, .aload_n 0, 1, 0), (974, .iload 4, 2, 0), (976, .iconst 2, 1, 2), (977, .iadd, 1, 0), (978, .iaload, 1, 0), (979, .invokevirtual 111, 3, 0), (982, .if_icmp .eq 1052, 3, 0), (985, .iconst 0, 1, 0), (986, .ireturn, 1, 0), (987, .aload_n 1, 1, 0), (988, .aload_n 0, 1, 0), (989, .iload 4, 2, 0), (991, .iconst 1, 1, 1), (992, .iadd, 1, 0), (993, .iaload, 1, 0), (994, .aload_n 0, 1, 0), (995, .iload 4, 2, 0), (997, .iconst 2, 1, 2), (998, .iadd, 1, 0), (999, .iaload, 1, 0), (1000, .invokevirtual 112, 3, 0), (1003, .aload_n 2, 1, 0), (1004, .aload_n 0, 1, 0), (1005, .iload 4, 2, 0), (1007, .iconst 1, 1, 1), (1008, .iadd, 1, 0), (1009, .iaload, 1, 0), (1010, .aload_n 0, 1, 0)]
def lc_9 : List mm_I := [(1011, .iload 4, 2, 0), (1013, .iconst 2, 1, 2), (1014, .iadd, 1, 0), (1015, .iaload, 1, 0), (1016, .invokevirtual 116, 3, 0), (1019, .if_icmp .eq 1015, 3, 0), (1022, .iconst 0, 1, 0), (1023, .ireturn, 1, 0), (1024, .aload_n 1, 1, 0), (1025, .invokevirtual 117, 3, 0), (1028, .aload_n 2, 1, 0), (1029, .invokevirtual 120, 3, 0), (1032, .if_icmp .eq 1002, 3, 0), (1035, .iconst 0, 1, 0), (1036, .ireturn, 1, 0), (1037, .aload_n 1, 1, 0), (1038, .aload_n 0, 1, 0), (1039, .iload 4, 2, 0), (1041, .iconst 1, 1, 1), (1042, .iadd, 1, 0), (1043, .iaload, 1, 0), (1044, .aload_n 0, 1, 0), (1045, .iload 4, 2, 0), (1047, .iconst 2, 1, 2), (1048, .iadd, 1, 0), (1049, .iaload, 1, 0), (1050, .aload_n 3, 1, 0), (1054, .istore 5, 2, 0), (1056, .aload_n 2, 1, 0), (1057, .aload_n 0, 1, 0), (1058, .iload 4, 2, 0), (1060, .iconst 1, 1, 1), (1061, .iadd, 1, 0), (1062, .iaload, 1, 0), (1063, .aload_n 0, 1, 0), (1064, .iload 4, 2, 0), (1066, .iconst 2, 1, 2), (1067, .iadd, 1, 0), (1068, .iaload, 1, 0), (1069, .invokevirtual 126, 3, 0), (1072, .istore 6, 2, 0), (1074, .aload_n 2, 1, 0), (1075, .invokevirtual 127, 3, 0), (1078, .iload 5, 2, 0), (1080, .if_icmp .eq 5, 3, 0), (1083, .iconst 0, 1, 0), (1084, .ireturn, 1, 0), (1085, .iload 5, 2, 0), (1087, .ifCond .ne 15, 3, 0), (1090, .aload_n 3, 1, 0), (1091, .iconst 0, 1, 0), (1092, .laload, 1, 0), (1093, .iload 6, 2, 0), (1095, .i2l, 1, 0), (1096, .lcmp, 1, 0), (1097, .ifCond .eq 5, 3, 0), (1100, .iconst 0, 1, 0), (1101, .ireturn, 1, 0), (1102, .goto 932, 3, 0), (1105, .aload_n 1, 1, 0)]
def lc_10 : List mm_I := [(1106, .aload_n 0, 1, 0), (1107, .iload 4, 2, 0), (1109, .iconst 1, 1, 1), (1110, .iadd, 1, 0), (1111, .iaload, 1, 0), (1112, .aload_n 0, 1, 0), (1113, .iload 4, 2, 0), (1115, .iconst 2, 1, 2), (1116, .iadd, 1, 0), (1117, .iaload, 1, 0), (1118, .invokevirtual 130, 3, 0), (1121, .aload_n 2, 1, 0), (1122, .aload_n 0, 1, 0), (1123, .iload 4, 2, 0), (1125, .iconst 1, 1, 1), (1126, .iadd, 1, 0), (1127, .iaload, 1, 0), (1128, .aload_n 0, 1, 0), (1129, .iload 4, 2, 0), (1131, .iconst 2, 1, 2), (1132, .iadd, 1, 0), (1133, .iaload, 1, 0), (1134, .invokevirtual 133, 3, 0), (1137, .if_icmp .eq 897, 3, 0), (1140, .iconst 0, 1, 0), (1141, .ireturn, 1, 0), (1142, .aload_n 1, 1, 0), (1143, .aload_n 0, 1, 0), (1144, .iload 4, 2, 0), (1146, .iconst 1, 1, 1), (1147, .iadd, 1, 0), (1148, .iaload, 1, 0), (1149, .invokevirtual 134, 3, 0), (1152, .aload_n 2, 1, 0), (1153, .aload_n 0, 1, 0), (1154, .iload 4, 2, 0), (1156, .iconst 1, 1, 1), (1157, .iadd, 1, 0), (1158, .iaload, 1, 0), (1159, .invokevirtual 137, 3, 0), (1162, .if_icmp .eq 872, 3, 0), (1165, .iconst 0, 1, 0), (1166, .ireturn, 1, 0), (1167, .aload_n 1, 1, 0), (1168, .aload_n 0, 1, 0), (1169, .iload 4, 2, 0), (1171, .iconst 1, 1, 1), (1172, .iadd, 1, 0), (1173, .iaload, 1, 0), (1174, .invokevirtual 138, 3, 0), (1177, .aload_n 2, 1, 0), (1178, .aload_n 0, 1, 0), (1179, .iload 4, 2, 0), (1181, .iconst 1, 1, 1), (1182, .iadd, 1, 0), (1183, .iaload, 1, 0), (1184, .invokevirtual 141, 3, 0), (1187, .if_icmp .eq 847, 3, 0), (1190, .iconst 0, 1, 0), (1191, .ireturn, 1, 0)]
def lc_11 : List mm_I := [(1192, .aload_n 1, 1, 0), (1193, .aload_n 0, 1, 0), (1194, .iload 4, 2, 0), (1196, .iconst 1, 1, 1), (1197, .iadd, 1, 0), (1198, .iaload, 1, 0), (1199, .invokevirtual 142, 3, 0), (1202, .aload_n 2, 1, 0), (1203, .aload_n 0, 1, 0), (1204, .iload 4, 2, 0), (1206, .iconst 1, 1, 1), (1207, .iadd, 1, 0), (1208, .iaload, 1, 0), (1209, .invokevirtual 145, 3, 0), (1212, .if_icmp .eq 822, 3, 0), (1215, .iconst 0, 1, 0), (1216, .ireturn, 1, 0), (1217, .aload_n 1, 1, 0), (1218, .aload_n 0, 1, 0), (1219, .iload 4, 2, 0), (1221, .iconst 1, 1, 1), (1222, .iadd, 1, 0), (1223, .iaload, 1, 0), (1224, .aload_n 0, 1, 0), (1225, .iload 4, 2, 0), (1227, .iconst 2, 1, 2), (1228, .iadd, 1, 0), (1229, .iaload, 1, 0), (1230, .invokevirtual 146, 3, 0), (1233, .aload_n 2, 1, 0), (1234, .aload_n 0, 1, 0), (1235, .iload 4, 2, 0), (1237, .iconst 1, 1, 1), (1238, .iadd, 1, 0), (1239, .iaload, 1, 0), (1240, .aload_n 0, 1, 0), (1241, .iload 4, 2, 0), (1243, .iconst 2, 1, 2), (1244, .iadd, 1, 0), (1245, .iaload, 1, 0), (1246, .invokevirtual 149, 3, 0), (1249, .if_icmp .eq 785, 3, 0), (1252, .iconst 0, 1, 0), (1253, .ireturn, 1, 0), (1254, .aload_n 1, 1, 0), (1255, .aload_n 0, 1, 0), (1256, .iload 4, 2, 0), (1258, .iconst 1, 1, 1), (1259, .iadd, 1, 0), (1260, .iaload, 1, 0), (1261, .invokevirtual 150, 3, 0), (1264, .aload_n 2, 1, 0), (1265, .aload_n 0, 1, 0), (1266, .iload 4, 2, 0), (1268, .iconst 1, 1, 1), (1269, .iadd, 1, 0), (1270, .iaload, 1, 0), (1271, .invokevirtual 153, 3, 0), (1274, .if_icmp .eq 760, 3, 0), (1277, .iconst 0, 1, 0)]
def lc_12 : List mm_I := [(1278, .ireturn, 1, 0), (1279, .aload_n 1, 1, 0), (1280, .aload_n 0, 1, 0), (1281, .iload 4, 2, 0), (1283, .iconst 1, 1, 1), (1284, .iadd, 1, 0), (1285, .iaload, 1, 0), (1286, .invokevirtual 154, 3, 0), (1289, .aload_n 2, 1, 0), (1290, .aload_n 0, 1, 0), (1291, .iload 4, 2, 0), (1293, .iconst 1, 1, 1), (1294, .iadd, 1, 0), (1295, .iaload, 1, 0), (1296, .invokevirtual 157, 3, 0), (1299, .if_icmp .eq 735, 3, 0), (1302, .iconst 0, 1, 0), (1303, .ireturn, 1, 0), (1304, .aload_n 1, 1, 0), (1305, .aload_n 0, 1, 0), (1306, .iload 4, 2, 0), (1308, .iconst 1, 1, 1), (1309, .iadd, 1, 0), (1310, .iaload, 1, 0), (1311, .aload_n 0, 1, 0), (1312, .iload 4, 2, 0), (1314, .iconst 2, 1, 2), (1315, .iadd, 1, 0), (1316, .iaload, 1, 0), (1317, .invokevirtual 158, 3, 0), (1320, .aload_n 2, 1, 0), (1321, .aload_n 0, 1, 0), (1322, .iload 4, 2, 0), (1324, .iconst 1, 1, 1), (1325, .iadd, 1, 0), (1326, .iaload, 1, 0), (1327, .aload_n 0, 1, 0), (1328, .iload 4, 2, 0), (1330, .iconst 2, 1, 2), (1331, .iadd, 1, 0), (1332, .iaload, 1, 0), (1333, .invokevirtual 161, 3, 0), (1336, .if_icmp .eq 698, 3, 0), (1339, .iconst 0, 1, 0), (1340, .ireturn, 1, 0), (1341, .aload_n 1, 1, 0), (1342, .invokevirtual 162, 3, 0), (1345, .aload_n 2, 1, 0), (1346, .invokevirtual 165, 3, 0), (1349, .if_icmp .eq 685, 3, 0), (1352, .iconst 0, 1, 0), (1353, .ireturn, 1, 0), (1354, .aload_n 1, 1, 0), (1355, .aload_n 0, 1, 0), (1356, .iload 4, 2, 0), (1358, .iconst 1, 1, 1), (1359, .iadd, 1, 0), (1360, .iaload, 1, 0), (1361, .invokevirtual 166, 3, 0), (1364, .aload_n 2, 1, 0)]
def lc_13 : List mm_I := [(1365, .aload_n 0, 1, 0), (1366, .iload 4, 2, 0), (1368, .iconst 1, 1, 1), (1369, .iadd, 1, 0), (1370, .iaload, 1, 0), (1371, .invokevirtual 169, 3, 0), (1374, .if_icmp .eq 660, 3, 0), (1377, .iconst 0, 1, 0), (1378, .ireturn, 1, 0), (1379, .aload_n 1, 1, 0), (1380, .aload_n 0, 1, 0), (1381, .iload 4, 2, 0), (1383, .iconst 1, 1, 1), (1384, .iadd, 1, 0), (1385, .iaload, 1, 0), (1386, .aload_n 0, 1, 0), (1387, .iload 4, 2, 0), (1389, .iconst 2, 1, 2), (1390, .iadd, 1, 0), (1391, .iaload, 1, 0), (1392, .invokevirtual 170, 3, 0), (1395, .aload_n 2, 1, 0), (1396, .aload_n 0, 1, 0), (1397, .iload 4, 2, 0), (1399, .iconst 1, 1, 1), (1400, .iadd, 1, 0), (1401, .iaload, 1, 0), (1402, .aload_n 0, 1, 0), (1403, .iload 4, 2, 0), (1405, .iconst 2, 1, 2), (1406, .iadd, 1, 0), (1407, .iaload, 1, 0), (1408, .invokevirtual 173, 3, 0), (1411, .if_icmp .eq 623, 3, 0), (1414, .iconst 0, 1, 0), (1415, .ireturn, 1, 0), (1416, .aload_n 1, 1, 0), (1417, .aload_n 0, 1, 0), (1418, .iload 4, 2, 0), (1420, .iconst 1, 1, 1), (1421, .iadd, 1, 0), (1422, .iaload, 1, 0), (1423, .aload_n 0, 1, 0), (1424, .iload 4, 2, 0), (1426, .iconst 2, 1, 2), (1427, .iadd, 1, 0), (1428, .iaload, 1, 0), (1429, .invokevirtual 174, 3, 0), (1432, .aload_n 2, 1, 0), (1433, .aload_n 0, 1, 0), (1434, .iload 4, 2, 0), (1436, .iconst 1, 1, 1), (1437, .iadd, 1, 0), (1438, .iaload, 1, 0), (1439, .aload_n 0, 1, 0), (1440, .iload 4, 2, 0), (1442, .iconst 2, 1, 2), (1443, .iadd, 1, 0), (1444, .iaload, 1, 0), (1445, .invokevirtual 177, 3, 0)]
def lc_14 : List mm_I := [(1448, .if_icmp .eq 586, 3, 0), (1451, .iconst 0, 1, 0), (1452, .ireturn, 1, 0), (1453, .aload_n 1, 1, 0), (1454, .aload_n 0, 1, 0), (1455, .iload 4, 2, 0), (1457, .iconst 1, 1, 1), (1458, .iadd, 1, 0), (1459, .iaload, 1, 0), (1460, .aload_n 0, 1, 0), (1461, .iload 4, 2, 0), (1463, .iconst 2, 1, 2), (1464, .iadd, 1, 0), (1465, .iaload, 1, 0), (1466, .invokevirtual 178, 3, 0), (1469, .aload_n 2, 1, 0), (1470, .aload_n 0, 1, 0), (1471, .iload 4, 2, 0), (1473, .iconst 1, 1, 1), (1474, .iadd, 1, 0), (1475, .iaload, 1, 0), (1476, .aload_n 0, 1, 0), (1477, .iload 4, 2, 0), (1479, .iconst 2, 1, 2), (1480, .iadd, 1, 0), (1481, .iaload, 1, 0), (1482, .invokevirtual 181, 3, 0), (1485, .if_icmp .eq 549, 3, 0), (1488, .iconst 0, 1, 0), (1489, .ireturn, 1, 0), (1490, .aload_n 1, 1, 0), (1491, .aload_n 0, 1, 0), (1492, .iload 4, 2, 0), (1494, .iconst 1, 1, 1), (1495, .iadd, 1, 0), (1496, .iaload, 1, 0), (1497, .invokevirtual 182, 3, 0), (1500, .aload_n 2, 1, 0), (1501, .aload_n 0, 1, 0), (1502, .iload 4, 2, 0), (1504, .iconst 1, 1, 1), (1505, .iadd, 1, 0), (1506, .iaload, 1, 0), (1507, .invokevirtual 185, 3, 0), (1510, .if_icmp .eq 524, 3, 0), (1513, .iconst 0, 1, 0), (1514, .ireturn, 1, 0), (1515, .aload_n 1, 1, 0), (1516, .aload_n 0, 1, 0), (1517, .iload 4, 2, 0), (1519, .iconst 1, 1, 1), (1520, .iadd, 1, 0), (1521, .iaload, 1, 0), (1522, .aload_n 0, 1, 0), (1523, .iload 4, 2, 0), (1525, .iconst 2, 1, 2), (1526, .iadd, 1, 0), (1527, .iaload, 1, 0), (1528, .invokevirtual 186, 3, 0), (1531, .aload_n 2, 1, 0)]
def lc_15 : List mm_I := [(1532, .aload_n 0, 1, 0), (1533, .iload 4, 2, 0), (1535, .iconst 1, 1, 1), (1536, .iadd, 1, 0), (1537, .iaload, 1, 0), (1538, .aload_n 0, 1, 0), (1539, .iload 4, 2, 0), (1541, .iconst 2, 1, 2), (1542, .iadd, 1, 0), (1543, .iaload, 1, 0), (1544, .invokevirtual 189, 3, 0), (1547, .if_icmp .eq 487, 3, 0), (1550, .iconst 0, 1, 0), (1551, .ireturn, 1, 0), (1552, .aload_n 1, 1, 0), (1553, .invokevirtual 190, 3, 0), (1556, .aload_n 2, 1, 0), (1557, .invokevirtual 193, 3, 0), (1560, .if_icmp .eq 474, 3, 0), (1563, .iconst 0, 1, 0), (1564, .ireturn, 1, 0), (1565, .aload_n 1, 1, 0), (1566, .aload_n 0, 1, 0), (1567, .iload 4, 2, 0), (1569, .iconst 1, 1, 1), (1570, .iadd, 1, 0), (1571, .iaload, 1, 0), (1572, .aload_n 0, 1, 0), (1573, .iload 4, 2, 0), (1575, .iconst 2, 1, 2), (1576, .iadd, 1, 0), (1577, .iaload, 1, 0), (1578, .invokevirtual 194, 3, 0), (1581, .aload_n 2, 1, 0), (1582, .aload_n 0, 1, 0), (1583, .iload 4, 2, 0), (1585, .iconst 1, 1, 1), (1586, .iadd, 1, 0), (1587, .iaload, 1, 0), (1588, .aload_n 0, 1, 0), (1589, .iload 4, 2, 0), (1591, .iconst 2, 1, 2), (1592, .iadd, 1, 0), (1593, .iaload, 1, 0), (1594, .invokevirtual 197, 3, 0), (1597, .if_icmp .eq 437, 3, 0), (1600, .iconst 0, 1, 0), (1601, .ireturn, 1, 0), (1602, .aload_n 1, 1, 0), (1603, .aload_n 0, 1, 0), (1604, .iload 4, 2, 0), (1606, .iconst 1, 1, 1), (1607, .iadd, 1, 0), (1608, .iaload, 1, 0), (1609, .aload_n 0, 1, 0), (1610, .iload 4, 2, 0), (1612, .iconst 2, 1, 2), (1613, .iadd, 1, 0), (1614, .iaload, 1, 0), (1615, .aload_n 0, 1, 0)]
def lc_16 : List mm_I := [(1616, .iload 4, 2, 0), (1618, .iconst 3, 1, 3), (1619, .iadd, 1, 0), (1620, .iaload, 1, 0), (1621, .aload_n 0, 1, 0), (1622, .iload 4, 2, 0), (1624, .iconst 4, 1, 4), (1625, .iadd, 1, 0), (1626, .iaload, 1, 0), (1627, .aload_n 0, 1, 0), (1628, .iload 4, 2, 0), (1630, .iconst 5, 1, 5), (1631, .iadd, 1, 0), (1632, .iaload, 1, 0), (1633, .invokevirtual 198, 3, 0), (1636, .aload_n 2, 1, 0), (1637, .aload_n 0, 1, 0), (1638, .iload 4, 2, 0), (1640, .iconst 1, 1, 1), (1641, .iadd, 1, 0), (1642, .iaload, 1, 0), (1643, .aload_n 0, 1, 0), (1644, .iload 4, 2, 0), (1646, .iconst 2, 1, 2), (1647, .iadd, 1, 0), (1648, .iaload, 1, 0), (1649, .aload_n 0, 1, 0), (1650, .iload 4, 2, 0), (1652, .iconst 3, 1, 3), (1653, .iadd, 1, 0), (1654, .iaload, 1, 0), (1655, .aload_n 0, 1, 0), (1656, .iload 4, 2, 0), (1658, .iconst 4, 1, 4), (1659, .iadd, 1, 0), (1660, .iaload, 1, 0), (1661, .aload_n 0, 1, 0), (1662, .iload 4, 2, 0), (1664, .iconst 5, 1, 5), (1665, .iadd, 1, 0), (1666, .iaload, 1, 0), (1667, .invokevirtual 202, 3, 0), (1670, .if_icmp .eq 364, 3, 0), (1673, .iconst 0, 1, 0), (1674, .ireturn, 1, 0), (1675, .aload_n 1, 1, 0), (1676, .aload_n 0, 1, 0), (1677, .iload 4, 2, 0), (1679, .iconst 1, 1, 1), (1680, .iadd, 1, 0), (1681, .iaload, 1, 0), (1682, .aload_n 0, 1, 0), (1683, .iload 4, 2, 0), (1685, .iconst 2, 1, 2), (1686, .iadd, 1, 0), (1687, .iaload, 1, 0), (1688, .invokevirtual 203, 3, 0), (1691, .aload_n 2, 1, 0), (1692, .aload_n 0, 1, 0), (1693, .iload 4, 2, 0)]
def lc_17 : List mm_I := [(1695, .iconst 1, 1, 1), (1696, .iadd, 1, 0), (1697, .iaload, 1, 0), (1698, .aload_n 0, 1, 0), (1699, .iload 4, 2, 0), (1701, .iconst 2, 1, 2), (1702, .iadd, 1, 0), (1703, .iaload, 1, 0), (1704, .invokevirtual 206, 3, 0), (1707, .if_icmp .eq 327, 3, 0), (1710, .iconst 0, 1, 0), (1711, .ireturn, 1, 0), (1712, .aload_n 1, 1, 0), (1713, .aload_n 0, 1, 0), (1714, .iload 4, 2, 0), (1716, .iconst 1, 1, 1), (1717, .iadd, 1, 0), (1718, .iaload, 1, 0), (1719, .aload_n 0, 1, 0), (1720, .iload 4, 2, 0), (1722, .iconst 2, 1, 2), (1723, .iadd, 1, 0), (1724, .iaload, 1, 0), (1725, .invokevirtual 207, 3, 0), (1728, .aload_n 2, 1, 0), (1729, .aload_n 0, 1, 0), (1730, .iload 4, 2, 0), (1732, .iconst 1, 1, 1), (1733, .iadd, 1, 0), (1734, .iaload, 1, 0), (1735, .aload_n 0, 1, 0), (1736, .iload 4, 2, 0), (1738, .iconst 2, 1, 2), (1739, .iadd, 1, 0), (1740, .iaload, 1, 0), (1741, .invokevirtual 210, 3, 0), (1744, .if_icmp .eq 290, 3, 0), (1747, .iconst 0, 1, 0), (1748, .ireturn, 1, 0), (1749, .aload_n 1, 1, 0), (1750, .aload_n 0, 1, 0), (1751, .iload 4, 2, 0), (1753, .iconst 1, 1, 1), (1754, .iadd, 1, 0), (1755, .iaload, 1, 0), (1756, .aload_n 0, 1, 0), (1757, .iload 4, 2, 0), (1759, .iconst 2, 1, 2), (1760, .iadd, 1, 0), (1761, .iaload, 1, 0), (1762, .aload_n 0, 1, 0), (1763, .iload 4, 2, 0), (1765, .iconst 3, 1, 3), (1766, .iadd, 1, 0), (1767, .iaload, 1, 0), (1768, .invokevirtual 211, 3, 0), (1771, .aload_n 2, 1, 0), (1772, .aload_n 0, 1, 0), (1773, .iload 4, 2, 0), (1775, .iconst 1, 1, 1)]
def lc_18 : List mm_I := [(1776, .iadd, 1, 0), (1777, .iaload, 1, 0), (1778, .aload_n 0, 1, 0), (1779, .iload 4, 2, 0), (1781, .iconst 2, 1, 2), (1782, .iadd, 1, 0), (1783, .iaload, 1, 0), (1784, .aload_n 0, 1, 0), (1785, .iload 4, 2, 0), (1787, .iconst 3, 1, 3), (1788, .iadd, 1, 0), (1789, .iaload, 1, 0), (1790, .invokevirtual 214, 3, 0), (1793, .if_icmp .eq 241, 3, 0), (1796, .iconst 0, 1, 0), (1797, .ireturn, 1, 0), (1798, .aload_n 1, 1, 0), (1799, .aload_n 0, 1, 0), (1800, .iload 4, 2, 0), (1802, .iconst 1, 1, 1), (1803, .iadd, 1, 0), (1804, .iaload, 1, 0), (1805, .aload_n 0, 1, 0), (1806, .iload 4, 2, 0), (1808, .iconst 2, 1, 2), (1809, .iadd, 1, 0), (1810, .iaload, 1, 0), (1811, .invokevirtual 215, 3, 0), (1814, .aload_n 2, 1, 0), (1815, .aload_n 0, 1, 0), (1816, .iload 4, 2, 0), (1818, .iconst 1, 1, 1), (1819, .iadd, 1, 0), (1820, .iaload, 1, 0), (1821, .aload_n 0, 1, 0), (1822, .iload 4, 2, 0), (1824, .iconst 2, 1, 2), (1825, .iadd, 1, 0), (1826, .iaload, 1, 0), (1827, .invokevirtual 218, 3, 0), (1830, .if_icmp .eq 204, 3, 0), (1833, .iconst 0, 1, 0), (1834, .ireturn, 1, 0), (1835, .aload_n 1, 1, 0), (1836, .aload_n 0, 1, 0), (1837, .iload 4, 2, 0), (1839, .iconst 1, 1, 1), (1840, .iadd, 1, 0), (1841, .iaload, 1, 0), (1842, .invokevirtual 219, 3, 0), (1845, .aload_n 2, 1, 0), (1846, .aload_n 0, 1, 0), (1847, .iload 4, 2, 0), (1849, .iconst 1, 1, 1), (1850, .iadd, 1, 0), (1851, .iaload, 1, 0), (1852, .invokevirtual 222, 3, 0), (1855, .if_icmp .eq 179, 3, 0), (1858, .iconst 0, 1, 0), (1859, .ireturn, 1, 0)]
def lc_19 : List mm_I := [(1860, .aload_n 1, 1, 0), (1861, .invokevirtual 223, 3, 0), (1864, .aload_n 2, 1, 0), (1865, .invokevirtual 226, 3, 0), (1868, .if_icmp .eq 166, 3, 0), (1871, .iconst 0, 1, 0), (1872, .ireturn, 1, 0), (1873, .aload_n 1, 1, 0), (1874, .aload_n 0, 1, 0), (1875, .iload 4, 2, 0), (1877, .iconst 1, 1, 1), (1878, .iadd, 1, 0), (1879, .iaload, 1, 0), (1880, .aload_n 0, 1, 0), (1881, .iload 4, 2, 0), (1883, .iconst 2, 1, 2), (1884, .iadd, 1, 0), (1885, .iaload, 1, 0), (1886, .invokevirtual 227, 3, 0), (1889, .aload_n 2, 1, 0), (1890, .aload_n 0, 1, 0), (1891, .iload 4, 2, 0), (1893, .iconst 1, 1, 1), (1894, .iadd, 1, 0), (1895, .iaload, 1, 0), (1896, .aload_n 0, 1, 0), (1897, .iload 4, 2, 0), (1899, .iconst 2, 1, 2), (1900, .iadd, 1, 0), (1901, .iaload, 1, 0), (1902, .invokevirtual 230, 3, 0), (1905, .if_icmp .eq 129, 3, 0), (1908, .iconst 0, 1, 0), (1909, .ireturn, 1, 0), (1910, .aload_n 1, 1, 0), (1911, .aload_n 0, 1, 0), (1912, .iload 4, 2, 0), (1914, .iconst 1, 1, 1), (1915, .iadd, 1, 0), (1916, .iaload, 1, 0), (1917, .invokevirtual 231, 3, 0), (1920, .aload_n 2, 1, 0), (1921, .aload_n 0, 1, 0), (1922, .iload 4, 2, 0), (1924, .iconst 1, 1, 1), (1925, .iadd, 1, 0), (1926, .iaload, 1, 0), (1927, .invokevirtual 234, 3, 0), (1930, .if_icmp .eq 104, 3, 0), (1933, .iconst 0, 1, 0), (1934, .ireturn, 1, 0), (1935, .aload_n 1, 1, 0), (1936, .aload_n 0, 1, 0), (1937, .iload 4, 2, 0), (1939, .iconst 1, 1, 1), (1940, .iadd, 1, 0), (1941, .iaload, 1, 0), (1942, .invokevirtual 235, 3, 0), (1945, .aload_n 2, 1, 0), (1946, .aload_n 0, 1, 0)]
def lc_20 : List mm_I := [(1947, .iload 4, 2, 0), (1949, .iconst 1, 1, 1), (1950, .iadd, 1, 0), (1951, .iaload, 1, 0), (1952, .invokevirtual 238, 3, 0), (1955, .if_icmp .eq 79, 3, 0), (1958, .iconst 0, 1, 0), (1959, .ireturn, 1, 0), (1960, .aload_n 1, 1, 0), (1961, .aload_n 0, 1, 0), (1962, .iload 4, 2, 0), (1964, .iconst 1, 1, 1), (1965, .iadd, 1, 0), (1966, .iaload, 1, 0), (1967, .aload_n 0, 1, 0), (1968, .iload 4, 2, 0), (1970, .iconst 2, 1, 2), (1971, .iadd, 1, 0), (1972, .iaload, 1, 0), (1973, .aload_n 0, 1, 0), (1974, .iload 4, 2, 0), (1976, .iconst 3, 1, 3), (1977, .iadd, 1, 0), (1978, .iaload, 1, 0), (1979, .invokevirtual 239, 3, 0), (1982, .aload_n 2, 1, 0), (1983, .aload_n 0, 1, 0), (1984, .iload 4, 2, 0), (1986, .iconst 1, 1, 1), (1987, .iadd, 1, 0), (1988, .iaload, 1, 0), (1989, .aload_n 0, 1, 0), (1990, .iload 4, 2, 0), (1992, .iconst 2, 1, 2), (1993, .iadd, 1, 0), (1994, .iaload, 1, 0), (1995, .aload_n 0, 1, 0), (1996, .iload 4, 2, 0), (1998, .iconst 3, 1, 3), (1999, .iadd, 1, 0), (2000, .iaload, 1, 0), (2001, .invokevirtual 242, 3, 0), (2004, .if_icmp .eq 30, 3, 0), (2007, .iconst 0, 1, 0), (2008, .ireturn, 1, 0), (2009, .aload_n 1, 1, 0), (2010, .aload_n 0, 1, 0), (2011, .iload 4, 2, 0), (2013, .iconst 1, 1, 1), (2014, .iadd, 1, 0), (2015, .iaload, 1, 0), (2016, .invokevirtual 243, 3, 0), (2019, .aload_n 2, 1, 0), (2020, .aload_n 0, 1, 0), (2021, .iload 4, 2, 0), (2023, .iconst 1, 1, 1), (2024, .iadd, 1, 0), (2025, .iaload, 1, 0), (2026, .invokevirtual 246, 3, 0), (2029, .if_icmp .eq 5, 3, 0)]
def lc_21 : List mm_I := [(2032, .iconst 0, 1, 0), (2033, .ireturn, 1, 0), (2034, .iinc 4 7, 3, 7), (2037, .goto (-2014), 3, 0), (2040, .iconst 1, 1, 1), (2041, .ireturn, 1, 0)]
def p_law : mm_P := (lc_0 ++ (lc_1 ++ (lc_2 ++ (lc_3 ++ (lc_4 ++ (lc_5 ++ (lc_6 ++ (lc_7 ++ (lc_8 ++ (lc_9 ++ (lc_10 ++ (lc_11 ++ (lc_12 ++ (lc_13 ++ (lc_14 ++ (lc_15 ++ (lc_16 ++ (lc_17 ++ (lc_18 ++ (lc_19 ++ (lc_20 ++ (lc_21))))))))))))))))))))), [], [(21, 0, 3, 1, f_Ls_feed), (25, 0, 3, 1, f_Md_feed), (26, 0, 0, 1, f_Ls_table), (30, 0, 0, 1, f_Md_table), (31, 0, 0, 1, f_Ls_work), (34, 0, 0, 1, f_Md_work), (35, 0, 2, 1, f_Ls_row), (38, 0, 2, 1, f_Md_row), (39, 0, 2, 1, f_Ls_index), (42, 0, 2, 1, f_Md_index), (43, 0, 3, 1, f_Ls_leaf), (47, 0, 3, 1, f_Md_leaf), (48, 0, 2, 1, f_Ls_pointer), (51, 0, 2, 1, f_Md_pointer), (52, 0, 3, 1, f_Ls_insert), (55, 0, 3, 1, f_Md_insert), (56, 0, 1, 1, f_Ls_remove), (60, 0, 1, 1, f_Md_remove), (61, 0, 3, 1, f_Ls_change), (65, 0, 3, 1, f_Md_change), (66, 0, 2, 1, f_Ls_point), (69, 0, 2, 1, f_Md_point), (70, 0, 1, 1, f_Ls_drop), (73, 0, 1, 1, f_Md_drop), (74, 0, 3, 1, f_Ls_begin), (77, 0, 3, 1, f_Md_begin), (78, 0, 0, 1, f_Ls_step), (81, 0, 0, 1, f_Md_step), (82, 0, 0, 1, f_Ls_stop), (86, 0, 0, 1, f_Md_stop), (87, 0, 0, 1, f_Ls_crash), (90, 0, 0, 1, f_Md_crash), (91, 0, 0, 1, f_Ls_resume), (94, 0, 0, 1, f_Md_resume), (95, 0, 1, 1, f_Ls_pack), (99, 0, 1, 1, f_Md_pack), (100, 0, 0, 1, f_Ls_undo), (103, 0, 0, 1, f_Md_undo), (104, 0, 1, 1, f_Ls_judged), (107, 0, 1, 1, f_Md_judged), (108, 0, 2, 1, f_Ls_found), (111, 0, 2, 1, f_Md_found), (112, 0, 2, 1, f_Ls_open), (116, 0, 2, 1, f_Md_open), (117, 0, 0, 1, f_Ls_fetch), (120, 0, 0, 1, f_Md_fetch), (126, 0, 2, 1, f_Md_rank_), (127, 0, 0, 1, f_Md_thrown), (130, 0, 2, 1, f_Ls_skips), (133, 0, 2, 1, f_Md_skips), (134, 0, 1, 1, f_Ls_stale), (137, 0, 1, 1, f_Md_stale), (138, 0, 1, 1, f_Ls_missing), (141, 0, 1, 1, f_Md_missing), (142, 0, 1, 1, f_Ls_side), (145, 0, 1, 1, f_Md_side), (146, 0, 2, 1, f_Ls_splits), (149, 0, 2, 1, f_Md_splits), (150, 0, 1, 1, f_Ls_fill), (153, 0, 1, 1, f_Md_fill), (154, 0, 1, 1, f_Ls_sparse), (157, 0, 1, 1, f_Md_sparse), (158, 0, 2, 1, f_Ls_costs), (161, 0, 2, 1, f_Md_costs), (162, 0, 0, 1, f_Ls_ways), (165, 0, 0, 1, f_Md_ways), (166, 0, 1, 1, f_Ls_turn), (169, 0, 1, 1, f_Md_turn), (170, 0, 2, 1, f_Ls_lefts), (173, 0, 2, 1, f_Md_lefts), (174, 0, 2, 1, f_Ls_when), (177, 0, 2, 1, f_Md_when), (178, 0, 2, 1, f_Ls_next), (181, 0, 2, 1, f_Md_next), (182, 0, 1, 1, f_Ls_job), (185, 0, 1, 1, f_Md_job), (186, 0, 2, 1, f_Ls_record), (189, 0, 2, 1, f_Md_record), (190, 0, 0, 1, f_Ls_steps), (193, 0, 0, 1, f_Md_steps), (194, 0, 2, 1, f_Ls_after), (197, 0, 2, 1, f_Md_after), (198, 0, 5, 1, f_Ls_during), (202, 0, 5, 1, f_Md_during), (203, 0, 2, 1, f_Ls_crashes), (206, 0, 2, 1, f_Md_crashes), (207, 0, 2, 1, f_Ls_runs), (210, 0, 2, 1, f_Md_runs), (211, 0, 3, 1, f_Ls_run), (214, 0, 3, 1, f_Md_run), (215, 0, 2, 1, f_Ls_merged), (218, 0, 2, 1, f_Md_merged), (219, 0, 1, 1, f_Ls_check), (222, 0, 1, 1, f_Md_check), (223, 0, 0, 1, f_Ls_hinders), (226, 0, 0, 1, f_Md_hinders_), (227, 0, 2, 1, f_Ls_fits), (230, 0, 2, 1, f_Md_fits), (231, 0, 1, 1, f_Ls_needs), (234, 0, 1, 1, f_Md_needs), (235, 0, 1, 1, f_Ls_free), (238, 0, 1, 1, f_Md_free), (239, 0, 3, 1, f_Ls_would), (242, 0, 3, 1, f_Md_would), (243, 0, 1, 1, f_Ls_count), (246, 0, 1, 1, f_Md_count)], [], [(19, 4294967295)], [(23, [0, 1, 2, 3, 4]), (268, [0, 1, 2, 3, 4]), (415, [0, 1, 2, 3, 4]), (428, [0, 1, 2, 3, 4]), (441, [0, 1, 2, 3, 4]), (478, [0, 1, 2, 3, 4]), (515, [0, 1, 2, 3, 4]), (564, [0, 1, 2, 3, 4]), (601, [0, 1, 2, 3, 4]), (650, [0, 1, 2, 3, 4]), (675, [0, 1, 2, 3, 4]), (724, [0, 1, 2, 3, 4]), (761, [0, 1, 2, 3, 4]), (786, [0, 1, 2, 3, 4]), (835, [0, 1, 2, 3, 4]), (848, [0, 1, 2, 3, 4]), (861, [0, 1, 2, 3, 4]), (874, [0, 1, 2, 3, 4]), (887, [0, 1, 2, 3, 4]), (912, [0, 1, 2, 3, 4]), (925, [0, 1, 2, 3, 4]), (950, [0, 1, 2, 3, 4]), (987, [0, 1, 2, 3, 4]), (1024, [0, 1, 2, 3, 4]), (1037, [0, 1, 2, 3, 4]), (1051, [0, 1, 2, 3, 4]), (1054, [0, 1, 2, 3, 4]), (1105, [0, 1, 2, 3, 4]), (1142, [0, 1, 2, 3, 4]), (1167, [0, 1, 2, 3, 4]), (1192, [0, 1, 2, 3, 4]), (1217, [0, 1, 2, 3, 4]), (1254, [0, 1, 2, 3, 4]), (1279, [0, 1, 2, 3, 4]), (1304, [0, 1, 2, 3, 4]), (1341, [0, 1, 2, 3, 4]), (1354, [0, 1, 2, 3, 4]), (1379, [0, 1, 2, 3, 4]), (1416, [0, 1, 2, 3, 4]), (1453, [0, 1, 2, 3, 4]), (1490, [0, 1, 2, 3, 4]), (1515, [0, 1, 2, 3, 4]), (1552, [0, 1, 2, 3, 4]), (1565, [0, 1, 2, 3, 4]), (1602, [0, 1, 2, 3, 4]), (1675, [0, 1, 2, 3, 4]), (1712, [0, 1, 2, 3, 4]), (1749, [0, 1, 2, 3, 4]), (1798, [0, 1, 2, 3, 4]), (1835, [0, 1, 2, 3, 4]), (1860, [0, 1, 2, 3, 4]), (1873, [0, 1, 2, 3, 4]), (1910, [0, 1, 2, 3, 4]), (1935, [0, 1, 2, 3, 4]), (1960, [0, 1, 2, 3, 4]), (2009, [0, 1, 2, 3, 4]), (2034, [0, 1, 2, 3, 4])], [(40, [(0, 268), (1, 415), (2, 428), (3, 441), (4, 478), (5, 515), (6, 564), (7, 601), (8, 650), (9, 675), (10, 724), (11, 761), (12, 786), (13, 835), (14, 848), (15, 861), (16, 874), (17, 887), (18, 912), (19, 925), (20, 950), (21, 987), (22, 1024), (23, 1037), (24, 1105), (25, 1142), (26, 1167), (27, 1192), (28, 1217), (29, 1254), (30, 1279), (31, 1304), (32, 1341), (33, 1354), (34, 1379), (35, 1416), (36, 1453), (37, 1490), (38, 1515), (39, 1552), (40, 1565), (41, 1602), (42, 1675), (43, 1712), (44, 1749), (45, 1798), (46, 1835), (47, 1860), (48, 1873), (49, 1910), (50, 1935), (51, 1960), (52, 2009)], 2034)], 1)
set_option maxRecDepth 100000 in
theorem o_law_23 {ρ : Type} (kr : Option Value → mm_H → Option ρ) (kc : Nat → List Value → List Value → mm_H → Option ρ) (v0 : Nat) (v1 : Nat) (v2 : Nat) (v3 : Nat) (v4 : Int32) (h : mm_H) : mm_one p_law kr kc 23 [.ref v0, .ref v1, .ref v2, .ref v3, .int v4] [] h =
  (mm_ln h v0).bind fun x1 =>
  if (x1 - 7) < v4 then
    kr (some (.int 1)) h
  else
    (mm_li h v0 v4).bind fun x2 =>
    if (x2 &&& 63) = 0 then
      kc 268 [.ref v0, .ref v1, .ref v2, .ref v3, .int v4] [] h
    else if (x2 &&& 63) = 1 then
      kc 415 [.ref v0, .ref v1, .ref v2, .ref v3, .int v4] [] h
    else if (x2 &&& 63) = 2 then
      kc 428 [.ref v0, .ref v1, .ref v2, .ref v3, .int v4] [] h
    else if (x2 &&& 63) = 3 then
      kc 441 [.ref v0, .ref v1, .ref v2, .ref v3, .int v4] [] h
    else if (x2 &&& 63) = 4 then
      kc 478 [.ref v0, .ref v1, .ref v2, .ref v3, .int v4] [] h
    else if (x2 &&& 63) = 5 then
      kc 515 [.ref v0, .ref v1, .ref v2, .ref v3, .int v4] [] h
    else if (x2 &&& 63) = 6 then
      kc 564 [.ref v0, .ref v1, .ref v2, .ref v3, .int v4] [] h
    else if (x2 &&& 63) = 7 then
      kc 601 [.ref v0, .ref v1, .ref v2, .ref v3, .int v4] [] h
    else if (x2 &&& 63) = 8 then
      kc 650 [.ref v0, .ref v1, .ref v2, .ref v3, .int v4] [] h
    else if (x2 &&& 63) = 9 then
      kc 675 [.ref v0, .ref v1, .ref v2, .ref v3, .int v4] [] h
    else if (x2 &&& 63) = 10 then
      kc 724 [.ref v0, .ref v1, .ref v2, .ref v3, .int v4] [] h
    else if (x2 &&& 63) = 11 then
      kc 761 [.ref v0, .ref v1, .ref v2, .ref v3, .int v4] [] h
    else if (x2 &&& 63) = 12 then
      kc 786 [.ref v0, .ref v1, .ref v2, .ref v3, .int v4] [] h
    else if (x2 &&& 63) = 13 then
      kc 835 [.ref v0, .ref v1, .ref v2, .ref v3, .int v4] [] h
    else if (x2 &&& 63) = 14 then
      kc 848 [.ref v0, .ref v1, .ref v2, .ref v3, .int v4] [] h
    else if (x2 &&& 63) = 15 then
      kc 861 [.ref v0, .ref v1, .ref v2, .ref v3, .int v4] [] h
    else if (x2 &&& 63) = 16 then
      kc 874 [.ref v0, .ref v1, .ref v2, .ref v3, .int v4] [] h
    else if (x2 &&& 63) = 17 then
      kc 887 [.ref v0, .ref v1, .ref v2, .ref v3, .int v4] [] h
    else if (x2 &&& 63) = 18 then
      kc 912 [.ref v0, .ref v1, .ref v2, .ref v3, .int v4] [] h
    else if (x2 &&& 63) = 19 then
      kc 925 [.ref v0, .ref v1, .ref v2, .ref v3, .int v4] [] h
    else if (x2 &&& 63) = 20 then
      kc 950 [.ref v0, .ref v1, .ref v2, .ref v3, .int v4] [] h
    else if (x2 &&& 63) = 21 then
      kc 987 [.ref v0, .ref v1, .ref v2, .ref v3, .int v4] [] h
    else if (x2 &&& 63) = 22 then
      kc 1024 [.ref v0, .ref v1, .ref v2, .ref v3, .int v4] [] h
    else if (x2 &&& 63) = 23 then
      kc 1037 [.ref v0, .ref v1, .ref v2, .ref v3, .int v4] [] h
    else if (x2 &&& 63) = 24 then
      kc 1105 [.ref v0, .ref v1, .ref v2, .ref v3, .int v4] [] h
    else if (x2 &&& 63) = 25 then
      kc 1142 [.ref v0, .ref v1, .ref v2, .ref v3, .int v4] [] h
    else if (x2 &&& 63) = 26 then
      kc 1167 [.ref v0, .ref v1, .ref v2, .ref v3, .int v4] [] h
    else if (x2 &&& 63) = 27 then
      kc 1192 [.ref v0, .ref v1, .ref v2, .ref v3, .int v4] [] h
    else if (x2 &&& 63) = 28 then
      kc 1217 [.ref v0, .ref v1, .ref v2, .ref v3, .int v4] [] h
    else if (x2 &&& 63) = 29 then
      kc 1254 [.ref v0, .ref v1, .ref v2, .ref v3, .int v4] [] h
    else if (x2 &&& 63) = 30 then
      kc 1279 [.ref v0, .ref v1, .ref v2, .ref v3, .int v4] [] h
    else if (x2 &&& 63) = 31 then
      kc 1304 [.ref v0, .ref v1, .ref v2, .ref v3, .int v4] [] h
    else if (x2 &&& 63) = 32 then
      kc 1341 [.ref v0, .ref v1, .ref v2, .ref v3, .int v4] [] h
    else if (x2 &&& 63) = 33 then
      kc 1354 [.ref v0, .ref v1, .ref v2, .ref v3, .int v4] [] h
    else if (x2 &&& 63) = 34 then
      kc 1379 [.ref v0, .ref v1, .ref v2, .ref v3, .int v4] [] h
    else if (x2 &&& 63) = 35 then
      kc 1416 [.ref v0, .ref v1, .ref v2, .ref v3, .int v4] [] h
    else if (x2 &&& 63) = 36 then
      kc 1453 [.ref v0, .ref v1, .ref v2, .ref v3, .int v4] [] h
    else if (x2 &&& 63) = 37 then
      kc 1490 [.ref v0, .ref v1, .ref v2, .ref v3, .int v4] [] h
    else if (x2 &&& 63) = 38 then
      kc 1515 [.ref v0, .ref v1, .ref v2, .ref v3, .int v4] [] h
    else if (x2 &&& 63) = 39 then
      kc 1552 [.ref v0, .ref v1, .ref v2, .ref v3, .int v4] [] h
    else if (x2 &&& 63) = 40 then
      kc 1565 [.ref v0, .ref v1, .ref v2, .ref v3, .int v4] [] h
    else if (x2 &&& 63) = 41 then
      kc 1602 [.ref v0, .ref v1, .ref v2, .ref v3, .int v4] [] h
    else if (x2 &&& 63) = 42 then
      kc 1675 [.ref v0, .ref v1, .ref v2, .ref v3, .int v4] [] h
    else if (x2 &&& 63) = 43 then
      kc 1712 [.ref v0, .ref v1, .ref v2, .ref v3, .int v4] [] h
    else if (x2 &&& 63) = 44 then
      kc 1749 [.ref v0, .ref v1, .ref v2, .ref v3, .int v4] [] h
    else if (x2 &&& 63) = 45 then
      kc 1798 [.ref v0, .ref v1, .ref v2, .ref v3, .int v4] [] h
    else if (x2 &&& 63) = 46 then
      kc 1835 [.ref v0, .ref v1, .ref v2, .ref v3, .int v4] [] h
    else if (x2 &&& 63) = 47 then
      kc 1860 [.ref v0, .ref v1, .ref v2, .ref v3, .int v4] [] h
    else if (x2 &&& 63) = 48 then
      kc 1873 [.ref v0, .ref v1, .ref v2, .ref v3, .int v4] [] h
    else if (x2 &&& 63) = 49 then
      kc 1910 [.ref v0, .ref v1, .ref v2, .ref v3, .int v4] [] h
    else if (x2 &&& 63) = 50 then
      kc 1935 [.ref v0, .ref v1, .ref v2, .ref v3, .int v4] [] h
    else if (x2 &&& 63) = 51 then
      kc 1960 [.ref v0, .ref v1, .ref v2, .ref v3, .int v4] [] h
    else if (x2 &&& 63) = 52 then
      kc 2009 [.ref v0, .ref v1, .ref v2, .ref v3, .int v4] [] h
    else 
      kc 2034 [.ref v0, .ref v1, .ref v2, .ref v3, .int v4] [] h := rfl
set_option maxRecDepth 100000 in
theorem o_law_1054 {ρ : Type} (kr : Option Value → mm_H → Option ρ) (kc : Nat → List Value → List Value → mm_H → Option ρ) (v0 : Nat) (v1 : Nat) (v2 : Nat) (v3 : Nat) (v4 : Int32) (s0 : Int32) (h : mm_H) : mm_one p_law kr kc 1054 [.ref v0, .ref v1, .ref v2, .ref v3, .int v4] [.int s0] h =
  (mm_li h v0 (v4 + 1)).bind fun x1 =>
  (mm_li h v0 (v4 + 2)).bind fun x2 =>
  mm_ci (f_Md_rank_ [.ref v2, .int x1, .int x2] h) fun x4 h3 =>
  mm_ci (f_Md_thrown [.ref v2] h3) fun x6 h5 =>
  if x6 = s0 then
    if s0 = 0 then
      (mm_ll h5 v3 0).bind fun l7 =>
      if (lg_cmp l7 x4.toInt64) = 0 then
        kc 2034 [.ref v0, .ref v1, .ref v2, .ref v3, .int v4] [] h5
      else
        kr (some (.int 0)) h5
    else
      kc 2034 [.ref v0, .ref v1, .ref v2, .ref v3, .int v4] [] h5
  else
    kr (some (.int 0)) h5 := rfl
set_option maxRecDepth 100000 in
theorem o_law_268 {ρ : Type} (kr : Option Value → mm_H → Option ρ) (kc : Nat → List Value → List Value → mm_H → Option ρ) (v0 : Nat) (v1 : Nat) (v2 : Nat) (v3 : Nat) (v4 : Int32) (h : mm_H) : mm_one p_law kr kc 268 [.ref v0, .ref v1, .ref v2, .ref v3, .int v4] [] h =
  (mm_li h v0 (v4 + 1)).bind fun x1 =>
  (mm_li h v0 (v4 + 2)).bind fun x2 =>
  (mm_li h v0 (v4 + 3)).bind fun x3 =>
  (mm_li h v0 (v4 + 4)).bind fun x4 =>
  (mm_li h v0 (v4 + 5)).bind fun x5 =>
  (mm_li h v0 (v4 + 6)).bind fun x6 =>
  mm_ci (f_Ls_feed [.ref v1, .long ((x1.toInt64 <<< ((32 : Int32).toInt64 &&& 63)) ||| (x2.toInt64 &&& (4294967295 : Int64))), .long ((x3.toInt64 <<< ((32 : Int32).toInt64 &&& 63)) ||| (x4.toInt64 &&& (4294967295 : Int64))), .long ((x5.toInt64 <<< ((32 : Int32).toInt64 &&& 63)) ||| (x6.toInt64 &&& (4294967295 : Int64)))] h) fun x8 h7 =>
  (mm_li h7 v0 (v4 + 1)).bind fun x9 =>
  (mm_li h7 v0 (v4 + 2)).bind fun x10 =>
  (mm_li h7 v0 (v4 + 3)).bind fun x11 =>
  (mm_li h7 v0 (v4 + 4)).bind fun x12 =>
  (mm_li h7 v0 (v4 + 5)).bind fun x13 =>
  (mm_li h7 v0 (v4 + 6)).bind fun x14 =>
  mm_ci (f_Md_feed [.ref v2, .long ((x9.toInt64 <<< ((32 : Int32).toInt64 &&& 63)) ||| (x10.toInt64 &&& (4294967295 : Int64))), .long ((x11.toInt64 <<< ((32 : Int32).toInt64 &&& 63)) ||| (x12.toInt64 &&& (4294967295 : Int64))), .long ((x13.toInt64 <<< ((32 : Int32).toInt64 &&& 63)) ||| (x14.toInt64 &&& (4294967295 : Int64)))] h7) fun x16 h15 =>
  if x8 = x16 then
    kc 2034 [.ref v0, .ref v1, .ref v2, .ref v3, .int v4] [] h15
  else
    kr (some (.int 0)) h15 := rfl
set_option maxRecDepth 100000 in
theorem o_law_415 {ρ : Type} (kr : Option Value → mm_H → Option ρ) (kc : Nat → List Value → List Value → mm_H → Option ρ) (v0 : Nat) (v1 : Nat) (v2 : Nat) (v3 : Nat) (v4 : Int32) (h : mm_H) : mm_one p_law kr kc 415 [.ref v0, .ref v1, .ref v2, .ref v3, .int v4] [] h =
  mm_ci (f_Ls_table [.ref v1] h) fun x2 h1 =>
  mm_ci (f_Md_table [.ref v2] h1) fun x4 h3 =>
  if x2 = x4 then
    kc 2034 [.ref v0, .ref v1, .ref v2, .ref v3, .int v4] [] h3
  else
    kr (some (.int 0)) h3 := rfl
set_option maxRecDepth 100000 in
theorem o_law_428 {ρ : Type} (kr : Option Value → mm_H → Option ρ) (kc : Nat → List Value → List Value → mm_H → Option ρ) (v0 : Nat) (v1 : Nat) (v2 : Nat) (v3 : Nat) (v4 : Int32) (h : mm_H) : mm_one p_law kr kc 428 [.ref v0, .ref v1, .ref v2, .ref v3, .int v4] [] h =
  mm_ci (f_Ls_work [.ref v1] h) fun x2 h1 =>
  mm_ci (f_Md_work [.ref v2] h1) fun x4 h3 =>
  if x2 = x4 then
    kc 2034 [.ref v0, .ref v1, .ref v2, .ref v3, .int v4] [] h3
  else
    kr (some (.int 0)) h3 := rfl
set_option maxRecDepth 100000 in
theorem o_law_441 {ρ : Type} (kr : Option Value → mm_H → Option ρ) (kc : Nat → List Value → List Value → mm_H → Option ρ) (v0 : Nat) (v1 : Nat) (v2 : Nat) (v3 : Nat) (v4 : Int32) (h : mm_H) : mm_one p_law kr kc 441 [.ref v0, .ref v1, .ref v2, .ref v3, .int v4] [] h =
  (mm_li h v0 (v4 + 1)).bind fun x1 =>
  (mm_li h v0 (v4 + 2)).bind fun x2 =>
  mm_ci (f_Ls_row [.ref v1, .int x1, .int x2] h) fun x4 h3 =>
  (mm_li h3 v0 (v4 + 1)).bind fun x5 =>
  (mm_li h3 v0 (v4 + 2)).bind fun x6 =>
  mm_ci (f_Md_row [.ref v2, .int x5, .int x6] h3) fun x8 h7 =>
  if x4 = x8 then
    kc 2034 [.ref v0, .ref v1, .ref v2, .ref v3, .int v4] [] h7
  else
    kr (some (.int 0)) h7 := rfl
set_option maxRecDepth 100000 in
theorem o_law_478 {ρ : Type} (kr : Option Value → mm_H → Option ρ) (kc : Nat → List Value → List Value → mm_H → Option ρ) (v0 : Nat) (v1 : Nat) (v2 : Nat) (v3 : Nat) (v4 : Int32) (h : mm_H) : mm_one p_law kr kc 478 [.ref v0, .ref v1, .ref v2, .ref v3, .int v4] [] h =
  (mm_li h v0 (v4 + 1)).bind fun x1 =>
  (mm_li h v0 (v4 + 2)).bind fun x2 =>
  mm_ci (f_Ls_index [.ref v1, .int x1, .int x2] h) fun x4 h3 =>
  (mm_li h3 v0 (v4 + 1)).bind fun x5 =>
  (mm_li h3 v0 (v4 + 2)).bind fun x6 =>
  mm_ci (f_Md_index [.ref v2, .int x5, .int x6] h3) fun x8 h7 =>
  if x4 = x8 then
    kc 2034 [.ref v0, .ref v1, .ref v2, .ref v3, .int v4] [] h7
  else
    kr (some (.int 0)) h7 := rfl
set_option maxRecDepth 100000 in
theorem o_law_515 {ρ : Type} (kr : Option Value → mm_H → Option ρ) (kc : Nat → List Value → List Value → mm_H → Option ρ) (v0 : Nat) (v1 : Nat) (v2 : Nat) (v3 : Nat) (v4 : Int32) (h : mm_H) : mm_one p_law kr kc 515 [.ref v0, .ref v1, .ref v2, .ref v3, .int v4] [] h =
  (mm_li h v0 (v4 + 1)).bind fun x1 =>
  (mm_li h v0 (v4 + 2)).bind fun x2 =>
  (mm_li h v0 (v4 + 3)).bind fun x3 =>
  mm_ci (f_Ls_leaf [.ref v1, .int x1, .int x2, .int x3] h) fun x5 h4 =>
  (mm_li h4 v0 (v4 + 1)).bind fun x6 =>
  (mm_li h4 v0 (v4 + 2)).bind fun x7 =>
  (mm_li h4 v0 (v4 + 3)).bind fun x8 =>
  mm_ci (f_Md_leaf [.ref v2, .int x6, .int x7, .int x8] h4) fun x10 h9 =>
  if x5 = x10 then
    kc 2034 [.ref v0, .ref v1, .ref v2, .ref v3, .int v4] [] h9
  else
    kr (some (.int 0)) h9 := rfl
set_option maxRecDepth 100000 in
theorem o_law_564 {ρ : Type} (kr : Option Value → mm_H → Option ρ) (kc : Nat → List Value → List Value → mm_H → Option ρ) (v0 : Nat) (v1 : Nat) (v2 : Nat) (v3 : Nat) (v4 : Int32) (h : mm_H) : mm_one p_law kr kc 564 [.ref v0, .ref v1, .ref v2, .ref v3, .int v4] [] h =
  (mm_li h v0 (v4 + 1)).bind fun x1 =>
  (mm_li h v0 (v4 + 2)).bind fun x2 =>
  mm_ci (f_Ls_pointer [.ref v1, .int x1, .int x2] h) fun x4 h3 =>
  (mm_li h3 v0 (v4 + 1)).bind fun x5 =>
  (mm_li h3 v0 (v4 + 2)).bind fun x6 =>
  mm_ci (f_Md_pointer [.ref v2, .int x5, .int x6] h3) fun x8 h7 =>
  if x4 = x8 then
    kc 2034 [.ref v0, .ref v1, .ref v2, .ref v3, .int v4] [] h7
  else
    kr (some (.int 0)) h7 := rfl
set_option maxRecDepth 100000 in
theorem o_law_601 {ρ : Type} (kr : Option Value → mm_H → Option ρ) (kc : Nat → List Value → List Value → mm_H → Option ρ) (v0 : Nat) (v1 : Nat) (v2 : Nat) (v3 : Nat) (v4 : Int32) (h : mm_H) : mm_one p_law kr kc 601 [.ref v0, .ref v1, .ref v2, .ref v3, .int v4] [] h =
  (mm_li h v0 (v4 + 1)).bind fun x1 =>
  (mm_li h v0 (v4 + 2)).bind fun x2 =>
  (mm_li h v0 (v4 + 3)).bind fun x3 =>
  mm_ci (f_Ls_insert [.ref v1, .int x1, .int x2, .int x3] h) fun x5 h4 =>
  (mm_li h4 v0 (v4 + 1)).bind fun x6 =>
  (mm_li h4 v0 (v4 + 2)).bind fun x7 =>
  (mm_li h4 v0 (v4 + 3)).bind fun x8 =>
  mm_ci (f_Md_insert [.ref v2, .int x6, .int x7, .int x8] h4) fun x10 h9 =>
  if x5 = x10 then
    kc 2034 [.ref v0, .ref v1, .ref v2, .ref v3, .int v4] [] h9
  else
    kr (some (.int 0)) h9 := rfl
set_option maxRecDepth 100000 in
theorem o_law_650 {ρ : Type} (kr : Option Value → mm_H → Option ρ) (kc : Nat → List Value → List Value → mm_H → Option ρ) (v0 : Nat) (v1 : Nat) (v2 : Nat) (v3 : Nat) (v4 : Int32) (h : mm_H) : mm_one p_law kr kc 650 [.ref v0, .ref v1, .ref v2, .ref v3, .int v4] [] h =
  (mm_li h v0 (v4 + 1)).bind fun x1 =>
  mm_ci (f_Ls_remove [.ref v1, .int x1] h) fun x3 h2 =>
  (mm_li h2 v0 (v4 + 1)).bind fun x4 =>
  mm_ci (f_Md_remove [.ref v2, .int x4] h2) fun x6 h5 =>
  if x3 = x6 then
    kc 2034 [.ref v0, .ref v1, .ref v2, .ref v3, .int v4] [] h5
  else
    kr (some (.int 0)) h5 := rfl
set_option maxRecDepth 100000 in
theorem o_law_675 {ρ : Type} (kr : Option Value → mm_H → Option ρ) (kc : Nat → List Value → List Value → mm_H → Option ρ) (v0 : Nat) (v1 : Nat) (v2 : Nat) (v3 : Nat) (v4 : Int32) (h : mm_H) : mm_one p_law kr kc 675 [.ref v0, .ref v1, .ref v2, .ref v3, .int v4] [] h =
  (mm_li h v0 (v4 + 1)).bind fun x1 =>
  (mm_li h v0 (v4 + 2)).bind fun x2 =>
  (mm_li h v0 (v4 + 3)).bind fun x3 =>
  mm_ci (f_Ls_change [.ref v1, .int x1, .int x2, .int x3] h) fun x5 h4 =>
  (mm_li h4 v0 (v4 + 1)).bind fun x6 =>
  (mm_li h4 v0 (v4 + 2)).bind fun x7 =>
  (mm_li h4 v0 (v4 + 3)).bind fun x8 =>
  mm_ci (f_Md_change [.ref v2, .int x6, .int x7, .int x8] h4) fun x10 h9 =>
  if x5 = x10 then
    kc 2034 [.ref v0, .ref v1, .ref v2, .ref v3, .int v4] [] h9
  else
    kr (some (.int 0)) h9 := rfl
set_option maxRecDepth 100000 in
theorem o_law_724 {ρ : Type} (kr : Option Value → mm_H → Option ρ) (kc : Nat → List Value → List Value → mm_H → Option ρ) (v0 : Nat) (v1 : Nat) (v2 : Nat) (v3 : Nat) (v4 : Int32) (h : mm_H) : mm_one p_law kr kc 724 [.ref v0, .ref v1, .ref v2, .ref v3, .int v4] [] h =
  (mm_li h v0 (v4 + 1)).bind fun x1 =>
  (mm_li h v0 (v4 + 2)).bind fun x2 =>
  mm_ci (f_Ls_point [.ref v1, .int x1, .int x2] h) fun x4 h3 =>
  (mm_li h3 v0 (v4 + 1)).bind fun x5 =>
  (mm_li h3 v0 (v4 + 2)).bind fun x6 =>
  mm_ci (f_Md_point [.ref v2, .int x5, .int x6] h3) fun x8 h7 =>
  if x4 = x8 then
    kc 2034 [.ref v0, .ref v1, .ref v2, .ref v3, .int v4] [] h7
  else
    kr (some (.int 0)) h7 := rfl
set_option maxRecDepth 100000 in
theorem o_law_761 {ρ : Type} (kr : Option Value → mm_H → Option ρ) (kc : Nat → List Value → List Value → mm_H → Option ρ) (v0 : Nat) (v1 : Nat) (v2 : Nat) (v3 : Nat) (v4 : Int32) (h : mm_H) : mm_one p_law kr kc 761 [.ref v0, .ref v1, .ref v2, .ref v3, .int v4] [] h =
  (mm_li h v0 (v4 + 1)).bind fun x1 =>
  mm_ci (f_Ls_drop [.ref v1, .int x1] h) fun x3 h2 =>
  (mm_li h2 v0 (v4 + 1)).bind fun x4 =>
  mm_ci (f_Md_drop [.ref v2, .int x4] h2) fun x6 h5 =>
  if x3 = x6 then
    kc 2034 [.ref v0, .ref v1, .ref v2, .ref v3, .int v4] [] h5
  else
    kr (some (.int 0)) h5 := rfl
set_option maxRecDepth 100000 in
theorem o_law_786 {ρ : Type} (kr : Option Value → mm_H → Option ρ) (kc : Nat → List Value → List Value → mm_H → Option ρ) (v0 : Nat) (v1 : Nat) (v2 : Nat) (v3 : Nat) (v4 : Int32) (h : mm_H) : mm_one p_law kr kc 786 [.ref v0, .ref v1, .ref v2, .ref v3, .int v4] [] h =
  (mm_li h v0 (v4 + 1)).bind fun x1 =>
  (mm_li h v0 (v4 + 2)).bind fun x2 =>
  (mm_li h v0 (v4 + 3)).bind fun x3 =>
  mm_ci (f_Ls_begin [.ref v1, .int x1, .int x2, .int x3] h) fun x5 h4 =>
  (mm_li h4 v0 (v4 + 1)).bind fun x6 =>
  (mm_li h4 v0 (v4 + 2)).bind fun x7 =>
  (mm_li h4 v0 (v4 + 3)).bind fun x8 =>
  mm_ci (f_Md_begin [.ref v2, .int x6, .int x7, .int x8] h4) fun x10 h9 =>
  if x5 = x10 then
    kc 2034 [.ref v0, .ref v1, .ref v2, .ref v3, .int v4] [] h9
  else
    kr (some (.int 0)) h9 := rfl
set_option maxRecDepth 100000 in
theorem o_law_835 {ρ : Type} (kr : Option Value → mm_H → Option ρ) (kc : Nat → List Value → List Value → mm_H → Option ρ) (v0 : Nat) (v1 : Nat) (v2 : Nat) (v3 : Nat) (v4 : Int32) (h : mm_H) : mm_one p_law kr kc 835 [.ref v0, .ref v1, .ref v2, .ref v3, .int v4] [] h =
  mm_ci (f_Ls_step [.ref v1] h) fun x2 h1 =>
  mm_ci (f_Md_step [.ref v2] h1) fun x4 h3 =>
  if x2 = x4 then
    kc 2034 [.ref v0, .ref v1, .ref v2, .ref v3, .int v4] [] h3
  else
    kr (some (.int 0)) h3 := rfl
set_option maxRecDepth 100000 in
theorem o_law_848 {ρ : Type} (kr : Option Value → mm_H → Option ρ) (kc : Nat → List Value → List Value → mm_H → Option ρ) (v0 : Nat) (v1 : Nat) (v2 : Nat) (v3 : Nat) (v4 : Int32) (h : mm_H) : mm_one p_law kr kc 848 [.ref v0, .ref v1, .ref v2, .ref v3, .int v4] [] h =
  mm_ci (f_Ls_stop [.ref v1] h) fun x2 h1 =>
  mm_ci (f_Md_stop [.ref v2] h1) fun x4 h3 =>
  if x2 = x4 then
    kc 2034 [.ref v0, .ref v1, .ref v2, .ref v3, .int v4] [] h3
  else
    kr (some (.int 0)) h3 := rfl
set_option maxRecDepth 100000 in
theorem o_law_861 {ρ : Type} (kr : Option Value → mm_H → Option ρ) (kc : Nat → List Value → List Value → mm_H → Option ρ) (v0 : Nat) (v1 : Nat) (v2 : Nat) (v3 : Nat) (v4 : Int32) (h : mm_H) : mm_one p_law kr kc 861 [.ref v0, .ref v1, .ref v2, .ref v3, .int v4] [] h =
  mm_ci (f_Ls_crash [.ref v1] h) fun x2 h1 =>
  mm_ci (f_Md_crash [.ref v2] h1) fun x4 h3 =>
  if x2 = x4 then
    kc 2034 [.ref v0, .ref v1, .ref v2, .ref v3, .int v4] [] h3
  else
    kr (some (.int 0)) h3 := rfl
set_option maxRecDepth 100000 in
theorem o_law_874 {ρ : Type} (kr : Option Value → mm_H → Option ρ) (kc : Nat → List Value → List Value → mm_H → Option ρ) (v0 : Nat) (v1 : Nat) (v2 : Nat) (v3 : Nat) (v4 : Int32) (h : mm_H) : mm_one p_law kr kc 874 [.ref v0, .ref v1, .ref v2, .ref v3, .int v4] [] h =
  mm_ci (f_Ls_resume [.ref v1] h) fun x2 h1 =>
  mm_ci (f_Md_resume [.ref v2] h1) fun x4 h3 =>
  if x2 = x4 then
    kc 2034 [.ref v0, .ref v1, .ref v2, .ref v3, .int v4] [] h3
  else
    kr (some (.int 0)) h3 := rfl
set_option maxRecDepth 100000 in
theorem o_law_887 {ρ : Type} (kr : Option Value → mm_H → Option ρ) (kc : Nat → List Value → List Value → mm_H → Option ρ) (v0 : Nat) (v1 : Nat) (v2 : Nat) (v3 : Nat) (v4 : Int32) (h : mm_H) : mm_one p_law kr kc 887 [.ref v0, .ref v1, .ref v2, .ref v3, .int v4] [] h =
  (mm_li h v0 (v4 + 1)).bind fun x1 =>
  mm_ci (f_Ls_pack [.ref v1, .int x1] h) fun x3 h2 =>
  (mm_li h2 v0 (v4 + 1)).bind fun x4 =>
  mm_ci (f_Md_pack [.ref v2, .int x4] h2) fun x6 h5 =>
  if x3 = x6 then
    kc 2034 [.ref v0, .ref v1, .ref v2, .ref v3, .int v4] [] h5
  else
    kr (some (.int 0)) h5 := rfl
set_option maxRecDepth 100000 in
theorem o_law_912 {ρ : Type} (kr : Option Value → mm_H → Option ρ) (kc : Nat → List Value → List Value → mm_H → Option ρ) (v0 : Nat) (v1 : Nat) (v2 : Nat) (v3 : Nat) (v4 : Int32) (h : mm_H) : mm_one p_law kr kc 912 [.ref v0, .ref v1, .ref v2, .ref v3, .int v4] [] h =
  mm_ci (f_Ls_undo [.ref v1] h) fun x2 h1 =>
  mm_ci (f_Md_undo [.ref v2] h1) fun x4 h3 =>
  if x2 = x4 then
    kc 2034 [.ref v0, .ref v1, .ref v2, .ref v3, .int v4] [] h3
  else
    kr (some (.int 0)) h3 := rfl
set_option maxRecDepth 100000 in
theorem o_law_925 {ρ : Type} (kr : Option Value → mm_H → Option ρ) (kc : Nat → List Value → List Value → mm_H → Option ρ) (v0 : Nat) (v1 : Nat) (v2 : Nat) (v3 : Nat) (v4 : Int32) (h : mm_H) : mm_one p_law kr kc 925 [.ref v0, .ref v1, .ref v2, .ref v3, .int v4] [] h =
  (mm_li h v0 (v4 + 1)).bind fun x1 =>
  mm_ci (f_Ls_judged [.ref v1, .int x1] h) fun x3 h2 =>
  (mm_li h2 v0 (v4 + 1)).bind fun x4 =>
  mm_ci (f_Md_judged [.ref v2, .int x4] h2) fun x6 h5 =>
  if x3 = x6 then
    kc 2034 [.ref v0, .ref v1, .ref v2, .ref v3, .int v4] [] h5
  else
    kr (some (.int 0)) h5 := rfl
set_option maxRecDepth 100000 in
theorem o_law_950 {ρ : Type} (kr : Option Value → mm_H → Option ρ) (kc : Nat → List Value → List Value → mm_H → Option ρ) (v0 : Nat) (v1 : Nat) (v2 : Nat) (v3 : Nat) (v4 : Int32) (h : mm_H) : mm_one p_law kr kc 950 [.ref v0, .ref v1, .ref v2, .ref v3, .int v4] [] h =
  (mm_li h v0 (v4 + 1)).bind fun x1 =>
  (mm_li h v0 (v4 + 2)).bind fun x2 =>
  mm_ci (f_Ls_found [.ref v1, .int x1, .int x2] h) fun x4 h3 =>
  (mm_li h3 v0 (v4 + 1)).bind fun x5 =>
  (mm_li h3 v0 (v4 + 2)).bind fun x6 =>
  mm_ci (f_Md_found [.ref v2, .int x5, .int x6] h3) fun x8 h7 =>
  if x4 = x8 then
    kc 2034 [.ref v0, .ref v1, .ref v2, .ref v3, .int v4] [] h7
  else
    kr (some (.int 0)) h7 := rfl
set_option maxRecDepth 100000 in
theorem o_law_987 {ρ : Type} (kr : Option Value → mm_H → Option ρ) (kc : Nat → List Value → List Value → mm_H → Option ρ) (v0 : Nat) (v1 : Nat) (v2 : Nat) (v3 : Nat) (v4 : Int32) (h : mm_H) : mm_one p_law kr kc 987 [.ref v0, .ref v1, .ref v2, .ref v3, .int v4] [] h =
  (mm_li h v0 (v4 + 1)).bind fun x1 =>
  (mm_li h v0 (v4 + 2)).bind fun x2 =>
  mm_ci (f_Ls_open [.ref v1, .int x1, .int x2] h) fun x4 h3 =>
  (mm_li h3 v0 (v4 + 1)).bind fun x5 =>
  (mm_li h3 v0 (v4 + 2)).bind fun x6 =>
  mm_ci (f_Md_open [.ref v2, .int x5, .int x6] h3) fun x8 h7 =>
  if x4 = x8 then
    kc 2034 [.ref v0, .ref v1, .ref v2, .ref v3, .int v4] [] h7
  else
    kr (some (.int 0)) h7 := rfl
set_option maxRecDepth 100000 in
theorem o_law_1024 {ρ : Type} (kr : Option Value → mm_H → Option ρ) (kc : Nat → List Value → List Value → mm_H → Option ρ) (v0 : Nat) (v1 : Nat) (v2 : Nat) (v3 : Nat) (v4 : Int32) (h : mm_H) : mm_one p_law kr kc 1024 [.ref v0, .ref v1, .ref v2, .ref v3, .int v4] [] h =
  mm_ci (f_Ls_fetch [.ref v1] h) fun x2 h1 =>
  mm_ci (f_Md_fetch [.ref v2] h1) fun x4 h3 =>
  if x2 = x4 then
    kc 2034 [.ref v0, .ref v1, .ref v2, .ref v3, .int v4] [] h3
  else
    kr (some (.int 0)) h3 := rfl
set_option maxRecDepth 100000 in
theorem o_law_1037 {ρ : Type} (kr : Option Value → mm_H → Option ρ) (kc : Nat → List Value → List Value → mm_H → Option ρ) (v0 : Nat) (v1 : Nat) (v2 : Nat) (v3 : Nat) (v4 : Int32) (h : mm_H) : mm_one p_law kr kc 1037 [.ref v0, .ref v1, .ref v2, .ref v3, .int v4] [] h =
  (mm_li h v0 (v4 + 1)).bind fun x1 =>
  (mm_li h v0 (v4 + 2)).bind fun x2 =>
  kc 1051 [.ref v0, .ref v1, .ref v2, .ref v3, .int v4] [.ref v3, .int x2, .int x1, .ref v1] h := rfl
set_option maxRecDepth 100000 in
theorem o_law_1105 {ρ : Type} (kr : Option Value → mm_H → Option ρ) (kc : Nat → List Value → List Value → mm_H → Option ρ) (v0 : Nat) (v1 : Nat) (v2 : Nat) (v3 : Nat) (v4 : Int32) (h : mm_H) : mm_one p_law kr kc 1105 [.ref v0, .ref v1, .ref v2, .ref v3, .int v4] [] h =
  (mm_li h v0 (v4 + 1)).bind fun x1 =>
  (mm_li h v0 (v4 + 2)).bind fun x2 =>
  mm_ci (f_Ls_skips [.ref v1, .int x1, .int x2] h) fun x4 h3 =>
  (mm_li h3 v0 (v4 + 1)).bind fun x5 =>
  (mm_li h3 v0 (v4 + 2)).bind fun x6 =>
  mm_ci (f_Md_skips [.ref v2, .int x5, .int x6] h3) fun x8 h7 =>
  if x4 = x8 then
    kc 2034 [.ref v0, .ref v1, .ref v2, .ref v3, .int v4] [] h7
  else
    kr (some (.int 0)) h7 := rfl
set_option maxRecDepth 100000 in
theorem o_law_1142 {ρ : Type} (kr : Option Value → mm_H → Option ρ) (kc : Nat → List Value → List Value → mm_H → Option ρ) (v0 : Nat) (v1 : Nat) (v2 : Nat) (v3 : Nat) (v4 : Int32) (h : mm_H) : mm_one p_law kr kc 1142 [.ref v0, .ref v1, .ref v2, .ref v3, .int v4] [] h =
  (mm_li h v0 (v4 + 1)).bind fun x1 =>
  mm_ci (f_Ls_stale [.ref v1, .int x1] h) fun x3 h2 =>
  (mm_li h2 v0 (v4 + 1)).bind fun x4 =>
  mm_ci (f_Md_stale [.ref v2, .int x4] h2) fun x6 h5 =>
  if x3 = x6 then
    kc 2034 [.ref v0, .ref v1, .ref v2, .ref v3, .int v4] [] h5
  else
    kr (some (.int 0)) h5 := rfl
set_option maxRecDepth 100000 in
theorem o_law_1167 {ρ : Type} (kr : Option Value → mm_H → Option ρ) (kc : Nat → List Value → List Value → mm_H → Option ρ) (v0 : Nat) (v1 : Nat) (v2 : Nat) (v3 : Nat) (v4 : Int32) (h : mm_H) : mm_one p_law kr kc 1167 [.ref v0, .ref v1, .ref v2, .ref v3, .int v4] [] h =
  (mm_li h v0 (v4 + 1)).bind fun x1 =>
  mm_ci (f_Ls_missing [.ref v1, .int x1] h) fun x3 h2 =>
  (mm_li h2 v0 (v4 + 1)).bind fun x4 =>
  mm_ci (f_Md_missing [.ref v2, .int x4] h2) fun x6 h5 =>
  if x3 = x6 then
    kc 2034 [.ref v0, .ref v1, .ref v2, .ref v3, .int v4] [] h5
  else
    kr (some (.int 0)) h5 := rfl
set_option maxRecDepth 100000 in
theorem o_law_1192 {ρ : Type} (kr : Option Value → mm_H → Option ρ) (kc : Nat → List Value → List Value → mm_H → Option ρ) (v0 : Nat) (v1 : Nat) (v2 : Nat) (v3 : Nat) (v4 : Int32) (h : mm_H) : mm_one p_law kr kc 1192 [.ref v0, .ref v1, .ref v2, .ref v3, .int v4] [] h =
  (mm_li h v0 (v4 + 1)).bind fun x1 =>
  mm_ci (f_Ls_side [.ref v1, .int x1] h) fun x3 h2 =>
  (mm_li h2 v0 (v4 + 1)).bind fun x4 =>
  mm_ci (f_Md_side [.ref v2, .int x4] h2) fun x6 h5 =>
  if x3 = x6 then
    kc 2034 [.ref v0, .ref v1, .ref v2, .ref v3, .int v4] [] h5
  else
    kr (some (.int 0)) h5 := rfl
set_option maxRecDepth 100000 in
theorem o_law_1217 {ρ : Type} (kr : Option Value → mm_H → Option ρ) (kc : Nat → List Value → List Value → mm_H → Option ρ) (v0 : Nat) (v1 : Nat) (v2 : Nat) (v3 : Nat) (v4 : Int32) (h : mm_H) : mm_one p_law kr kc 1217 [.ref v0, .ref v1, .ref v2, .ref v3, .int v4] [] h =
  (mm_li h v0 (v4 + 1)).bind fun x1 =>
  (mm_li h v0 (v4 + 2)).bind fun x2 =>
  mm_ci (f_Ls_splits [.ref v1, .int x1, .int x2] h) fun x4 h3 =>
  (mm_li h3 v0 (v4 + 1)).bind fun x5 =>
  (mm_li h3 v0 (v4 + 2)).bind fun x6 =>
  mm_ci (f_Md_splits [.ref v2, .int x5, .int x6] h3) fun x8 h7 =>
  if x4 = x8 then
    kc 2034 [.ref v0, .ref v1, .ref v2, .ref v3, .int v4] [] h7
  else
    kr (some (.int 0)) h7 := rfl
set_option maxRecDepth 100000 in
theorem o_law_1254 {ρ : Type} (kr : Option Value → mm_H → Option ρ) (kc : Nat → List Value → List Value → mm_H → Option ρ) (v0 : Nat) (v1 : Nat) (v2 : Nat) (v3 : Nat) (v4 : Int32) (h : mm_H) : mm_one p_law kr kc 1254 [.ref v0, .ref v1, .ref v2, .ref v3, .int v4] [] h =
  (mm_li h v0 (v4 + 1)).bind fun x1 =>
  mm_ci (f_Ls_fill [.ref v1, .int x1] h) fun x3 h2 =>
  (mm_li h2 v0 (v4 + 1)).bind fun x4 =>
  mm_ci (f_Md_fill [.ref v2, .int x4] h2) fun x6 h5 =>
  if x3 = x6 then
    kc 2034 [.ref v0, .ref v1, .ref v2, .ref v3, .int v4] [] h5
  else
    kr (some (.int 0)) h5 := rfl
set_option maxRecDepth 100000 in
theorem o_law_1279 {ρ : Type} (kr : Option Value → mm_H → Option ρ) (kc : Nat → List Value → List Value → mm_H → Option ρ) (v0 : Nat) (v1 : Nat) (v2 : Nat) (v3 : Nat) (v4 : Int32) (h : mm_H) : mm_one p_law kr kc 1279 [.ref v0, .ref v1, .ref v2, .ref v3, .int v4] [] h =
  (mm_li h v0 (v4 + 1)).bind fun x1 =>
  mm_ci (f_Ls_sparse [.ref v1, .int x1] h) fun x3 h2 =>
  (mm_li h2 v0 (v4 + 1)).bind fun x4 =>
  mm_ci (f_Md_sparse [.ref v2, .int x4] h2) fun x6 h5 =>
  if x3 = x6 then
    kc 2034 [.ref v0, .ref v1, .ref v2, .ref v3, .int v4] [] h5
  else
    kr (some (.int 0)) h5 := rfl
set_option maxRecDepth 100000 in
theorem o_law_1304 {ρ : Type} (kr : Option Value → mm_H → Option ρ) (kc : Nat → List Value → List Value → mm_H → Option ρ) (v0 : Nat) (v1 : Nat) (v2 : Nat) (v3 : Nat) (v4 : Int32) (h : mm_H) : mm_one p_law kr kc 1304 [.ref v0, .ref v1, .ref v2, .ref v3, .int v4] [] h =
  (mm_li h v0 (v4 + 1)).bind fun x1 =>
  (mm_li h v0 (v4 + 2)).bind fun x2 =>
  mm_ci (f_Ls_costs [.ref v1, .int x1, .int x2] h) fun x4 h3 =>
  (mm_li h3 v0 (v4 + 1)).bind fun x5 =>
  (mm_li h3 v0 (v4 + 2)).bind fun x6 =>
  mm_ci (f_Md_costs [.ref v2, .int x5, .int x6] h3) fun x8 h7 =>
  if x4 = x8 then
    kc 2034 [.ref v0, .ref v1, .ref v2, .ref v3, .int v4] [] h7
  else
    kr (some (.int 0)) h7 := rfl
set_option maxRecDepth 100000 in
theorem o_law_1341 {ρ : Type} (kr : Option Value → mm_H → Option ρ) (kc : Nat → List Value → List Value → mm_H → Option ρ) (v0 : Nat) (v1 : Nat) (v2 : Nat) (v3 : Nat) (v4 : Int32) (h : mm_H) : mm_one p_law kr kc 1341 [.ref v0, .ref v1, .ref v2, .ref v3, .int v4] [] h =
  mm_ci (f_Ls_ways [.ref v1] h) fun x2 h1 =>
  mm_ci (f_Md_ways [.ref v2] h1) fun x4 h3 =>
  if x2 = x4 then
    kc 2034 [.ref v0, .ref v1, .ref v2, .ref v3, .int v4] [] h3
  else
    kr (some (.int 0)) h3 := rfl
set_option maxRecDepth 100000 in
theorem o_law_1354 {ρ : Type} (kr : Option Value → mm_H → Option ρ) (kc : Nat → List Value → List Value → mm_H → Option ρ) (v0 : Nat) (v1 : Nat) (v2 : Nat) (v3 : Nat) (v4 : Int32) (h : mm_H) : mm_one p_law kr kc 1354 [.ref v0, .ref v1, .ref v2, .ref v3, .int v4] [] h =
  (mm_li h v0 (v4 + 1)).bind fun x1 =>
  mm_ci (f_Ls_turn [.ref v1, .int x1] h) fun x3 h2 =>
  (mm_li h2 v0 (v4 + 1)).bind fun x4 =>
  mm_ci (f_Md_turn [.ref v2, .int x4] h2) fun x6 h5 =>
  if x3 = x6 then
    kc 2034 [.ref v0, .ref v1, .ref v2, .ref v3, .int v4] [] h5
  else
    kr (some (.int 0)) h5 := rfl
set_option maxRecDepth 100000 in
theorem o_law_1379 {ρ : Type} (kr : Option Value → mm_H → Option ρ) (kc : Nat → List Value → List Value → mm_H → Option ρ) (v0 : Nat) (v1 : Nat) (v2 : Nat) (v3 : Nat) (v4 : Int32) (h : mm_H) : mm_one p_law kr kc 1379 [.ref v0, .ref v1, .ref v2, .ref v3, .int v4] [] h =
  (mm_li h v0 (v4 + 1)).bind fun x1 =>
  (mm_li h v0 (v4 + 2)).bind fun x2 =>
  mm_ci (f_Ls_lefts [.ref v1, .int x1, .int x2] h) fun x4 h3 =>
  (mm_li h3 v0 (v4 + 1)).bind fun x5 =>
  (mm_li h3 v0 (v4 + 2)).bind fun x6 =>
  mm_ci (f_Md_lefts [.ref v2, .int x5, .int x6] h3) fun x8 h7 =>
  if x4 = x8 then
    kc 2034 [.ref v0, .ref v1, .ref v2, .ref v3, .int v4] [] h7
  else
    kr (some (.int 0)) h7 := rfl
set_option maxRecDepth 100000 in
theorem o_law_1416 {ρ : Type} (kr : Option Value → mm_H → Option ρ) (kc : Nat → List Value → List Value → mm_H → Option ρ) (v0 : Nat) (v1 : Nat) (v2 : Nat) (v3 : Nat) (v4 : Int32) (h : mm_H) : mm_one p_law kr kc 1416 [.ref v0, .ref v1, .ref v2, .ref v3, .int v4] [] h =
  (mm_li h v0 (v4 + 1)).bind fun x1 =>
  (mm_li h v0 (v4 + 2)).bind fun x2 =>
  mm_ci (f_Ls_when [.ref v1, .int x1, .int x2] h) fun x4 h3 =>
  (mm_li h3 v0 (v4 + 1)).bind fun x5 =>
  (mm_li h3 v0 (v4 + 2)).bind fun x6 =>
  mm_ci (f_Md_when [.ref v2, .int x5, .int x6] h3) fun x8 h7 =>
  if x4 = x8 then
    kc 2034 [.ref v0, .ref v1, .ref v2, .ref v3, .int v4] [] h7
  else
    kr (some (.int 0)) h7 := rfl
set_option maxRecDepth 100000 in
theorem o_law_1453 {ρ : Type} (kr : Option Value → mm_H → Option ρ) (kc : Nat → List Value → List Value → mm_H → Option ρ) (v0 : Nat) (v1 : Nat) (v2 : Nat) (v3 : Nat) (v4 : Int32) (h : mm_H) : mm_one p_law kr kc 1453 [.ref v0, .ref v1, .ref v2, .ref v3, .int v4] [] h =
  (mm_li h v0 (v4 + 1)).bind fun x1 =>
  (mm_li h v0 (v4 + 2)).bind fun x2 =>
  mm_ci (f_Ls_next [.ref v1, .int x1, .int x2] h) fun x4 h3 =>
  (mm_li h3 v0 (v4 + 1)).bind fun x5 =>
  (mm_li h3 v0 (v4 + 2)).bind fun x6 =>
  mm_ci (f_Md_next [.ref v2, .int x5, .int x6] h3) fun x8 h7 =>
  if x4 = x8 then
    kc 2034 [.ref v0, .ref v1, .ref v2, .ref v3, .int v4] [] h7
  else
    kr (some (.int 0)) h7 := rfl
set_option maxRecDepth 100000 in
theorem o_law_1490 {ρ : Type} (kr : Option Value → mm_H → Option ρ) (kc : Nat → List Value → List Value → mm_H → Option ρ) (v0 : Nat) (v1 : Nat) (v2 : Nat) (v3 : Nat) (v4 : Int32) (h : mm_H) : mm_one p_law kr kc 1490 [.ref v0, .ref v1, .ref v2, .ref v3, .int v4] [] h =
  (mm_li h v0 (v4 + 1)).bind fun x1 =>
  mm_ci (f_Ls_job [.ref v1, .int x1] h) fun x3 h2 =>
  (mm_li h2 v0 (v4 + 1)).bind fun x4 =>
  mm_ci (f_Md_job [.ref v2, .int x4] h2) fun x6 h5 =>
  if x3 = x6 then
    kc 2034 [.ref v0, .ref v1, .ref v2, .ref v3, .int v4] [] h5
  else
    kr (some (.int 0)) h5 := rfl
set_option maxRecDepth 100000 in
theorem o_law_1515 {ρ : Type} (kr : Option Value → mm_H → Option ρ) (kc : Nat → List Value → List Value → mm_H → Option ρ) (v0 : Nat) (v1 : Nat) (v2 : Nat) (v3 : Nat) (v4 : Int32) (h : mm_H) : mm_one p_law kr kc 1515 [.ref v0, .ref v1, .ref v2, .ref v3, .int v4] [] h =
  (mm_li h v0 (v4 + 1)).bind fun x1 =>
  (mm_li h v0 (v4 + 2)).bind fun x2 =>
  mm_ci (f_Ls_record [.ref v1, .int x1, .int x2] h) fun x4 h3 =>
  (mm_li h3 v0 (v4 + 1)).bind fun x5 =>
  (mm_li h3 v0 (v4 + 2)).bind fun x6 =>
  mm_ci (f_Md_record [.ref v2, .int x5, .int x6] h3) fun x8 h7 =>
  if x4 = x8 then
    kc 2034 [.ref v0, .ref v1, .ref v2, .ref v3, .int v4] [] h7
  else
    kr (some (.int 0)) h7 := rfl
set_option maxRecDepth 100000 in
theorem o_law_1552 {ρ : Type} (kr : Option Value → mm_H → Option ρ) (kc : Nat → List Value → List Value → mm_H → Option ρ) (v0 : Nat) (v1 : Nat) (v2 : Nat) (v3 : Nat) (v4 : Int32) (h : mm_H) : mm_one p_law kr kc 1552 [.ref v0, .ref v1, .ref v2, .ref v3, .int v4] [] h =
  mm_ci (f_Ls_steps [.ref v1] h) fun x2 h1 =>
  mm_ci (f_Md_steps [.ref v2] h1) fun x4 h3 =>
  if x2 = x4 then
    kc 2034 [.ref v0, .ref v1, .ref v2, .ref v3, .int v4] [] h3
  else
    kr (some (.int 0)) h3 := rfl
set_option maxRecDepth 100000 in
theorem o_law_1565 {ρ : Type} (kr : Option Value → mm_H → Option ρ) (kc : Nat → List Value → List Value → mm_H → Option ρ) (v0 : Nat) (v1 : Nat) (v2 : Nat) (v3 : Nat) (v4 : Int32) (h : mm_H) : mm_one p_law kr kc 1565 [.ref v0, .ref v1, .ref v2, .ref v3, .int v4] [] h =
  (mm_li h v0 (v4 + 1)).bind fun x1 =>
  (mm_li h v0 (v4 + 2)).bind fun x2 =>
  mm_ci (f_Ls_after [.ref v1, .int x1, .int x2] h) fun x4 h3 =>
  (mm_li h3 v0 (v4 + 1)).bind fun x5 =>
  (mm_li h3 v0 (v4 + 2)).bind fun x6 =>
  mm_ci (f_Md_after [.ref v2, .int x5, .int x6] h3) fun x8 h7 =>
  if x4 = x8 then
    kc 2034 [.ref v0, .ref v1, .ref v2, .ref v3, .int v4] [] h7
  else
    kr (some (.int 0)) h7 := rfl
set_option maxRecDepth 100000 in
theorem o_law_1602 {ρ : Type} (kr : Option Value → mm_H → Option ρ) (kc : Nat → List Value → List Value → mm_H → Option ρ) (v0 : Nat) (v1 : Nat) (v2 : Nat) (v3 : Nat) (v4 : Int32) (h : mm_H) : mm_one p_law kr kc 1602 [.ref v0, .ref v1, .ref v2, .ref v3, .int v4] [] h =
  (mm_li h v0 (v4 + 1)).bind fun x1 =>
  (mm_li h v0 (v4 + 2)).bind fun x2 =>
  (mm_li h v0 (v4 + 3)).bind fun x3 =>
  (mm_li h v0 (v4 + 4)).bind fun x4 =>
  (mm_li h v0 (v4 + 5)).bind fun x5 =>
  mm_ci (f_Ls_during [.ref v1, .int x1, .int x2, .int x3, .int x4, .int x5] h) fun x7 h6 =>
  (mm_li h6 v0 (v4 + 1)).bind fun x8 =>
  (mm_li h6 v0 (v4 + 2)).bind fun x9 =>
  (mm_li h6 v0 (v4 + 3)).bind fun x10 =>
  (mm_li h6 v0 (v4 + 4)).bind fun x11 =>
  (mm_li h6 v0 (v4 + 5)).bind fun x12 =>
  mm_ci (f_Md_during [.ref v2, .int x8, .int x9, .int x10, .int x11, .int x12] h6) fun x14 h13 =>
  if x7 = x14 then
    kc 2034 [.ref v0, .ref v1, .ref v2, .ref v3, .int v4] [] h13
  else
    kr (some (.int 0)) h13 := rfl
set_option maxRecDepth 100000 in
theorem o_law_1675 {ρ : Type} (kr : Option Value → mm_H → Option ρ) (kc : Nat → List Value → List Value → mm_H → Option ρ) (v0 : Nat) (v1 : Nat) (v2 : Nat) (v3 : Nat) (v4 : Int32) (h : mm_H) : mm_one p_law kr kc 1675 [.ref v0, .ref v1, .ref v2, .ref v3, .int v4] [] h =
  (mm_li h v0 (v4 + 1)).bind fun x1 =>
  (mm_li h v0 (v4 + 2)).bind fun x2 =>
  mm_ci (f_Ls_crashes [.ref v1, .int x1, .int x2] h) fun x4 h3 =>
  (mm_li h3 v0 (v4 + 1)).bind fun x5 =>
  (mm_li h3 v0 (v4 + 2)).bind fun x6 =>
  mm_ci (f_Md_crashes [.ref v2, .int x5, .int x6] h3) fun x8 h7 =>
  if x4 = x8 then
    kc 2034 [.ref v0, .ref v1, .ref v2, .ref v3, .int v4] [] h7
  else
    kr (some (.int 0)) h7 := rfl
set_option maxRecDepth 100000 in
theorem o_law_1712 {ρ : Type} (kr : Option Value → mm_H → Option ρ) (kc : Nat → List Value → List Value → mm_H → Option ρ) (v0 : Nat) (v1 : Nat) (v2 : Nat) (v3 : Nat) (v4 : Int32) (h : mm_H) : mm_one p_law kr kc 1712 [.ref v0, .ref v1, .ref v2, .ref v3, .int v4] [] h =
  (mm_li h v0 (v4 + 1)).bind fun x1 =>
  (mm_li h v0 (v4 + 2)).bind fun x2 =>
  mm_ci (f_Ls_runs [.ref v1, .int x1, .int x2] h) fun x4 h3 =>
  (mm_li h3 v0 (v4 + 1)).bind fun x5 =>
  (mm_li h3 v0 (v4 + 2)).bind fun x6 =>
  mm_ci (f_Md_runs [.ref v2, .int x5, .int x6] h3) fun x8 h7 =>
  if x4 = x8 then
    kc 2034 [.ref v0, .ref v1, .ref v2, .ref v3, .int v4] [] h7
  else
    kr (some (.int 0)) h7 := rfl
set_option maxRecDepth 100000 in
theorem o_law_1749 {ρ : Type} (kr : Option Value → mm_H → Option ρ) (kc : Nat → List Value → List Value → mm_H → Option ρ) (v0 : Nat) (v1 : Nat) (v2 : Nat) (v3 : Nat) (v4 : Int32) (h : mm_H) : mm_one p_law kr kc 1749 [.ref v0, .ref v1, .ref v2, .ref v3, .int v4] [] h =
  (mm_li h v0 (v4 + 1)).bind fun x1 =>
  (mm_li h v0 (v4 + 2)).bind fun x2 =>
  (mm_li h v0 (v4 + 3)).bind fun x3 =>
  mm_ci (f_Ls_run [.ref v1, .int x1, .int x2, .int x3] h) fun x5 h4 =>
  (mm_li h4 v0 (v4 + 1)).bind fun x6 =>
  (mm_li h4 v0 (v4 + 2)).bind fun x7 =>
  (mm_li h4 v0 (v4 + 3)).bind fun x8 =>
  mm_ci (f_Md_run [.ref v2, .int x6, .int x7, .int x8] h4) fun x10 h9 =>
  if x5 = x10 then
    kc 2034 [.ref v0, .ref v1, .ref v2, .ref v3, .int v4] [] h9
  else
    kr (some (.int 0)) h9 := rfl
set_option maxRecDepth 100000 in
theorem o_law_1798 {ρ : Type} (kr : Option Value → mm_H → Option ρ) (kc : Nat → List Value → List Value → mm_H → Option ρ) (v0 : Nat) (v1 : Nat) (v2 : Nat) (v3 : Nat) (v4 : Int32) (h : mm_H) : mm_one p_law kr kc 1798 [.ref v0, .ref v1, .ref v2, .ref v3, .int v4] [] h =
  (mm_li h v0 (v4 + 1)).bind fun x1 =>
  (mm_li h v0 (v4 + 2)).bind fun x2 =>
  mm_ci (f_Ls_merged [.ref v1, .int x1, .int x2] h) fun x4 h3 =>
  (mm_li h3 v0 (v4 + 1)).bind fun x5 =>
  (mm_li h3 v0 (v4 + 2)).bind fun x6 =>
  mm_ci (f_Md_merged [.ref v2, .int x5, .int x6] h3) fun x8 h7 =>
  if x4 = x8 then
    kc 2034 [.ref v0, .ref v1, .ref v2, .ref v3, .int v4] [] h7
  else
    kr (some (.int 0)) h7 := rfl
set_option maxRecDepth 100000 in
theorem o_law_1835 {ρ : Type} (kr : Option Value → mm_H → Option ρ) (kc : Nat → List Value → List Value → mm_H → Option ρ) (v0 : Nat) (v1 : Nat) (v2 : Nat) (v3 : Nat) (v4 : Int32) (h : mm_H) : mm_one p_law kr kc 1835 [.ref v0, .ref v1, .ref v2, .ref v3, .int v4] [] h =
  (mm_li h v0 (v4 + 1)).bind fun x1 =>
  mm_ci (f_Ls_check [.ref v1, .int x1] h) fun x3 h2 =>
  (mm_li h2 v0 (v4 + 1)).bind fun x4 =>
  mm_ci (f_Md_check [.ref v2, .int x4] h2) fun x6 h5 =>
  if x3 = x6 then
    kc 2034 [.ref v0, .ref v1, .ref v2, .ref v3, .int v4] [] h5
  else
    kr (some (.int 0)) h5 := rfl
set_option maxRecDepth 100000 in
theorem o_law_1860 {ρ : Type} (kr : Option Value → mm_H → Option ρ) (kc : Nat → List Value → List Value → mm_H → Option ρ) (v0 : Nat) (v1 : Nat) (v2 : Nat) (v3 : Nat) (v4 : Int32) (h : mm_H) : mm_one p_law kr kc 1860 [.ref v0, .ref v1, .ref v2, .ref v3, .int v4] [] h =
  mm_ci (f_Ls_hinders [.ref v1] h) fun x2 h1 =>
  mm_ci (f_Md_hinders_ [.ref v2] h1) fun x4 h3 =>
  if x2 = x4 then
    kc 2034 [.ref v0, .ref v1, .ref v2, .ref v3, .int v4] [] h3
  else
    kr (some (.int 0)) h3 := rfl
set_option maxRecDepth 100000 in
theorem o_law_1873 {ρ : Type} (kr : Option Value → mm_H → Option ρ) (kc : Nat → List Value → List Value → mm_H → Option ρ) (v0 : Nat) (v1 : Nat) (v2 : Nat) (v3 : Nat) (v4 : Int32) (h : mm_H) : mm_one p_law kr kc 1873 [.ref v0, .ref v1, .ref v2, .ref v3, .int v4] [] h =
  (mm_li h v0 (v4 + 1)).bind fun x1 =>
  (mm_li h v0 (v4 + 2)).bind fun x2 =>
  mm_ci (f_Ls_fits [.ref v1, .int x1, .int x2] h) fun x4 h3 =>
  (mm_li h3 v0 (v4 + 1)).bind fun x5 =>
  (mm_li h3 v0 (v4 + 2)).bind fun x6 =>
  mm_ci (f_Md_fits [.ref v2, .int x5, .int x6] h3) fun x8 h7 =>
  if x4 = x8 then
    kc 2034 [.ref v0, .ref v1, .ref v2, .ref v3, .int v4] [] h7
  else
    kr (some (.int 0)) h7 := rfl
set_option maxRecDepth 100000 in
theorem o_law_1910 {ρ : Type} (kr : Option Value → mm_H → Option ρ) (kc : Nat → List Value → List Value → mm_H → Option ρ) (v0 : Nat) (v1 : Nat) (v2 : Nat) (v3 : Nat) (v4 : Int32) (h : mm_H) : mm_one p_law kr kc 1910 [.ref v0, .ref v1, .ref v2, .ref v3, .int v4] [] h =
  (mm_li h v0 (v4 + 1)).bind fun x1 =>
  mm_ci (f_Ls_needs [.ref v1, .int x1] h) fun x3 h2 =>
  (mm_li h2 v0 (v4 + 1)).bind fun x4 =>
  mm_ci (f_Md_needs [.ref v2, .int x4] h2) fun x6 h5 =>
  if x3 = x6 then
    kc 2034 [.ref v0, .ref v1, .ref v2, .ref v3, .int v4] [] h5
  else
    kr (some (.int 0)) h5 := rfl
set_option maxRecDepth 100000 in
theorem o_law_1935 {ρ : Type} (kr : Option Value → mm_H → Option ρ) (kc : Nat → List Value → List Value → mm_H → Option ρ) (v0 : Nat) (v1 : Nat) (v2 : Nat) (v3 : Nat) (v4 : Int32) (h : mm_H) : mm_one p_law kr kc 1935 [.ref v0, .ref v1, .ref v2, .ref v3, .int v4] [] h =
  (mm_li h v0 (v4 + 1)).bind fun x1 =>
  mm_ci (f_Ls_free [.ref v1, .int x1] h) fun x3 h2 =>
  (mm_li h2 v0 (v4 + 1)).bind fun x4 =>
  mm_ci (f_Md_free [.ref v2, .int x4] h2) fun x6 h5 =>
  if x3 = x6 then
    kc 2034 [.ref v0, .ref v1, .ref v2, .ref v3, .int v4] [] h5
  else
    kr (some (.int 0)) h5 := rfl
set_option maxRecDepth 100000 in
theorem o_law_1960 {ρ : Type} (kr : Option Value → mm_H → Option ρ) (kc : Nat → List Value → List Value → mm_H → Option ρ) (v0 : Nat) (v1 : Nat) (v2 : Nat) (v3 : Nat) (v4 : Int32) (h : mm_H) : mm_one p_law kr kc 1960 [.ref v0, .ref v1, .ref v2, .ref v3, .int v4] [] h =
  (mm_li h v0 (v4 + 1)).bind fun x1 =>
  (mm_li h v0 (v4 + 2)).bind fun x2 =>
  (mm_li h v0 (v4 + 3)).bind fun x3 =>
  mm_ci (f_Ls_would [.ref v1, .int x1, .int x2, .int x3] h) fun x5 h4 =>
  (mm_li h4 v0 (v4 + 1)).bind fun x6 =>
  (mm_li h4 v0 (v4 + 2)).bind fun x7 =>
  (mm_li h4 v0 (v4 + 3)).bind fun x8 =>
  mm_ci (f_Md_would [.ref v2, .int x6, .int x7, .int x8] h4) fun x10 h9 =>
  if x5 = x10 then
    kc 2034 [.ref v0, .ref v1, .ref v2, .ref v3, .int v4] [] h9
  else
    kr (some (.int 0)) h9 := rfl
set_option maxRecDepth 100000 in
theorem o_law_2009 {ρ : Type} (kr : Option Value → mm_H → Option ρ) (kc : Nat → List Value → List Value → mm_H → Option ρ) (v0 : Nat) (v1 : Nat) (v2 : Nat) (v3 : Nat) (v4 : Int32) (h : mm_H) : mm_one p_law kr kc 2009 [.ref v0, .ref v1, .ref v2, .ref v3, .int v4] [] h =
  (mm_li h v0 (v4 + 1)).bind fun x1 =>
  mm_ci (f_Ls_count [.ref v1, .int x1] h) fun x3 h2 =>
  (mm_li h2 v0 (v4 + 1)).bind fun x4 =>
  mm_ci (f_Md_count [.ref v2, .int x4] h2) fun x6 h5 =>
  if x3 = x6 then
    kc 2034 [.ref v0, .ref v1, .ref v2, .ref v3, .int v4] [] h5
  else
    kr (some (.int 0)) h5 := rfl
set_option maxRecDepth 100000 in
theorem o_law_2034 {ρ : Type} (kr : Option Value → mm_H → Option ρ) (kc : Nat → List Value → List Value → mm_H → Option ρ) (v0 : Nat) (v1 : Nat) (v2 : Nat) (v3 : Nat) (v4 : Int32) (h : mm_H) : mm_one p_law kr kc 2034 [.ref v0, .ref v1, .ref v2, .ref v3, .int v4] [] h =
  kc 23 [.ref v0, .ref v1, .ref v2, .ref v3, .int (v4 + 7)] [] h := rfl
