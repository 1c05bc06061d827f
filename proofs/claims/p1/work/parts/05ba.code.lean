/-! printed by gen_tab.py: code tables -/
set_option maxRecDepth 100000 in
def xk_L_law_0 : List (Nat × Instr × Nat) := [(0, .new 8, 3), (3, .dup, 1), (4, .invokespecial 158, 3), (7, .astore_n 1, 1), (8, .new 159, 3), (11, .dup, 1), (12, .invokespecial 161, 3), (15, .astore_n 2, 1), (16, .iconst 1, 1), (17, .newarray .long, 2), (19, .astore_n 3, 1), (20, .iconst 0, 1), (21, .istore 4, 2), (23, .iload 4, 2), (25, .aload_n 0, 1), (26, .arraylength, 1), (27, .bipush 6, 2), (29, .isub, 1), (30, .if_icmp .gt 3442, 3), (33, .aload_n 0, 1), (34, .iload 4, 2), (36, .iaload, 1), (37, .bipush 63, 2), (39, .iand, 1), (40, .tableswitch 3426 0 61 #[264, 368, 381, 394, 438, 542, 638, 706, 798, 866, 922, 978, 1046, 1102, 1158, 1202, 1258, 1342, 1398, 1454, 1495, 1551, 1614, 1627, 1695, 1708, 1764, 1820, 1833, 1901, 1914, 1982, 2050, 2106, 2174, 2242, 2298, 2342, 2434, 2490, 2503, 2587, 2631, 2687, 2731, 2787, 2843, 2899, 2912, 3015, 3028, 3084, 3097, 3153, 3209, 3277, 3290, 3303, 3316, 3329, 3342, 3383], 264), (304, .aload_n 1, 1), (305, .aload_n 0, 1), (306, .iload 4, 2), (308, .iconst 1, 1), (309, .iadd, 1), (310, .iaload, 1), (311, .aload_n 0, 1), (312, .iload 4, 2), (314, .iconst 2, 1), (315, .iadd, 1), (316, .iaload, 1), (317, .aload_n 0, 1), (318, .iload 4, 2), (320, .iconst 3, 1), (321, .iadd, 1), (322, .iaload, 1), (323, .aload_n 0, 1), (324, .iload 4, 2), (326, .iconst 4, 1), (327, .iadd, 1)]
set_option maxRecDepth 100000 in
theorem xd_L_law_0 : xchk1 cL_law xk_L_law_0 = true := xwalk_of 0 (by decide +kernel)
set_option maxRecDepth 100000 in
def xk_L_law_1 : List (Nat × Instr × Nat) := [(328, .iaload, 1), (329, .aload_n 0, 1), (330, .iload 4, 2), (332, .iconst 5, 1), (333, .iadd, 1), (334, .iaload, 1), (335, .aload_n 3, 1), (336, .invokestatic 162, 3), (339, .istore 5, 2), (341, .aload_n 2, 1), (342, .aload_n 0, 1), (343, .iload 4, 2), (345, .iconst 1, 1), (346, .iadd, 1), (347, .iaload, 1), (348, .aload_n 0, 1), (349, .iload 4, 2), (351, .iconst 2, 1), (352, .iadd, 1), (353, .iaload, 1), (354, .aload_n 0, 1), (355, .iload 4, 2), (357, .iconst 3, 1), (358, .iadd, 1), (359, .iaload, 1), (360, .aload_n 0, 1), (361, .iload 4, 2), (363, .iconst 4, 1), (364, .iadd, 1), (365, .iaload, 1), (366, .aload_n 0, 1), (367, .iload 4, 2), (369, .iconst 5, 1), (370, .iadd, 1), (371, .iaload, 1), (372, .invokevirtual 167, 3), (375, .istore 6, 2), (377, .aload_n 2, 1), (378, .invokevirtual 168, 3), (381, .iload 5, 2), (383, .if_icmp .eq 5, 3), (386, .iconst 0, 1), (387, .ireturn, 1), (388, .iload 5, 2), (390, .ifCond .ne 15, 3)]
set_option maxRecDepth 100000 in
theorem xd_L_law_1 : xchk1 cL_law xk_L_law_1 = true := xwalk_of 328 (by decide +kernel)
set_option maxRecDepth 100000 in
def xk_L_law_2 : List (Nat × Instr × Nat) := [(393, .aload_n 3, 1), (394, .iconst 0, 1), (395, .laload, 1), (396, .iload 6, 2), (398, .i2l, 1), (399, .lcmp, 1), (400, .ifCond .eq 5, 3), (403, .iconst 0, 1), (404, .ireturn, 1), (405, .goto 3061, 3), (408, .aload_n 1, 1), (409, .invokevirtual 171, 3), (412, .aload_n 2, 1), (413, .invokevirtual 174, 3), (416, .if_icmp .eq 3050, 3), (419, .iconst 0, 1), (420, .ireturn, 1), (421, .aload_n 1, 1), (422, .invokevirtual 175, 3), (425, .aload_n 2, 1), (426, .invokevirtual 178, 3), (429, .if_icmp .eq 3037, 3), (432, .iconst 0, 1), (433, .ireturn, 1), (434, .aload_n 1, 1), (435, .aload_n 3, 1), (436, .invokestatic 179, 3), (439, .istore 5, 2), (441, .aload_n 2, 1), (442, .invokevirtual 182, 3), (445, .istore 6, 2), (447, .aload_n 2, 1), (448, .invokevirtual 168, 3), (451, .iload 5, 2), (453, .if_icmp .eq 5, 3), (456, .iconst 0, 1), (457, .ireturn, 1), (458, .iload 5, 2), (460, .ifCond .ne 15, 3), (463, .aload_n 3, 1), (464, .iconst 0, 1), (465, .laload, 1), (466, .iload 6, 2), (468, .i2l, 1), (469, .lcmp, 1)]
set_option maxRecDepth 100000 in
theorem xd_L_law_2 : xchk1 cL_law xk_L_law_2 = true := xwalk_of 393 (by decide +kernel)
set_option maxRecDepth 100000 in
def xk_L_law_3 : List (Nat × Instr × Nat) := [(470, .ifCond .eq 5, 3), (473, .iconst 0, 1), (474, .ireturn, 1), (475, .goto 2991, 3), (478, .aload_n 1, 1), (479, .aload_n 0, 1), (480, .iload 4, 2), (482, .iconst 1, 1), (483, .iadd, 1), (484, .iaload, 1), (485, .aload_n 0, 1), (486, .iload 4, 2), (488, .iconst 2, 1), (489, .iadd, 1), (490, .iaload, 1), (491, .aload_n 0, 1), (492, .iload 4, 2), (494, .iconst 3, 1), (495, .iadd, 1), (496, .iaload, 1), (497, .aload_n 0, 1), (498, .iload 4, 2), (500, .iconst 4, 1), (501, .iadd, 1), (502, .iaload, 1), (503, .aload_n 0, 1), (504, .iload 4, 2), (506, .iconst 5, 1), (507, .iadd, 1), (508, .iaload, 1), (509, .aload_n 3, 1), (510, .invokestatic 183, 3), (513, .istore 5, 2), (515, .aload_n 2, 1), (516, .aload_n 0, 1), (517, .iload 4, 2), (519, .iconst 1, 1), (520, .iadd, 1), (521, .iaload, 1), (522, .aload_n 0, 1), (523, .iload 4, 2), (525, .iconst 2, 1), (526, .iadd, 1), (527, .iaload, 1), (528, .aload_n 0, 1)]
set_option maxRecDepth 100000 in
theorem xd_L_law_3 : xchk1 cL_law xk_L_law_3 = true := xwalk_of 470 (by decide +kernel)
set_option maxRecDepth 100000 in
def xk_L_law_4 : List (Nat × Instr × Nat) := [(529, .iload 4, 2), (531, .iconst 3, 1), (532, .iadd, 1), (533, .iaload, 1), (534, .aload_n 0, 1), (535, .iload 4, 2), (537, .iconst 4, 1), (538, .iadd, 1), (539, .iaload, 1), (540, .aload_n 0, 1), (541, .iload 4, 2), (543, .iconst 5, 1), (544, .iadd, 1), (545, .iaload, 1), (546, .invokevirtual 185, 3), (549, .istore 6, 2), (551, .aload_n 2, 1), (552, .invokevirtual 168, 3), (555, .iload 5, 2), (557, .if_icmp .eq 5, 3), (560, .iconst 0, 1), (561, .ireturn, 1), (562, .iload 5, 2), (564, .ifCond .ne 15, 3), (567, .aload_n 3, 1), (568, .iconst 0, 1), (569, .laload, 1), (570, .iload 6, 2), (572, .i2l, 1), (573, .lcmp, 1), (574, .ifCond .eq 5, 3), (577, .iconst 0, 1), (578, .ireturn, 1), (579, .goto 2887, 3), (582, .aload_n 1, 1), (583, .aload_n 0, 1), (584, .iload 4, 2), (586, .iconst 1, 1), (587, .iadd, 1), (588, .iaload, 1), (589, .aload_n 0, 1), (590, .iload 4, 2), (592, .iconst 2, 1), (593, .iadd, 1), (594, .iaload, 1)]
set_option maxRecDepth 100000 in
theorem xd_L_law_4 : xchk1 cL_law xk_L_law_4 = true := xwalk_of 529 (by decide +kernel)
set_option maxRecDepth 100000 in
def xk_L_law_5 : List (Nat × Instr × Nat) := [(595, .aload_n 0, 1), (596, .iload 4, 2), (598, .iconst 3, 1), (599, .iadd, 1), (600, .iaload, 1), (601, .ifCond .eq 7, 3), (604, .iconst 1, 1), (605, .goto 4, 3), (608, .iconst 0, 1), (609, .aload_n 3, 1), (610, .invokestatic 186, 3), (613, .istore 5, 2), (615, .aload_n 2, 1), (616, .aload_n 0, 1), (617, .iload 4, 2), (619, .iconst 1, 1), (620, .iadd, 1), (621, .iaload, 1), (622, .aload_n 0, 1), (623, .iload 4, 2), (625, .iconst 2, 1), (626, .iadd, 1), (627, .iaload, 1), (628, .aload_n 0, 1), (629, .iload 4, 2), (631, .iconst 3, 1), (632, .iadd, 1), (633, .iaload, 1), (634, .ifCond .eq 7, 3), (637, .iconst 1, 1), (638, .goto 4, 3), (641, .iconst 0, 1), (642, .invokevirtual 189, 3), (645, .istore 6, 2), (647, .aload_n 2, 1), (648, .invokevirtual 168, 3), (651, .iload 5, 2), (653, .if_icmp .eq 5, 3), (656, .iconst 0, 1), (657, .ireturn, 1), (658, .iload 5, 2), (660, .ifCond .ne 15, 3), (663, .aload_n 3, 1), (664, .iconst 0, 1), (665, .laload, 1)]
set_option maxRecDepth 100000 in
theorem xd_L_law_5 : xchk1 cL_law xk_L_law_5 = true := xwalk_of 595 (by decide +kernel)
set_option maxRecDepth 100000 in
def xk_L_law_6 : List (Nat × Instr × Nat) := [(666, .iload 6, 2), (668, .i2l, 1), (669, .lcmp, 1), (670, .ifCond .eq 5, 3), (673, .iconst 0, 1), (674, .ireturn, 1), (675, .goto 2791, 3), (678, .aload_n 1, 1), (679, .aload_n 0, 1), (680, .iload 4, 2), (682, .iconst 1, 1), (683, .iadd, 1), (684, .iaload, 1), (685, .aload_n 0, 1), (686, .iload 4, 2), (688, .iconst 2, 1), (689, .iadd, 1), (690, .iaload, 1), (691, .aload_n 3, 1), (692, .invokestatic 190, 3), (695, .istore 5, 2), (697, .aload_n 2, 1), (698, .aload_n 0, 1), (699, .iload 4, 2), (701, .iconst 1, 1), (702, .iadd, 1), (703, .iaload, 1), (704, .aload_n 0, 1), (705, .iload 4, 2), (707, .iconst 2, 1), (708, .iadd, 1), (709, .iaload, 1), (710, .invokevirtual 193, 3), (713, .istore 6, 2), (715, .aload_n 2, 1), (716, .invokevirtual 168, 3), (719, .iload 5, 2), (721, .if_icmp .eq 5, 3), (724, .iconst 0, 1), (725, .ireturn, 1), (726, .iload 5, 2), (728, .ifCond .ne 15, 3), (731, .aload_n 3, 1), (732, .iconst 0, 1), (733, .laload, 1)]
set_option maxRecDepth 100000 in
theorem xd_L_law_6 : xchk1 cL_law xk_L_law_6 = true := xwalk_of 666 (by decide +kernel)
set_option maxRecDepth 100000 in
def xk_L_law_7 : List (Nat × Instr × Nat) := [(734, .iload 6, 2), (736, .i2l, 1), (737, .lcmp, 1), (738, .ifCond .eq 5, 3), (741, .iconst 0, 1), (742, .ireturn, 1), (743, .goto 2723, 3), (746, .aload_n 1, 1), (747, .aload_n 0, 1), (748, .iload 4, 2), (750, .iconst 1, 1), (751, .iadd, 1), (752, .iaload, 1), (753, .aload_n 0, 1), (754, .iload 4, 2), (756, .iconst 2, 1), (757, .iadd, 1), (758, .iaload, 1), (759, .aload_n 0, 1), (760, .iload 4, 2), (762, .iconst 3, 1), (763, .iadd, 1), (764, .iaload, 1), (765, .aload_n 0, 1), (766, .iload 4, 2), (768, .iconst 4, 1), (769, .iadd, 1), (770, .iaload, 1), (771, .aload_n 3, 1), (772, .invokestatic 194, 3), (775, .istore 5, 2), (777, .aload_n 2, 1), (778, .aload_n 0, 1), (779, .iload 4, 2), (781, .iconst 1, 1), (782, .iadd, 1), (783, .iaload, 1), (784, .aload_n 0, 1), (785, .iload 4, 2), (787, .iconst 2, 1), (788, .iadd, 1), (789, .iaload, 1), (790, .aload_n 0, 1), (791, .iload 4, 2), (793, .iconst 3, 1)]
set_option maxRecDepth 100000 in
theorem xd_L_law_7 : xchk1 cL_law xk_L_law_7 = true := xwalk_of 734 (by decide +kernel)
set_option maxRecDepth 100000 in
def xk_L_law_8 : List (Nat × Instr × Nat) := [(794, .iadd, 1), (795, .iaload, 1), (796, .aload_n 0, 1), (797, .iload 4, 2), (799, .iconst 4, 1), (800, .iadd, 1), (801, .iaload, 1), (802, .invokevirtual 197, 3), (805, .istore 6, 2), (807, .aload_n 2, 1), (808, .invokevirtual 168, 3), (811, .iload 5, 2), (813, .if_icmp .eq 5, 3), (816, .iconst 0, 1), (817, .ireturn, 1), (818, .iload 5, 2), (820, .ifCond .ne 15, 3), (823, .aload_n 3, 1), (824, .iconst 0, 1), (825, .laload, 1), (826, .iload 6, 2), (828, .i2l, 1), (829, .lcmp, 1), (830, .ifCond .eq 5, 3), (833, .iconst 0, 1), (834, .ireturn, 1), (835, .goto 2631, 3), (838, .aload_n 1, 1), (839, .aload_n 0, 1), (840, .iload 4, 2), (842, .iconst 1, 1), (843, .iadd, 1), (844, .iaload, 1), (845, .aload_n 0, 1), (846, .iload 4, 2), (848, .iconst 2, 1), (849, .iadd, 1), (850, .iaload, 1), (851, .aload_n 3, 1), (852, .invokestatic 198, 3), (855, .istore 5, 2), (857, .aload_n 2, 1), (858, .aload_n 0, 1), (859, .iload 4, 2), (861, .iconst 1, 1)]
set_option maxRecDepth 100000 in
theorem xd_L_law_8 : xchk1 cL_law xk_L_law_8 = true := xwalk_of 794 (by decide +kernel)
set_option maxRecDepth 100000 in
def xk_L_law_9 : List (Nat × Instr × Nat) := [(862, .iadd, 1), (863, .iaload, 1), (864, .aload_n 0, 1), (865, .iload 4, 2), (867, .iconst 2, 1), (868, .iadd, 1), (869, .iaload, 1), (870, .invokevirtual 200, 3), (873, .istore 6, 2), (875, .aload_n 2, 1), (876, .invokevirtual 168, 3), (879, .iload 5, 2), (881, .if_icmp .eq 5, 3), (884, .iconst 0, 1), (885, .ireturn, 1), (886, .iload 5, 2), (888, .ifCond .ne 15, 3), (891, .aload_n 3, 1), (892, .iconst 0, 1), (893, .laload, 1), (894, .iload 6, 2), (896, .i2l, 1), (897, .lcmp, 1), (898, .ifCond .eq 5, 3), (901, .iconst 0, 1), (902, .ireturn, 1), (903, .goto 2563, 3), (906, .aload_n 1, 1), (907, .aload_n 0, 1), (908, .iload 4, 2), (910, .iconst 1, 1), (911, .iadd, 1), (912, .iaload, 1), (913, .aload_n 3, 1), (914, .invokestatic 201, 3), (917, .istore 5, 2), (919, .aload_n 2, 1), (920, .aload_n 0, 1), (921, .iload 4, 2), (923, .iconst 1, 1), (924, .iadd, 1), (925, .iaload, 1), (926, .invokevirtual 204, 3), (929, .istore 6, 2), (931, .aload_n 2, 1)]
set_option maxRecDepth 100000 in
theorem xd_L_law_9 : xchk1 cL_law xk_L_law_9 = true := xwalk_of 862 (by decide +kernel)
set_option maxRecDepth 100000 in
def xk_L_law_10 : List (Nat × Instr × Nat) := [(932, .invokevirtual 168, 3), (935, .iload 5, 2), (937, .if_icmp .eq 5, 3), (940, .iconst 0, 1), (941, .ireturn, 1), (942, .iload 5, 2), (944, .ifCond .ne 15, 3), (947, .aload_n 3, 1), (948, .iconst 0, 1), (949, .laload, 1), (950, .iload 6, 2), (952, .i2l, 1), (953, .lcmp, 1), (954, .ifCond .eq 5, 3), (957, .iconst 0, 1), (958, .ireturn, 1), (959, .goto 2507, 3), (962, .aload_n 1, 1), (963, .aload_n 0, 1), (964, .iload 4, 2), (966, .iconst 1, 1), (967, .iadd, 1), (968, .iaload, 1), (969, .aload_n 3, 1), (970, .invokestatic 205, 3), (973, .istore 5, 2), (975, .aload_n 2, 1), (976, .aload_n 0, 1), (977, .iload 4, 2), (979, .iconst 1, 1), (980, .iadd, 1), (981, .iaload, 1), (982, .invokevirtual 207, 3), (985, .istore 6, 2), (987, .aload_n 2, 1), (988, .invokevirtual 168, 3), (991, .iload 5, 2), (993, .if_icmp .eq 5, 3), (996, .iconst 0, 1), (997, .ireturn, 1), (998, .iload 5, 2), (1000, .ifCond .ne 15, 3), (1003, .aload_n 3, 1), (1004, .iconst 0, 1), (1005, .laload, 1)]
set_option maxRecDepth 100000 in
theorem xd_L_law_10 : xchk1 cL_law xk_L_law_10 = true := xwalk_of 932 (by decide +kernel)
set_option maxRecDepth 100000 in
def xk_L_law_11 : List (Nat × Instr × Nat) := [(1006, .iload 6, 2), (1008, .i2l, 1), (1009, .lcmp, 1), (1010, .ifCond .eq 5, 3), (1013, .iconst 0, 1), (1014, .ireturn, 1), (1015, .goto 2451, 3), (1018, .aload_n 1, 1), (1019, .aload_n 0, 1), (1020, .iload 4, 2), (1022, .iconst 1, 1), (1023, .iadd, 1), (1024, .iaload, 1), (1025, .aload_n 0, 1), (1026, .iload 4, 2), (1028, .iconst 2, 1), (1029, .iadd, 1), (1030, .iaload, 1), (1031, .aload_n 3, 1), (1032, .invokestatic 208, 3), (1035, .istore 5, 2), (1037, .aload_n 2, 1), (1038, .aload_n 0, 1), (1039, .iload 4, 2), (1041, .iconst 1, 1), (1042, .iadd, 1), (1043, .iaload, 1), (1044, .aload_n 0, 1), (1045, .iload 4, 2), (1047, .iconst 2, 1), (1048, .iadd, 1), (1049, .iaload, 1), (1050, .invokevirtual 210, 3), (1053, .istore 6, 2), (1055, .aload_n 2, 1), (1056, .invokevirtual 168, 3), (1059, .iload 5, 2), (1061, .if_icmp .eq 5, 3), (1064, .iconst 0, 1), (1065, .ireturn, 1), (1066, .iload 5, 2), (1068, .ifCond .ne 15, 3), (1071, .aload_n 3, 1), (1072, .iconst 0, 1), (1073, .laload, 1)]
set_option maxRecDepth 100000 in
theorem xd_L_law_11 : xchk1 cL_law xk_L_law_11 = true := xwalk_of 1006 (by decide +kernel)
set_option maxRecDepth 100000 in
def xk_L_law_12 : List (Nat × Instr × Nat) := [(1074, .iload 6, 2), (1076, .i2l, 1), (1077, .lcmp, 1), (1078, .ifCond .eq 5, 3), (1081, .iconst 0, 1), (1082, .ireturn, 1), (1083, .goto 2383, 3), (1086, .aload_n 1, 1), (1087, .aload_n 0, 1), (1088, .iload 4, 2), (1090, .iconst 1, 1), (1091, .iadd, 1), (1092, .iaload, 1), (1093, .aload_n 3, 1), (1094, .invokestatic 211, 3), (1097, .istore 5, 2), (1099, .aload_n 2, 1), (1100, .aload_n 0, 1), (1101, .iload 4, 2), (1103, .iconst 1, 1), (1104, .iadd, 1), (1105, .iaload, 1), (1106, .invokevirtual 213, 3), (1109, .istore 6, 2), (1111, .aload_n 2, 1), (1112, .invokevirtual 168, 3), (1115, .iload 5, 2), (1117, .if_icmp .eq 5, 3), (1120, .iconst 0, 1), (1121, .ireturn, 1), (1122, .iload 5, 2), (1124, .ifCond .ne 15, 3), (1127, .aload_n 3, 1), (1128, .iconst 0, 1), (1129, .laload, 1), (1130, .iload 6, 2), (1132, .i2l, 1), (1133, .lcmp, 1), (1134, .ifCond .eq 5, 3), (1137, .iconst 0, 1), (1138, .ireturn, 1), (1139, .goto 2327, 3), (1142, .aload_n 1, 1), (1143, .aload_n 0, 1), (1144, .iload 4, 2)]
set_option maxRecDepth 100000 in
theorem xd_L_law_12 : xchk1 cL_law xk_L_law_12 = true := xwalk_of 1074 (by decide +kernel)
set_option maxRecDepth 100000 in
def xk_L_law_13 : List (Nat × Instr × Nat) := [(1146, .iconst 1, 1), (1147, .iadd, 1), (1148, .iaload, 1), (1149, .aload_n 3, 1), (1150, .invokestatic 214, 3), (1153, .istore 5, 2), (1155, .aload_n 2, 1), (1156, .aload_n 0, 1), (1157, .iload 4, 2), (1159, .iconst 1, 1), (1160, .iadd, 1), (1161, .iaload, 1), (1162, .invokevirtual 216, 3), (1165, .istore 6, 2), (1167, .aload_n 2, 1), (1168, .invokevirtual 168, 3), (1171, .iload 5, 2), (1173, .if_icmp .eq 5, 3), (1176, .iconst 0, 1), (1177, .ireturn, 1), (1178, .iload 5, 2), (1180, .ifCond .ne 15, 3), (1183, .aload_n 3, 1), (1184, .iconst 0, 1), (1185, .laload, 1), (1186, .iload 6, 2), (1188, .i2l, 1), (1189, .lcmp, 1), (1190, .ifCond .eq 5, 3), (1193, .iconst 0, 1), (1194, .ireturn, 1), (1195, .goto 2271, 3), (1198, .aload_n 1, 1), (1199, .aload_n 3, 1), (1200, .invokestatic 217, 3), (1203, .istore 5, 2), (1205, .aload_n 2, 1), (1206, .invokevirtual 219, 3), (1209, .istore 6, 2), (1211, .aload_n 2, 1), (1212, .invokevirtual 168, 3), (1215, .iload 5, 2), (1217, .if_icmp .eq 5, 3), (1220, .iconst 0, 1), (1221, .ireturn, 1)]
set_option maxRecDepth 100000 in
theorem xd_L_law_13 : xchk1 cL_law xk_L_law_13 = true := xwalk_of 1146 (by decide +kernel)
set_option maxRecDepth 100000 in
def xk_L_law_14 : List (Nat × Instr × Nat) := [(1222, .iload 5, 2), (1224, .ifCond .ne 15, 3), (1227, .aload_n 3, 1), (1228, .iconst 0, 1), (1229, .laload, 1), (1230, .iload 6, 2), (1232, .i2l, 1), (1233, .lcmp, 1), (1234, .ifCond .eq 5, 3), (1237, .iconst 0, 1), (1238, .ireturn, 1), (1239, .goto 2227, 3), (1242, .aload_n 1, 1), (1243, .aload_n 0, 1), (1244, .iload 4, 2), (1246, .iconst 1, 1), (1247, .iadd, 1), (1248, .iaload, 1), (1249, .aload_n 3, 1), (1250, .invokestatic 220, 3), (1253, .istore 5, 2), (1255, .aload_n 2, 1), (1256, .aload_n 0, 1), (1257, .iload 4, 2), (1259, .iconst 1, 1), (1260, .iadd, 1), (1261, .iaload, 1), (1262, .invokevirtual 222, 3), (1265, .istore 6, 2), (1267, .aload_n 2, 1), (1268, .invokevirtual 168, 3), (1271, .iload 5, 2), (1273, .if_icmp .eq 5, 3), (1276, .iconst 0, 1), (1277, .ireturn, 1), (1278, .iload 5, 2), (1280, .ifCond .ne 15, 3), (1283, .aload_n 3, 1), (1284, .iconst 0, 1), (1285, .laload, 1), (1286, .iload 6, 2), (1288, .i2l, 1), (1289, .lcmp, 1), (1290, .ifCond .eq 5, 3), (1293, .iconst 0, 1)]
set_option maxRecDepth 100000 in
theorem xd_L_law_14 : xchk1 cL_law xk_L_law_14 = true := xwalk_of 1222 (by decide +kernel)
set_option maxRecDepth 100000 in
def xk_L_law_15 : List (Nat × Instr × Nat) := [(1294, .ireturn, 1), (1295, .goto 2171, 3), (1298, .aload_n 1, 1), (1299, .aload_n 0, 1), (1300, .iload 4, 2), (1302, .iconst 1, 1), (1303, .iadd, 1), (1304, .iaload, 1), (1305, .aload_n 0, 1), (1306, .iload 4, 2), (1308, .iconst 2, 1), (1309, .iadd, 1), (1310, .iaload, 1), (1311, .ifCond .eq 7, 3), (1314, .iconst 1, 1), (1315, .goto 4, 3), (1318, .iconst 0, 1), (1319, .aload_n 3, 1), (1320, .invokestatic 223, 3), (1323, .istore 5, 2), (1325, .aload_n 2, 1), (1326, .aload_n 0, 1), (1327, .iload 4, 2), (1329, .iconst 1, 1), (1330, .iadd, 1), (1331, .iaload, 1), (1332, .aload_n 0, 1), (1333, .iload 4, 2), (1335, .iconst 2, 1), (1336, .iadd, 1), (1337, .iaload, 1), (1338, .ifCond .eq 7, 3), (1341, .iconst 1, 1), (1342, .goto 4, 3), (1345, .iconst 0, 1), (1346, .invokevirtual 226, 3), (1349, .istore 6, 2), (1351, .aload_n 2, 1), (1352, .invokevirtual 168, 3), (1355, .iload 5, 2), (1357, .if_icmp .eq 5, 3), (1360, .iconst 0, 1), (1361, .ireturn, 1), (1362, .iload 5, 2), (1364, .ifCond .ne 15, 3)]
set_option maxRecDepth 100000 in
theorem xd_L_law_15 : xchk1 cL_law xk_L_law_15 = true := xwalk_of 1294 (by decide +kernel)
set_option maxRecDepth 100000 in
def xk_L_law_16 : List (Nat × Instr × Nat) := [(1367, .aload_n 3, 1), (1368, .iconst 0, 1), (1369, .laload, 1), (1370, .iload 6, 2), (1372, .i2l, 1), (1373, .lcmp, 1), (1374, .ifCond .eq 5, 3), (1377, .iconst 0, 1), (1378, .ireturn, 1), (1379, .goto 2087, 3), (1382, .aload_n 1, 1), (1383, .aload_n 0, 1), (1384, .iload 4, 2), (1386, .iconst 1, 1), (1387, .iadd, 1), (1388, .iaload, 1), (1389, .aload_n 3, 1), (1390, .invokestatic 227, 3), (1393, .istore 5, 2), (1395, .aload_n 2, 1), (1396, .aload_n 0, 1), (1397, .iload 4, 2), (1399, .iconst 1, 1), (1400, .iadd, 1), (1401, .iaload, 1), (1402, .invokevirtual 229, 3), (1405, .istore 6, 2), (1407, .aload_n 2, 1), (1408, .invokevirtual 168, 3), (1411, .iload 5, 2), (1413, .if_icmp .eq 5, 3), (1416, .iconst 0, 1), (1417, .ireturn, 1), (1418, .iload 5, 2), (1420, .ifCond .ne 15, 3), (1423, .aload_n 3, 1), (1424, .iconst 0, 1), (1425, .laload, 1), (1426, .iload 6, 2), (1428, .i2l, 1), (1429, .lcmp, 1), (1430, .ifCond .eq 5, 3), (1433, .iconst 0, 1), (1434, .ireturn, 1), (1435, .goto 2031, 3)]
set_option maxRecDepth 100000 in
theorem xd_L_law_16 : xchk1 cL_law xk_L_law_16 = true := xwalk_of 1367 (by decide +kernel)
set_option maxRecDepth 100000 in
def xk_L_law_17 : List (Nat × Instr × Nat) := [(1438, .aload_n 1, 1), (1439, .aload_n 0, 1), (1440, .iload 4, 2), (1442, .iconst 1, 1), (1443, .iadd, 1), (1444, .iaload, 1), (1445, .aload_n 3, 1), (1446, .invokestatic 230, 3), (1449, .istore 5, 2), (1451, .aload_n 2, 1), (1452, .aload_n 0, 1), (1453, .iload 4, 2), (1455, .iconst 1, 1), (1456, .iadd, 1), (1457, .iaload, 1), (1458, .invokevirtual 232, 3), (1461, .istore 6, 2), (1463, .aload_n 2, 1), (1464, .invokevirtual 168, 3), (1467, .iload 5, 2), (1469, .if_icmp .eq 5, 3), (1472, .iconst 0, 1), (1473, .ireturn, 1), (1474, .iload 5, 2), (1476, .ifCond .ne 15, 3), (1479, .aload_n 3, 1), (1480, .iconst 0, 1), (1481, .laload, 1), (1482, .iload 6, 2), (1484, .i2l, 1), (1485, .lcmp, 1), (1486, .ifCond .eq 5, 3), (1489, .iconst 0, 1), (1490, .ireturn, 1), (1491, .goto 1975, 3), (1494, .aload_n 1, 1), (1495, .aload_n 0, 1), (1496, .iload 4, 2), (1498, .iconst 1, 1), (1499, .iadd, 1), (1500, .iaload, 1), (1501, .ifCond .eq 7, 3), (1504, .iconst 1, 1), (1505, .goto 4, 3), (1508, .iconst 0, 1)]
set_option maxRecDepth 100000 in
theorem xd_L_law_17 : xchk1 cL_law xk_L_law_17 = true := xwalk_of 1438 (by decide +kernel)
set_option maxRecDepth 100000 in
def xk_L_law_18 : List (Nat × Instr × Nat) := [(1509, .invokevirtual 233, 3), (1512, .aload_n 2, 1), (1513, .aload_n 0, 1), (1514, .iload 4, 2), (1516, .iconst 1, 1), (1517, .iadd, 1), (1518, .iaload, 1), (1519, .ifCond .eq 7, 3), (1522, .iconst 1, 1), (1523, .goto 4, 3), (1526, .iconst 0, 1), (1527, .invokevirtual 237, 3), (1530, .if_icmp .eq 1936, 3), (1533, .iconst 0, 1), (1534, .ireturn, 1), (1535, .aload_n 1, 1), (1536, .aload_n 0, 1), (1537, .iload 4, 2), (1539, .iconst 1, 1), (1540, .iadd, 1), (1541, .iaload, 1), (1542, .aload_n 3, 1), (1543, .invokestatic 238, 3), (1546, .istore 5, 2), (1548, .aload_n 2, 1), (1549, .aload_n 0, 1), (1550, .iload 4, 2), (1552, .iconst 1, 1), (1553, .iadd, 1), (1554, .iaload, 1), (1555, .invokevirtual 240, 3), (1558, .istore 6, 2), (1560, .aload_n 2, 1), (1561, .invokevirtual 168, 3), (1564, .iload 5, 2), (1566, .if_icmp .eq 5, 3), (1569, .iconst 0, 1), (1570, .ireturn, 1), (1571, .iload 5, 2), (1573, .ifCond .ne 15, 3), (1576, .aload_n 3, 1), (1577, .iconst 0, 1), (1578, .laload, 1), (1579, .iload 6, 2), (1581, .i2l, 1)]
set_option maxRecDepth 100000 in
theorem xd_L_law_18 : xchk1 cL_law xk_L_law_18 = true := xwalk_of 1509 (by decide +kernel)
set_option maxRecDepth 100000 in
def xk_L_law_19 : List (Nat × Instr × Nat) := [(1582, .lcmp, 1), (1583, .ifCond .eq 5, 3), (1586, .iconst 0, 1), (1587, .ireturn, 1), (1588, .goto 1878, 3), (1591, .aload_n 1, 1), (1592, .aload_n 0, 1), (1593, .iload 4, 2), (1595, .iconst 1, 1), (1596, .iadd, 1), (1597, .iaload, 1), (1598, .aload_n 3, 1), (1599, .invokestatic 241, 3), (1602, .istore 5, 2), (1604, .aload_n 2, 1), (1605, .aload_n 0, 1), (1606, .iload 4, 2), (1608, .iconst 1, 1), (1609, .iadd, 1), (1610, .iaload, 1), (1611, .invokevirtual 243, 3), (1614, .istore 6, 2), (1616, .aload_n 2, 1), (1617, .invokevirtual 168, 3), (1620, .iload 5, 2), (1622, .if_icmp .eq 5, 3), (1625, .iconst 0, 1), (1626, .ireturn, 1), (1627, .iload 5, 2), (1629, .ifCond .ne 22, 3), (1632, .aload_n 3, 1), (1633, .iconst 0, 1), (1634, .laload, 1), (1635, .iload 6, 2), (1637, .ifCond .eq 7, 3), (1640, .lconst 1, 1), (1641, .goto 4, 3), (1644, .lconst 0, 1), (1645, .lcmp, 1), (1646, .ifCond .eq 5, 3), (1649, .iconst 0, 1), (1650, .ireturn, 1), (1651, .goto 1815, 3), (1654, .aload_n 1, 1), (1655, .invokevirtual 244, 3)]
set_option maxRecDepth 100000 in
theorem xd_L_law_19 : xchk1 cL_law xk_L_law_19 = true := xwalk_of 1582 (by decide +kernel)
set_option maxRecDepth 100000 in
def xk_L_law_20 : List (Nat × Instr × Nat) := [(1658, .aload_n 2, 1), (1659, .invokevirtual 247, 3), (1662, .if_icmp .eq 1804, 3), (1665, .iconst 0, 1), (1666, .ireturn, 1), (1667, .aload_n 1, 1), (1668, .aload_n 0, 1), (1669, .iload 4, 2), (1671, .iconst 1, 1), (1672, .iadd, 1), (1673, .iaload, 1), (1674, .aload_n 0, 1), (1675, .iload 4, 2), (1677, .iconst 2, 1), (1678, .iadd, 1), (1679, .iaload, 1), (1680, .aload_n 3, 1), (1681, .invokestatic 248, 3), (1684, .istore 5, 2), (1686, .aload_n 2, 1), (1687, .aload_n 0, 1), (1688, .iload 4, 2), (1690, .iconst 1, 1), (1691, .iadd, 1), (1692, .iaload, 1), (1693, .aload_n 0, 1), (1694, .iload 4, 2), (1696, .iconst 2, 1), (1697, .iadd, 1), (1698, .iaload, 1), (1699, .invokevirtual 250, 3), (1702, .istore 6, 2), (1704, .aload_n 2, 1), (1705, .invokevirtual 168, 3), (1708, .iload 5, 2), (1710, .if_icmp .eq 5, 3), (1713, .iconst 0, 1), (1714, .ireturn, 1), (1715, .iload 5, 2), (1717, .ifCond .ne 15, 3), (1720, .aload_n 3, 1), (1721, .iconst 0, 1), (1722, .laload, 1), (1723, .iload 6, 2), (1725, .i2l, 1)]
set_option maxRecDepth 100000 in
theorem xd_L_law_20 : xchk1 cL_law xk_L_law_20 = true := xwalk_of 1658 (by decide +kernel)
set_option maxRecDepth 100000 in
def xk_L_law_21 : List (Nat × Instr × Nat) := [(1726, .lcmp, 1), (1727, .ifCond .eq 5, 3), (1730, .iconst 0, 1), (1731, .ireturn, 1), (1732, .goto 1734, 3), (1735, .aload_n 1, 1), (1736, .invokevirtual 251, 3), (1739, .aload_n 2, 1), (1740, .invokevirtual 254, 3), (1743, .if_icmp .eq 1723, 3), (1746, .iconst 0, 1), (1747, .ireturn, 1), (1748, .aload_n 1, 1), (1749, .aload_n 0, 1), (1750, .iload 4, 2), (1752, .iconst 1, 1), (1753, .iadd, 1), (1754, .iaload, 1), (1755, .aload_n 3, 1), (1756, .invokestatic 255, 3), (1759, .istore 5, 2), (1761, .aload_n 2, 1), (1762, .aload_n 0, 1), (1763, .iload 4, 2), (1765, .iconst 1, 1), (1766, .iadd, 1), (1767, .iaload, 1), (1768, .invokevirtual 257, 3), (1771, .istore 6, 2), (1773, .aload_n 2, 1), (1774, .invokevirtual 168, 3), (1777, .iload 5, 2), (1779, .if_icmp .eq 5, 3), (1782, .iconst 0, 1), (1783, .ireturn, 1), (1784, .iload 5, 2), (1786, .ifCond .ne 15, 3), (1789, .aload_n 3, 1), (1790, .iconst 0, 1), (1791, .laload, 1), (1792, .iload 6, 2), (1794, .i2l, 1), (1795, .lcmp, 1), (1796, .ifCond .eq 5, 3), (1799, .iconst 0, 1)]
set_option maxRecDepth 100000 in
theorem xd_L_law_21 : xchk1 cL_law xk_L_law_21 = true := xwalk_of 1726 (by decide +kernel)
set_option maxRecDepth 100000 in
def xk_L_law_22 : List (Nat × Instr × Nat) := [(1800, .ireturn, 1), (1801, .goto 1665, 3), (1804, .aload_n 1, 1), (1805, .aload_n 0, 1), (1806, .iload 4, 2), (1808, .iconst 1, 1), (1809, .iadd, 1), (1810, .iaload, 1), (1811, .aload_n 3, 1), (1812, .invokestatic 258, 3), (1815, .istore 5, 2), (1817, .aload_n 2, 1), (1818, .aload_n 0, 1), (1819, .iload 4, 2), (1821, .iconst 1, 1), (1822, .iadd, 1), (1823, .iaload, 1), (1824, .invokevirtual 260, 3), (1827, .istore 6, 2), (1829, .aload_n 2, 1), (1830, .invokevirtual 168, 3), (1833, .iload 5, 2), (1835, .if_icmp .eq 5, 3), (1838, .iconst 0, 1), (1839, .ireturn, 1), (1840, .iload 5, 2), (1842, .ifCond .ne 15, 3), (1845, .aload_n 3, 1), (1846, .iconst 0, 1), (1847, .laload, 1), (1848, .iload 6, 2), (1850, .i2l, 1), (1851, .lcmp, 1), (1852, .ifCond .eq 5, 3), (1855, .iconst 0, 1), (1856, .ireturn, 1), (1857, .goto 1609, 3), (1860, .aload_n 1, 1), (1861, .invokevirtual 261, 3), (1864, .aload_n 2, 1), (1865, .invokevirtual 264, 3), (1868, .if_icmp .eq 1598, 3), (1871, .iconst 0, 1), (1872, .ireturn, 1), (1873, .aload_n 1, 1)]
set_option maxRecDepth 100000 in
theorem xd_L_law_22 : xchk1 cL_law xk_L_law_22 = true := xwalk_of 1800 (by decide +kernel)
set_option maxRecDepth 100000 in
def xk_L_law_23 : List (Nat × Instr × Nat) := [(1874, .aload_n 0, 1), (1875, .iload 4, 2), (1877, .iconst 1, 1), (1878, .iadd, 1), (1879, .iaload, 1), (1880, .aload_n 0, 1), (1881, .iload 4, 2), (1883, .iconst 2, 1), (1884, .iadd, 1), (1885, .iaload, 1), (1886, .aload_n 3, 1), (1887, .invokestatic 265, 3), (1890, .istore 5, 2), (1892, .aload_n 2, 1), (1893, .aload_n 0, 1), (1894, .iload 4, 2), (1896, .iconst 1, 1), (1897, .iadd, 1), (1898, .iaload, 1), (1899, .aload_n 0, 1), (1900, .iload 4, 2), (1902, .iconst 2, 1), (1903, .iadd, 1), (1904, .iaload, 1), (1905, .invokevirtual 267, 3), (1908, .istore 6, 2), (1910, .aload_n 2, 1), (1911, .invokevirtual 168, 3), (1914, .iload 5, 2), (1916, .if_icmp .eq 5, 3), (1919, .iconst 0, 1), (1920, .ireturn, 1), (1921, .iload 5, 2), (1923, .ifCond .ne 15, 3), (1926, .aload_n 3, 1), (1927, .iconst 0, 1), (1928, .laload, 1), (1929, .iload 6, 2), (1931, .i2l, 1), (1932, .lcmp, 1), (1933, .ifCond .eq 5, 3), (1936, .iconst 0, 1), (1937, .ireturn, 1), (1938, .goto 1528, 3), (1941, .aload_n 1, 1)]
set_option maxRecDepth 100000 in
theorem xd_L_law_23 : xchk1 cL_law xk_L_law_23 = true := xwalk_of 1874 (by decide +kernel)
set_option maxRecDepth 100000 in
def xk_L_law_24 : List (Nat × Instr × Nat) := [(1942, .invokevirtual 268, 3), (1945, .aload_n 2, 1), (1946, .invokevirtual 271, 3), (1949, .if_icmp .eq 1517, 3), (1952, .iconst 0, 1), (1953, .ireturn, 1), (1954, .aload_n 1, 1), (1955, .aload_n 0, 1), (1956, .iload 4, 2), (1958, .iconst 1, 1), (1959, .iadd, 1), (1960, .iaload, 1), (1961, .aload_n 0, 1), (1962, .iload 4, 2), (1964, .iconst 2, 1), (1965, .iadd, 1), (1966, .iaload, 1), (1967, .aload_n 3, 1), (1968, .invokestatic 272, 3), (1971, .istore 5, 2), (1973, .aload_n 2, 1), (1974, .aload_n 0, 1), (1975, .iload 4, 2), (1977, .iconst 1, 1), (1978, .iadd, 1), (1979, .iaload, 1), (1980, .aload_n 0, 1), (1981, .iload 4, 2), (1983, .iconst 2, 1), (1984, .iadd, 1), (1985, .iaload, 1), (1986, .invokevirtual 274, 3), (1989, .istore 6, 2), (1991, .aload_n 2, 1), (1992, .invokevirtual 168, 3), (1995, .iload 5, 2), (1997, .if_icmp .eq 5, 3), (2000, .iconst 0, 1), (2001, .ireturn, 1), (2002, .iload 5, 2), (2004, .ifCond .ne 15, 3), (2007, .aload_n 3, 1), (2008, .iconst 0, 1), (2009, .laload, 1), (2010, .iload 6, 2)]
set_option maxRecDepth 100000 in
theorem xd_L_law_24 : xchk1 cL_law xk_L_law_24 = true := xwalk_of 1942 (by decide +kernel)
set_option maxRecDepth 100000 in
def xk_L_law_25 : List (Nat × Instr × Nat) := [(2012, .i2l, 1), (2013, .lcmp, 1), (2014, .ifCond .eq 5, 3), (2017, .iconst 0, 1), (2018, .ireturn, 1), (2019, .goto 1447, 3), (2022, .aload_n 1, 1), (2023, .aload_n 0, 1), (2024, .iload 4, 2), (2026, .iconst 1, 1), (2027, .iadd, 1), (2028, .iaload, 1), (2029, .aload_n 0, 1), (2030, .iload 4, 2), (2032, .iconst 2, 1), (2033, .iadd, 1), (2034, .iaload, 1), (2035, .aload_n 3, 1), (2036, .invokestatic 275, 3), (2039, .istore 5, 2), (2041, .aload_n 2, 1), (2042, .aload_n 0, 1), (2043, .iload 4, 2), (2045, .iconst 1, 1), (2046, .iadd, 1), (2047, .iaload, 1), (2048, .aload_n 0, 1), (2049, .iload 4, 2), (2051, .iconst 2, 1), (2052, .iadd, 1), (2053, .iaload, 1), (2054, .invokevirtual 277, 3), (2057, .istore 6, 2), (2059, .aload_n 2, 1), (2060, .invokevirtual 168, 3), (2063, .iload 5, 2), (2065, .if_icmp .eq 5, 3), (2068, .iconst 0, 1), (2069, .ireturn, 1), (2070, .iload 5, 2), (2072, .ifCond .ne 15, 3), (2075, .aload_n 3, 1), (2076, .iconst 0, 1), (2077, .laload, 1), (2078, .iload 6, 2)]
set_option maxRecDepth 100000 in
theorem xd_L_law_25 : xchk1 cL_law xk_L_law_25 = true := xwalk_of 2012 (by decide +kernel)
set_option maxRecDepth 100000 in
def xk_L_law_26 : List (Nat × Instr × Nat) := [(2080, .i2l, 1), (2081, .lcmp, 1), (2082, .ifCond .eq 5, 3), (2085, .iconst 0, 1), (2086, .ireturn, 1), (2087, .goto 1379, 3), (2090, .aload_n 1, 1), (2091, .aload_n 0, 1), (2092, .iload 4, 2), (2094, .iconst 1, 1), (2095, .iadd, 1), (2096, .iaload, 1), (2097, .aload_n 3, 1), (2098, .invokestatic 278, 3), (2101, .istore 5, 2), (2103, .aload_n 2, 1), (2104, .aload_n 0, 1), (2105, .iload 4, 2), (2107, .iconst 1, 1), (2108, .iadd, 1), (2109, .iaload, 1), (2110, .invokevirtual 280, 3), (2113, .istore 6, 2), (2115, .aload_n 2, 1), (2116, .invokevirtual 168, 3), (2119, .iload 5, 2), (2121, .if_icmp .eq 5, 3), (2124, .iconst 0, 1), (2125, .ireturn, 1), (2126, .iload 5, 2), (2128, .ifCond .ne 15, 3), (2131, .aload_n 3, 1), (2132, .iconst 0, 1), (2133, .laload, 1), (2134, .iload 6, 2), (2136, .i2l, 1), (2137, .lcmp, 1), (2138, .ifCond .eq 5, 3), (2141, .iconst 0, 1), (2142, .ireturn, 1), (2143, .goto 1323, 3), (2146, .aload_n 1, 1), (2147, .aload_n 0, 1), (2148, .iload 4, 2), (2150, .iconst 1, 1)]
set_option maxRecDepth 100000 in
theorem xd_L_law_26 : xchk1 cL_law xk_L_law_26 = true := xwalk_of 2080 (by decide +kernel)
set_option maxRecDepth 100000 in
def xk_L_law_27 : List (Nat × Instr × Nat) := [(2151, .iadd, 1), (2152, .iaload, 1), (2153, .aload_n 0, 1), (2154, .iload 4, 2), (2156, .iconst 2, 1), (2157, .iadd, 1), (2158, .iaload, 1), (2159, .aload_n 3, 1), (2160, .invokestatic 281, 3), (2163, .istore 5, 2), (2165, .aload_n 2, 1), (2166, .aload_n 0, 1), (2167, .iload 4, 2), (2169, .iconst 1, 1), (2170, .iadd, 1), (2171, .iaload, 1), (2172, .aload_n 0, 1), (2173, .iload 4, 2), (2175, .iconst 2, 1), (2176, .iadd, 1), (2177, .iaload, 1), (2178, .invokevirtual 283, 3), (2181, .istore 6, 2), (2183, .aload_n 2, 1), (2184, .invokevirtual 168, 3), (2187, .iload 5, 2), (2189, .if_icmp .eq 5, 3), (2192, .iconst 0, 1), (2193, .ireturn, 1), (2194, .iload 5, 2), (2196, .ifCond .ne 15, 3), (2199, .aload_n 3, 1), (2200, .iconst 0, 1), (2201, .laload, 1), (2202, .iload 6, 2), (2204, .i2l, 1), (2205, .lcmp, 1), (2206, .ifCond .eq 5, 3), (2209, .iconst 0, 1), (2210, .ireturn, 1), (2211, .goto 1255, 3), (2214, .aload_n 1, 1), (2215, .aload_n 0, 1), (2216, .iload 4, 2), (2218, .iconst 1, 1)]
set_option maxRecDepth 100000 in
theorem xd_L_law_27 : xchk1 cL_law xk_L_law_27 = true := xwalk_of 2151 (by decide +kernel)
set_option maxRecDepth 100000 in
def xk_L_law_28 : List (Nat × Instr × Nat) := [(2219, .iadd, 1), (2220, .iaload, 1), (2221, .aload_n 0, 1), (2222, .iload 4, 2), (2224, .iconst 2, 1), (2225, .iadd, 1), (2226, .iaload, 1), (2227, .aload_n 3, 1), (2228, .invokestatic 284, 3), (2231, .istore 5, 2), (2233, .aload_n 2, 1), (2234, .aload_n 0, 1), (2235, .iload 4, 2), (2237, .iconst 1, 1), (2238, .iadd, 1), (2239, .iaload, 1), (2240, .aload_n 0, 1), (2241, .iload 4, 2), (2243, .iconst 2, 1), (2244, .iadd, 1), (2245, .iaload, 1), (2246, .invokevirtual 286, 3), (2249, .istore 6, 2), (2251, .aload_n 2, 1), (2252, .invokevirtual 168, 3), (2255, .iload 5, 2), (2257, .if_icmp .eq 5, 3), (2260, .iconst 0, 1), (2261, .ireturn, 1), (2262, .iload 5, 2), (2264, .ifCond .ne 15, 3), (2267, .aload_n 3, 1), (2268, .iconst 0, 1), (2269, .laload, 1), (2270, .iload 6, 2), (2272, .i2l, 1), (2273, .lcmp, 1), (2274, .ifCond .eq 5, 3), (2277, .iconst 0, 1), (2278, .ireturn, 1), (2279, .goto 1187, 3), (2282, .aload_n 1, 1), (2283, .aload_n 0, 1), (2284, .iload 4, 2), (2286, .iconst 1, 1)]
set_option maxRecDepth 100000 in
theorem xd_L_law_28 : xchk1 cL_law xk_L_law_28 = true := xwalk_of 2219 (by decide +kernel)
set_option maxRecDepth 100000 in
def xk_L_law_29 : List (Nat × Instr × Nat) := [(2287, .iadd, 1), (2288, .iaload, 1), (2289, .aload_n 3, 1), (2290, .invokestatic 287, 3), (2293, .istore 5, 2), (2295, .aload_n 2, 1), (2296, .aload_n 0, 1), (2297, .iload 4, 2), (2299, .iconst 1, 1), (2300, .iadd, 1), (2301, .iaload, 1), (2302, .invokevirtual 289, 3), (2305, .istore 6, 2), (2307, .aload_n 2, 1), (2308, .invokevirtual 168, 3), (2311, .iload 5, 2), (2313, .if_icmp .eq 5, 3), (2316, .iconst 0, 1), (2317, .ireturn, 1), (2318, .iload 5, 2), (2320, .ifCond .ne 15, 3), (2323, .aload_n 3, 1), (2324, .iconst 0, 1), (2325, .laload, 1), (2326, .iload 6, 2), (2328, .i2l, 1), (2329, .lcmp, 1), (2330, .ifCond .eq 5, 3), (2333, .iconst 0, 1), (2334, .ireturn, 1), (2335, .goto 1131, 3), (2338, .aload_n 1, 1), (2339, .aload_n 3, 1), (2340, .invokestatic 290, 3), (2343, .istore 5, 2), (2345, .aload_n 2, 1), (2346, .invokevirtual 292, 3), (2349, .istore 6, 2), (2351, .aload_n 2, 1), (2352, .invokevirtual 168, 3), (2355, .iload 5, 2), (2357, .if_icmp .eq 5, 3), (2360, .iconst 0, 1), (2361, .ireturn, 1), (2362, .iload 5, 2)]
set_option maxRecDepth 100000 in
theorem xd_L_law_29 : xchk1 cL_law xk_L_law_29 = true := xwalk_of 2287 (by decide +kernel)
set_option maxRecDepth 100000 in
def xk_L_law_30 : List (Nat × Instr × Nat) := [(2364, .ifCond .ne 15, 3), (2367, .aload_n 3, 1), (2368, .iconst 0, 1), (2369, .laload, 1), (2370, .iload 6, 2), (2372, .i2l, 1), (2373, .lcmp, 1), (2374, .ifCond .eq 5, 3), (2377, .iconst 0, 1), (2378, .ireturn, 1), (2379, .goto 1087, 3), (2382, .aload_n 1, 1), (2383, .aload_n 0, 1), (2384, .iload 4, 2), (2386, .iconst 1, 1), (2387, .iadd, 1), (2388, .iaload, 1), (2389, .aload_n 0, 1), (2390, .iload 4, 2), (2392, .iconst 2, 1), (2393, .iadd, 1), (2394, .iaload, 1), (2395, .aload_n 0, 1), (2396, .iload 4, 2), (2398, .iconst 3, 1), (2399, .iadd, 1), (2400, .iaload, 1), (2401, .aload_n 0, 1), (2402, .iload 4, 2), (2404, .iconst 4, 1), (2405, .iadd, 1), (2406, .iaload, 1), (2407, .aload_n 3, 1), (2408, .invokestatic 293, 3), (2411, .istore 5, 2), (2413, .aload_n 2, 1), (2414, .aload_n 0, 1), (2415, .iload 4, 2), (2417, .iconst 1, 1), (2418, .iadd, 1), (2419, .iaload, 1), (2420, .aload_n 0, 1), (2421, .iload 4, 2), (2423, .iconst 2, 1), (2424, .iadd, 1)]
set_option maxRecDepth 100000 in
theorem xd_L_law_30 : xchk1 cL_law xk_L_law_30 = true := xwalk_of 2364 (by decide +kernel)
set_option maxRecDepth 100000 in
def xk_L_law_31 : List (Nat × Instr × Nat) := [(2425, .iaload, 1), (2426, .aload_n 0, 1), (2427, .iload 4, 2), (2429, .iconst 3, 1), (2430, .iadd, 1), (2431, .iaload, 1), (2432, .aload_n 0, 1), (2433, .iload 4, 2), (2435, .iconst 4, 1), (2436, .iadd, 1), (2437, .iaload, 1), (2438, .invokevirtual 295, 3), (2441, .istore 6, 2), (2443, .aload_n 2, 1), (2444, .invokevirtual 168, 3), (2447, .iload 5, 2), (2449, .if_icmp .eq 5, 3), (2452, .iconst 0, 1), (2453, .ireturn, 1), (2454, .iload 5, 2), (2456, .ifCond .ne 15, 3), (2459, .aload_n 3, 1), (2460, .iconst 0, 1), (2461, .laload, 1), (2462, .iload 6, 2), (2464, .i2l, 1), (2465, .lcmp, 1), (2466, .ifCond .eq 5, 3), (2469, .iconst 0, 1), (2470, .ireturn, 1), (2471, .goto 995, 3), (2474, .aload_n 1, 1), (2475, .aload_n 0, 1), (2476, .iload 4, 2), (2478, .iconst 1, 1), (2479, .iadd, 1), (2480, .iaload, 1), (2481, .aload_n 3, 1), (2482, .invokestatic 296, 3), (2485, .istore 5, 2), (2487, .aload_n 2, 1), (2488, .aload_n 0, 1), (2489, .iload 4, 2), (2491, .iconst 1, 1), (2492, .iadd, 1)]
set_option maxRecDepth 100000 in
theorem xd_L_law_31 : xchk1 cL_law xk_L_law_31 = true := xwalk_of 2425 (by decide +kernel)
set_option maxRecDepth 100000 in
def xk_L_law_32 : List (Nat × Instr × Nat) := [(2493, .iaload, 1), (2494, .invokevirtual 298, 3), (2497, .istore 6, 2), (2499, .aload_n 2, 1), (2500, .invokevirtual 168, 3), (2503, .iload 5, 2), (2505, .if_icmp .eq 5, 3), (2508, .iconst 0, 1), (2509, .ireturn, 1), (2510, .iload 5, 2), (2512, .ifCond .ne 15, 3), (2515, .aload_n 3, 1), (2516, .iconst 0, 1), (2517, .laload, 1), (2518, .iload 6, 2), (2520, .i2l, 1), (2521, .lcmp, 1), (2522, .ifCond .eq 5, 3), (2525, .iconst 0, 1), (2526, .ireturn, 1), (2527, .goto 939, 3), (2530, .aload_n 1, 1), (2531, .invokevirtual 299, 3), (2534, .aload_n 2, 1), (2535, .invokevirtual 302, 3), (2538, .if_icmp .eq 928, 3), (2541, .iconst 0, 1), (2542, .ireturn, 1), (2543, .aload_n 1, 1), (2544, .aload_n 0, 1), (2545, .iload 4, 2), (2547, .iconst 1, 1), (2548, .iadd, 1), (2549, .iaload, 1), (2550, .aload_n 0, 1), (2551, .iload 4, 2), (2553, .iconst 2, 1), (2554, .iadd, 1), (2555, .iaload, 1), (2556, .ifCond .eq 7, 3), (2559, .iconst 1, 1), (2560, .goto 4, 3), (2563, .iconst 0, 1), (2564, .aload_n 3, 1), (2565, .invokestatic 303, 3)]
set_option maxRecDepth 100000 in
theorem xd_L_law_32 : xchk1 cL_law xk_L_law_32 = true := xwalk_of 2493 (by decide +kernel)
set_option maxRecDepth 100000 in
def xk_L_law_33 : List (Nat × Instr × Nat) := [(2568, .istore 5, 2), (2570, .aload_n 2, 1), (2571, .aload_n 0, 1), (2572, .iload 4, 2), (2574, .iconst 1, 1), (2575, .iadd, 1), (2576, .iaload, 1), (2577, .aload_n 0, 1), (2578, .iload 4, 2), (2580, .iconst 2, 1), (2581, .iadd, 1), (2582, .iaload, 1), (2583, .ifCond .eq 7, 3), (2586, .iconst 1, 1), (2587, .goto 4, 3), (2590, .iconst 0, 1), (2591, .invokevirtual 305, 3), (2594, .istore 6, 2), (2596, .aload_n 2, 1), (2597, .invokevirtual 168, 3), (2600, .iload 5, 2), (2602, .if_icmp .eq 5, 3), (2605, .iconst 0, 1), (2606, .ireturn, 1), (2607, .iload 5, 2), (2609, .ifCond .ne 15, 3), (2612, .aload_n 3, 1), (2613, .iconst 0, 1), (2614, .laload, 1), (2615, .iload 6, 2), (2617, .i2l, 1), (2618, .lcmp, 1), (2619, .ifCond .eq 5, 3), (2622, .iconst 0, 1), (2623, .ireturn, 1), (2624, .goto 842, 3), (2627, .aload_n 1, 1), (2628, .aload_n 3, 1), (2629, .invokestatic 306, 3), (2632, .istore 5, 2), (2634, .aload_n 2, 1), (2635, .invokevirtual 308, 3), (2638, .istore 6, 2), (2640, .aload_n 2, 1), (2641, .invokevirtual 168, 3)]
set_option maxRecDepth 100000 in
theorem xd_L_law_33 : xchk1 cL_law xk_L_law_33 = true := xwalk_of 2568 (by decide +kernel)
set_option maxRecDepth 100000 in
def xk_L_law_34 : List (Nat × Instr × Nat) := [(2644, .iload 5, 2), (2646, .if_icmp .eq 5, 3), (2649, .iconst 0, 1), (2650, .ireturn, 1), (2651, .iload 5, 2), (2653, .ifCond .ne 15, 3), (2656, .aload_n 3, 1), (2657, .iconst 0, 1), (2658, .laload, 1), (2659, .iload 6, 2), (2661, .i2l, 1), (2662, .lcmp, 1), (2663, .ifCond .eq 5, 3), (2666, .iconst 0, 1), (2667, .ireturn, 1), (2668, .goto 798, 3), (2671, .aload_n 1, 1), (2672, .aload_n 0, 1), (2673, .iload 4, 2), (2675, .iconst 1, 1), (2676, .iadd, 1), (2677, .iaload, 1), (2678, .aload_n 3, 1), (2679, .invokestatic 309, 3), (2682, .istore 5, 2), (2684, .aload_n 2, 1), (2685, .aload_n 0, 1), (2686, .iload 4, 2), (2688, .iconst 1, 1), (2689, .iadd, 1), (2690, .iaload, 1), (2691, .invokevirtual 311, 3), (2694, .istore 6, 2), (2696, .aload_n 2, 1), (2697, .invokevirtual 168, 3), (2700, .iload 5, 2), (2702, .if_icmp .eq 5, 3), (2705, .iconst 0, 1), (2706, .ireturn, 1), (2707, .iload 5, 2), (2709, .ifCond .ne 15, 3), (2712, .aload_n 3, 1), (2713, .iconst 0, 1), (2714, .laload, 1), (2715, .iload 6, 2)]
set_option maxRecDepth 100000 in
theorem xd_L_law_34 : xchk1 cL_law xk_L_law_34 = true := xwalk_of 2644 (by decide +kernel)
set_option maxRecDepth 100000 in
def xk_L_law_35 : List (Nat × Instr × Nat) := [(2717, .i2l, 1), (2718, .lcmp, 1), (2719, .ifCond .eq 5, 3), (2722, .iconst 0, 1), (2723, .ireturn, 1), (2724, .goto 742, 3), (2727, .aload_n 1, 1), (2728, .aload_n 3, 1), (2729, .invokestatic 312, 3), (2732, .istore 5, 2), (2734, .aload_n 2, 1), (2735, .invokevirtual 314, 3), (2738, .istore 6, 2), (2740, .aload_n 2, 1), (2741, .invokevirtual 168, 3), (2744, .iload 5, 2), (2746, .if_icmp .eq 5, 3), (2749, .iconst 0, 1), (2750, .ireturn, 1), (2751, .iload 5, 2), (2753, .ifCond .ne 15, 3), (2756, .aload_n 3, 1), (2757, .iconst 0, 1), (2758, .laload, 1), (2759, .iload 6, 2), (2761, .i2l, 1), (2762, .lcmp, 1), (2763, .ifCond .eq 5, 3), (2766, .iconst 0, 1), (2767, .ireturn, 1), (2768, .goto 698, 3), (2771, .aload_n 1, 1), (2772, .aload_n 0, 1), (2773, .iload 4, 2), (2775, .iconst 1, 1), (2776, .iadd, 1), (2777, .iaload, 1), (2778, .aload_n 3, 1), (2779, .invokestatic 315, 3), (2782, .istore 5, 2), (2784, .aload_n 2, 1), (2785, .aload_n 0, 1), (2786, .iload 4, 2), (2788, .iconst 1, 1), (2789, .iadd, 1)]
set_option maxRecDepth 100000 in
theorem xd_L_law_35 : xchk1 cL_law xk_L_law_35 = true := xwalk_of 2717 (by decide +kernel)
set_option maxRecDepth 100000 in
def xk_L_law_36 : List (Nat × Instr × Nat) := [(2790, .iaload, 1), (2791, .invokevirtual 317, 3), (2794, .istore 6, 2), (2796, .aload_n 2, 1), (2797, .invokevirtual 168, 3), (2800, .iload 5, 2), (2802, .if_icmp .eq 5, 3), (2805, .iconst 0, 1), (2806, .ireturn, 1), (2807, .iload 5, 2), (2809, .ifCond .ne 15, 3), (2812, .aload_n 3, 1), (2813, .iconst 0, 1), (2814, .laload, 1), (2815, .iload 6, 2), (2817, .i2l, 1), (2818, .lcmp, 1), (2819, .ifCond .eq 5, 3), (2822, .iconst 0, 1), (2823, .ireturn, 1), (2824, .goto 642, 3), (2827, .aload_n 1, 1), (2828, .aload_n 0, 1), (2829, .iload 4, 2), (2831, .iconst 1, 1), (2832, .iadd, 1), (2833, .iaload, 1), (2834, .aload_n 3, 1), (2835, .invokestatic 318, 3), (2838, .istore 5, 2), (2840, .aload_n 2, 1), (2841, .aload_n 0, 1), (2842, .iload 4, 2), (2844, .iconst 1, 1), (2845, .iadd, 1), (2846, .iaload, 1), (2847, .invokevirtual 320, 3), (2850, .istore 6, 2), (2852, .aload_n 2, 1), (2853, .invokevirtual 168, 3), (2856, .iload 5, 2), (2858, .if_icmp .eq 5, 3), (2861, .iconst 0, 1), (2862, .ireturn, 1), (2863, .iload 5, 2)]
set_option maxRecDepth 100000 in
theorem xd_L_law_36 : xchk1 cL_law xk_L_law_36 = true := xwalk_of 2790 (by decide +kernel)
set_option maxRecDepth 100000 in
def xk_L_law_37 : List (Nat × Instr × Nat) := [(2865, .ifCond .ne 15, 3), (2868, .aload_n 3, 1), (2869, .iconst 0, 1), (2870, .laload, 1), (2871, .iload 6, 2), (2873, .i2l, 1), (2874, .lcmp, 1), (2875, .ifCond .eq 5, 3), (2878, .iconst 0, 1), (2879, .ireturn, 1), (2880, .goto 586, 3), (2883, .aload_n 1, 1), (2884, .aload_n 0, 1), (2885, .iload 4, 2), (2887, .iconst 1, 1), (2888, .iadd, 1), (2889, .iaload, 1), (2890, .aload_n 3, 1), (2891, .invokestatic 321, 3), (2894, .istore 5, 2), (2896, .aload_n 2, 1), (2897, .aload_n 0, 1), (2898, .iload 4, 2), (2900, .iconst 1, 1), (2901, .iadd, 1), (2902, .iaload, 1), (2903, .invokevirtual 323, 3), (2906, .istore 6, 2), (2908, .aload_n 2, 1), (2909, .invokevirtual 168, 3), (2912, .iload 5, 2), (2914, .if_icmp .eq 5, 3), (2917, .iconst 0, 1), (2918, .ireturn, 1), (2919, .iload 5, 2), (2921, .ifCond .ne 15, 3), (2924, .aload_n 3, 1), (2925, .iconst 0, 1), (2926, .laload, 1), (2927, .iload 6, 2), (2929, .i2l, 1), (2930, .lcmp, 1), (2931, .ifCond .eq 5, 3), (2934, .iconst 0, 1), (2935, .ireturn, 1)]
set_option maxRecDepth 100000 in
theorem xd_L_law_37 : xchk1 cL_law xk_L_law_37 = true := xwalk_of 2865 (by decide +kernel)
set_option maxRecDepth 100000 in
def xk_L_law_38 : List (Nat × Instr × Nat) := [(2936, .goto 530, 3), (2939, .aload_n 1, 1), (2940, .invokevirtual 324, 3), (2943, .aload_n 2, 1), (2944, .invokevirtual 327, 3), (2947, .if_icmp .eq 519, 3), (2950, .iconst 0, 1), (2951, .ireturn, 1), (2952, .aload_n 1, 1), (2953, .aload_n 0, 1), (2954, .iload 4, 2), (2956, .iconst 1, 1), (2957, .iadd, 1), (2958, .iaload, 1), (2959, .aload_n 0, 1), (2960, .iload 4, 2), (2962, .iconst 2, 1), (2963, .iadd, 1), (2964, .iaload, 1), (2965, .aload_n 0, 1), (2966, .iload 4, 2), (2968, .iconst 3, 1), (2969, .iadd, 1), (2970, .iaload, 1), (2971, .ifCond .eq 7, 3), (2974, .iconst 1, 1), (2975, .goto 4, 3), (2978, .iconst 0, 1), (2979, .aload_n 3, 1), (2980, .invokestatic 328, 3), (2983, .istore 5, 2), (2985, .aload_n 2, 1), (2986, .aload_n 0, 1), (2987, .iload 4, 2), (2989, .iconst 1, 1), (2990, .iadd, 1), (2991, .iaload, 1), (2992, .aload_n 0, 1), (2993, .iload 4, 2), (2995, .iconst 2, 1), (2996, .iadd, 1), (2997, .iaload, 1), (2998, .aload_n 0, 1), (2999, .iload 4, 2), (3001, .iconst 3, 1)]
set_option maxRecDepth 100000 in
theorem xd_L_law_38 : xchk1 cL_law xk_L_law_38 = true := xwalk_of 2936 (by decide +kernel)
set_option maxRecDepth 100000 in
def xk_L_law_39 : List (Nat × Instr × Nat) := [(3002, .iadd, 1), (3003, .iaload, 1), (3004, .ifCond .eq 7, 3), (3007, .iconst 1, 1), (3008, .goto 4, 3), (3011, .iconst 0, 1), (3012, .invokevirtual 330, 3), (3015, .istore 6, 2), (3017, .aload_n 2, 1), (3018, .invokevirtual 168, 3), (3021, .iload 5, 2), (3023, .if_icmp .eq 5, 3), (3026, .iconst 0, 1), (3027, .ireturn, 1), (3028, .iload 5, 2), (3030, .ifCond .ne 22, 3), (3033, .aload_n 3, 1), (3034, .iconst 0, 1), (3035, .laload, 1), (3036, .iload 6, 2), (3038, .ifCond .eq 7, 3), (3041, .lconst 1, 1), (3042, .goto 4, 3), (3045, .lconst 0, 1), (3046, .lcmp, 1), (3047, .ifCond .eq 5, 3), (3050, .iconst 0, 1), (3051, .ireturn, 1), (3052, .goto 414, 3), (3055, .aload_n 1, 1), (3056, .invokevirtual 331, 3), (3059, .aload_n 2, 1), (3060, .invokevirtual 334, 3), (3063, .if_icmp .eq 403, 3), (3066, .iconst 0, 1), (3067, .ireturn, 1), (3068, .aload_n 1, 1), (3069, .aload_n 0, 1), (3070, .iload 4, 2), (3072, .iconst 1, 1), (3073, .iadd, 1), (3074, .iaload, 1), (3075, .aload_n 3, 1), (3076, .invokestatic 335, 3), (3079, .istore 5, 2)]
set_option maxRecDepth 100000 in
theorem xd_L_law_39 : xchk1 cL_law xk_L_law_39 = true := xwalk_of 3002 (by decide +kernel)
set_option maxRecDepth 100000 in
def xk_L_law_40 : List (Nat × Instr × Nat) := [(3081, .aload_n 2, 1), (3082, .aload_n 0, 1), (3083, .iload 4, 2), (3085, .iconst 1, 1), (3086, .iadd, 1), (3087, .iaload, 1), (3088, .invokevirtual 337, 3), (3091, .istore 6, 2), (3093, .aload_n 2, 1), (3094, .invokevirtual 168, 3), (3097, .iload 5, 2), (3099, .if_icmp .eq 5, 3), (3102, .iconst 0, 1), (3103, .ireturn, 1), (3104, .iload 5, 2), (3106, .ifCond .ne 15, 3), (3109, .aload_n 3, 1), (3110, .iconst 0, 1), (3111, .laload, 1), (3112, .iload 6, 2), (3114, .i2l, 1), (3115, .lcmp, 1), (3116, .ifCond .eq 5, 3), (3119, .iconst 0, 1), (3120, .ireturn, 1), (3121, .goto 345, 3), (3124, .aload_n 1, 1), (3125, .invokevirtual 338, 3), (3128, .aload_n 2, 1), (3129, .invokevirtual 341, 3), (3132, .if_icmp .eq 334, 3), (3135, .iconst 0, 1), (3136, .ireturn, 1), (3137, .aload_n 1, 1), (3138, .aload_n 0, 1), (3139, .iload 4, 2), (3141, .iconst 1, 1), (3142, .iadd, 1), (3143, .iaload, 1), (3144, .aload_n 3, 1), (3145, .invokestatic 342, 3), (3148, .istore 5, 2), (3150, .aload_n 2, 1), (3151, .aload_n 0, 1), (3152, .iload 4, 2)]
set_option maxRecDepth 100000 in
theorem xd_L_law_40 : xchk1 cL_law xk_L_law_40 = true := xwalk_of 3081 (by decide +kernel)
set_option maxRecDepth 100000 in
def xk_L_law_41 : List (Nat × Instr × Nat) := [(3154, .iconst 1, 1), (3155, .iadd, 1), (3156, .iaload, 1), (3157, .invokevirtual 344, 3), (3160, .istore 6, 2), (3162, .aload_n 2, 1), (3163, .invokevirtual 168, 3), (3166, .iload 5, 2), (3168, .if_icmp .eq 5, 3), (3171, .iconst 0, 1), (3172, .ireturn, 1), (3173, .iload 5, 2), (3175, .ifCond .ne 15, 3), (3178, .aload_n 3, 1), (3179, .iconst 0, 1), (3180, .laload, 1), (3181, .iload 6, 2), (3183, .i2l, 1), (3184, .lcmp, 1), (3185, .ifCond .eq 5, 3), (3188, .iconst 0, 1), (3189, .ireturn, 1), (3190, .goto 276, 3), (3193, .aload_n 1, 1), (3194, .aload_n 0, 1), (3195, .iload 4, 2), (3197, .iconst 1, 1), (3198, .iadd, 1), (3199, .iaload, 1), (3200, .aload_n 3, 1), (3201, .invokestatic 345, 3), (3204, .istore 5, 2), (3206, .aload_n 2, 1), (3207, .aload_n 0, 1), (3208, .iload 4, 2), (3210, .iconst 1, 1), (3211, .iadd, 1), (3212, .iaload, 1), (3213, .invokevirtual 347, 3), (3216, .istore 6, 2), (3218, .aload_n 2, 1), (3219, .invokevirtual 168, 3), (3222, .iload 5, 2), (3224, .if_icmp .eq 5, 3), (3227, .iconst 0, 1)]
set_option maxRecDepth 100000 in
theorem xd_L_law_41 : xchk1 cL_law xk_L_law_41 = true := xwalk_of 3154 (by decide +kernel)
set_option maxRecDepth 100000 in
def xk_L_law_42 : List (Nat × Instr × Nat) := [(3228, .ireturn, 1), (3229, .iload 5, 2), (3231, .ifCond .ne 15, 3), (3234, .aload_n 3, 1), (3235, .iconst 0, 1), (3236, .laload, 1), (3237, .iload 6, 2), (3239, .i2l, 1), (3240, .lcmp, 1), (3241, .ifCond .eq 5, 3), (3244, .iconst 0, 1), (3245, .ireturn, 1), (3246, .goto 220, 3), (3249, .aload_n 1, 1), (3250, .aload_n 0, 1), (3251, .iload 4, 2), (3253, .iconst 1, 1), (3254, .iadd, 1), (3255, .iaload, 1), (3256, .aload_n 0, 1), (3257, .iload 4, 2), (3259, .iconst 2, 1), (3260, .iadd, 1), (3261, .iaload, 1), (3262, .aload_n 3, 1), (3263, .invokestatic 348, 3), (3266, .istore 5, 2), (3268, .aload_n 2, 1), (3269, .aload_n 0, 1), (3270, .iload 4, 2), (3272, .iconst 1, 1), (3273, .iadd, 1), (3274, .iaload, 1), (3275, .aload_n 0, 1), (3276, .iload 4, 2), (3278, .iconst 2, 1), (3279, .iadd, 1), (3280, .iaload, 1), (3281, .invokevirtual 350, 3), (3284, .istore 6, 2), (3286, .aload_n 2, 1), (3287, .invokevirtual 168, 3), (3290, .iload 5, 2), (3292, .if_icmp .eq 5, 3), (3295, .iconst 0, 1)]
set_option maxRecDepth 100000 in
theorem xd_L_law_42 : xchk1 cL_law xk_L_law_42 = true := xwalk_of 3228 (by decide +kernel)
set_option maxRecDepth 100000 in
def xk_L_law_43 : List (Nat × Instr × Nat) := [(3296, .ireturn, 1), (3297, .iload 5, 2), (3299, .ifCond .ne 15, 3), (3302, .aload_n 3, 1), (3303, .iconst 0, 1), (3304, .laload, 1), (3305, .iload 6, 2), (3307, .i2l, 1), (3308, .lcmp, 1), (3309, .ifCond .eq 5, 3), (3312, .iconst 0, 1), (3313, .ireturn, 1), (3314, .goto 152, 3), (3317, .aload_n 1, 1), (3318, .invokevirtual 351, 3), (3321, .aload_n 2, 1), (3322, .invokevirtual 354, 3), (3325, .if_icmp .eq 141, 3), (3328, .iconst 0, 1), (3329, .ireturn, 1), (3330, .aload_n 1, 1), (3331, .invokevirtual 355, 3), (3334, .aload_n 2, 1), (3335, .invokevirtual 358, 3), (3338, .if_icmp .eq 128, 3), (3341, .iconst 0, 1), (3342, .ireturn, 1), (3343, .aload_n 1, 1), (3344, .invokevirtual 359, 3), (3347, .aload_n 2, 1), (3348, .invokevirtual 362, 3), (3351, .if_icmp .eq 115, 3), (3354, .iconst 0, 1), (3355, .ireturn, 1), (3356, .aload_n 1, 1), (3357, .invokevirtual 363, 3), (3360, .aload_n 2, 1), (3361, .invokevirtual 367, 3), (3364, .if_icmp .eq 102, 3), (3367, .iconst 0, 1), (3368, .ireturn, 1), (3369, .aload_n 1, 1), (3370, .invokevirtual 368, 3), (3373, .aload_n 2, 1), (3374, .invokevirtual 371, 3)]
set_option maxRecDepth 100000 in
theorem xd_L_law_43 : xchk1 cL_law xk_L_law_43 = true := xwalk_of 3296 (by decide +kernel)
set_option maxRecDepth 100000 in
def xk_L_law_44 : List (Nat × Instr × Nat) := [(3377, .if_icmp .eq 89, 3), (3380, .iconst 0, 1), (3381, .ireturn, 1), (3382, .aload_n 1, 1), (3383, .invokevirtual 372, 3), (3386, .dstore 5, 2), (3388, .aload_n 2, 1), (3389, .invokevirtual 376, 3), (3392, .dstore 7, 2), (3394, .dload 5, 2), (3396, .dload 7, 2), (3398, .dcmp .l, 1), (3399, .ifCond .eq 21, 3), (3402, .dload 5, 2), (3404, .dload 5, 2), (3406, .dcmp .l, 1), (3407, .ifCond .eq 11, 3), (3410, .dload 7, 2), (3412, .dload 7, 2), (3414, .dcmp .l, 1), (3415, .ifCond .ne 5, 3), (3418, .iconst 0, 1), (3419, .ireturn, 1), (3420, .goto 46, 3), (3423, .aload_n 1, 1), (3424, .invokevirtual 377, 3), (3427, .f2d, 1), (3428, .dstore 5, 2), (3430, .aload_n 2, 1), (3431, .invokevirtual 381, 3), (3434, .f2d, 1), (3435, .dstore 7, 2), (3437, .dload 5, 2), (3439, .dload 7, 2), (3441, .dcmp .l, 1), (3442, .ifCond .eq 21, 3), (3445, .dload 5, 2), (3447, .dload 5, 2), (3449, .dcmp .l, 1), (3450, .ifCond .eq 11, 3), (3453, .dload 7, 2), (3455, .dload 7, 2), (3457, .dcmp .l, 1), (3458, .ifCond .ne 5, 3), (3461, .iconst 0, 1)]
set_option maxRecDepth 100000 in
theorem xd_L_law_44 : xchk1 cL_law xk_L_law_44 = true := xwalk_of 3377 (by decide +kernel)
set_option maxRecDepth 100000 in
def xk_L_law_45 : List (Nat × Instr × Nat) := [(3462, .ireturn, 1), (3463, .goto 3, 3), (3466, .iinc 4 6, 3), (3469, .goto (-3446), 3), (3472, .iconst 1, 1), (3473, .ireturn, 1)]
set_option maxRecDepth 100000 in
theorem xd_L_law_45 : xchk1 cL_law xk_L_law_45 = true := xwalk_of 3462 (by decide +kernel)
set_option maxRecDepth 100000 in
def xk_L_law : XT (Instr × Nat) := [(328, xk_L_law_0),
  (393, xk_L_law_1),
  (470, xk_L_law_2),
  (529, xk_L_law_3),
  (595, xk_L_law_4),
  (666, xk_L_law_5),
  (734, xk_L_law_6),
  (794, xk_L_law_7),
  (862, xk_L_law_8),
  (932, xk_L_law_9),
  (1006, xk_L_law_10),
  (1074, xk_L_law_11),
  (1146, xk_L_law_12),
  (1222, xk_L_law_13),
  (1294, xk_L_law_14),
  (1367, xk_L_law_15),
  (1438, xk_L_law_16),
  (1509, xk_L_law_17),
  (1582, xk_L_law_18),
  (1658, xk_L_law_19),
  (1726, xk_L_law_20),
  (1800, xk_L_law_21),
  (1874, xk_L_law_22),
  (1942, xk_L_law_23),
  (2012, xk_L_law_24),
  (2080, xk_L_law_25),
  (2151, xk_L_law_26),
  (2219, xk_L_law_27),
  (2287, xk_L_law_28),
  (2364, xk_L_law_29),
  (2425, xk_L_law_30),
  (2493, xk_L_law_31),
  (2568, xk_L_law_32),
  (2644, xk_L_law_33),
  (2717, xk_L_law_34),
  (2790, xk_L_law_35),
  (2865, xk_L_law_36),
  (2936, xk_L_law_37),
  (3002, xk_L_law_38),
  (3081, xk_L_law_39),
  (3154, xk_L_law_40),
  (3228, xk_L_law_41),
  (3296, xk_L_law_42),
  (3377, xk_L_law_43),
  (3462, xk_L_law_44),
  (100000, xk_L_law_45)]
set_option maxRecDepth 100000 in
theorem xd_L_law : xchk cL_law xk_L_law = true := (xchk_cons xd_L_law_0 (xchk_cons xd_L_law_1 (xchk_cons xd_L_law_2 (xchk_cons xd_L_law_3 (xchk_cons xd_L_law_4 (xchk_cons xd_L_law_5 (xchk_cons xd_L_law_6 (xchk_cons xd_L_law_7 (xchk_cons xd_L_law_8 (xchk_cons xd_L_law_9 (xchk_cons xd_L_law_10 (xchk_cons xd_L_law_11 (xchk_cons xd_L_law_12 (xchk_cons xd_L_law_13 (xchk_cons xd_L_law_14 (xchk_cons xd_L_law_15 (xchk_cons xd_L_law_16 (xchk_cons xd_L_law_17 (xchk_cons xd_L_law_18 (xchk_cons xd_L_law_19 (xchk_cons xd_L_law_20 (xchk_cons xd_L_law_21 (xchk_cons xd_L_law_22 (xchk_cons xd_L_law_23 (xchk_cons xd_L_law_24 (xchk_cons xd_L_law_25 (xchk_cons xd_L_law_26 (xchk_cons xd_L_law_27 (xchk_cons xd_L_law_28 (xchk_cons xd_L_law_29 (xchk_cons xd_L_law_30 (xchk_cons xd_L_law_31 (xchk_cons xd_L_law_32 (xchk_cons xd_L_law_33 (xchk_cons xd_L_law_34 (xchk_cons xd_L_law_35 (xchk_cons xd_L_law_36 (xchk_cons xd_L_law_37 (xchk_cons xd_L_law_38 (xchk_cons xd_L_law_39 (xchk_cons xd_L_law_40 (xchk_cons xd_L_law_41 (xchk_cons xd_L_law_42 (xchk_cons xd_L_law_43 (xchk_cons xd_L_law_44 (xchk_cons xd_L_law_45 xchk_nil))))))))))))))))))))))))))))))))))))))))))))))
set_option maxRecDepth 100000 in
def xk_J13_bitCount_95d88 : XT (Instr × Nat) := [(9, [(0, .lload_n 0, 1), (1, .lload_n 0, 1), (2, .iconst 1, 1), (3, .lushr, 1), (4, .ldc2_w 314, 3), (7, .land, 1), (8, .lsub, 1)]),
  (18, [(9, .lstore_n 0, 1), (10, .lload_n 0, 1), (11, .ldc2_w 316, 3), (14, .land, 1), (15, .lload_n 0, 1), (16, .iconst 2, 1), (17, .lushr, 1)]),
  (27, [(18, .ldc2_w 316, 3), (21, .land, 1), (22, .ladd, 1), (23, .lstore_n 0, 1), (24, .lload_n 0, 1), (25, .lload_n 0, 1), (26, .iconst 4, 1)]),
  (36, [(27, .lushr, 1), (28, .ladd, 1), (29, .ldc2_w 318, 3), (32, .land, 1), (33, .lstore_n 0, 1), (34, .lload_n 0, 1), (35, .lload_n 0, 1)]),
  (45, [(36, .bipush 8, 2), (38, .lushr, 1), (39, .ladd, 1), (40, .lstore_n 0, 1), (41, .lload_n 0, 1), (42, .lload_n 0, 1), (43, .bipush 16, 2)]),
  (53, [(45, .lushr, 1), (46, .ladd, 1), (47, .lstore_n 0, 1), (48, .lload_n 0, 1), (49, .lload_n 0, 1), (50, .bipush 32, 2), (52, .lushr, 1)]),
  (100000, [(53, .ladd, 1), (54, .lstore_n 0, 1), (55, .lload_n 0, 1), (56, .l2i, 1), (57, .bipush 127, 2), (59, .iand, 1), (60, .ireturn, 1)])]
set_option maxRecDepth 100000 in
theorem xd_J13_bitCount_95d88 : xchk cJ13_bitCount_95d88 xk_J13_bitCount_95d88 = true := xchk_of (by decide +kernel)
set_option maxRecDepth 100000 in
def xk_J13_lowestOneBit_067f4 : XT (Instr × Nat) := [(4, [(0, .lload_n 0, 1), (1, .lload_n 0, 1), (2, .lneg, 1), (3, .land, 1)]),
  (100000, [(4, .lreturn, 1)])]
set_option maxRecDepth 100000 in
theorem xd_J13_lowestOneBit_067f4 : xchk cJ13_lowestOneBit_067f4 xk_J13_lowestOneBit_067f4 = true := xchk_of (by decide +kernel)
set_option maxRecDepth 100000 in
def xk_J15_checkIndex_7cf53 : XT (Instr × Nat) := [(6, [(0, .iload_n 0, 1), (1, .iload_n 1, 1), (2, .aconst_null, 1), (3, .invokestatic 105, 3)]),
  (100000, [(6, .ireturn, 1)])]
set_option maxRecDepth 100000 in
theorem xd_J15_checkIndex_7cf53 : xchk cJ15_checkIndex_7cf53 xk_J15_checkIndex_7cf53 = true := xchk_of (by decide +kernel)
set_option maxRecDepth 100000 in
def xk_J3_checkIndex_8e157 : XT (Instr × Nat) := [(6, [(0, .iload_n 0, 1), (1, .ifCond .lt 8, 3), (4, .iload_n 0, 1), (5, .iload_n 1, 1)]),
  (12, [(6, .if_icmp .lt 10, 3), (9, .aload_n 2, 1), (10, .iload_n 0, 1), (11, .iload_n 1, 1)]),
  (100000, [(12, .invokestatic 95, 3), (15, .athrow, 1), (16, .iload_n 0, 1), (17, .ireturn, 1)])]
set_option maxRecDepth 100000 in
theorem xd_J3_checkIndex_8e157 : xchk cJ3_checkIndex_8e157 xk_J3_checkIndex_8e157 = true := xchk_of (by decide +kernel)
set_option maxRecDepth 100000 in
def xk_J6_bitCount_0f7a4 : XT (Instr × Nat) := [(8, [(0, .iload_n 0, 1), (1, .iload_n 0, 1), (2, .iconst 1, 1), (3, .iushr, 1), (4, .ldc_w 265, 3), (7, .iand, 1)]),
  (16, [(8, .isub, 1), (9, .istore_n 0, 1), (10, .iload_n 0, 1), (11, .ldc_w 266, 3), (14, .iand, 1), (15, .iload_n 0, 1)]),
  (24, [(16, .iconst 2, 1), (17, .iushr, 1), (18, .ldc_w 266, 3), (21, .iand, 1), (22, .iadd, 1), (23, .istore_n 0, 1)]),
  (32, [(24, .iload_n 0, 1), (25, .iload_n 0, 1), (26, .iconst 4, 1), (27, .iushr, 1), (28, .iadd, 1), (29, .ldc_w 267, 3)]),
  (39, [(32, .iand, 1), (33, .istore_n 0, 1), (34, .iload_n 0, 1), (35, .iload_n 0, 1), (36, .bipush 8, 2), (38, .iushr, 1)]),
  (46, [(39, .iadd, 1), (40, .istore_n 0, 1), (41, .iload_n 0, 1), (42, .iload_n 0, 1), (43, .bipush 16, 2), (45, .iushr, 1)]),
  (100000, [(46, .iadd, 1), (47, .istore_n 0, 1), (48, .iload_n 0, 1), (49, .bipush 63, 2), (51, .iand, 1), (52, .ireturn, 1)])]
set_option maxRecDepth 100000 in
theorem xd_J6_bitCount_0f7a4 : xchk cJ6_bitCount_0f7a4 xk_J6_bitCount_0f7a4 = true := xchk_of (by decide +kernel)
set_option maxRecDepth 100000 in
def xk_J6_numberOfLeadingZeros_0f7a4 : XT (Instr × Nat) := [(13, [(0, .iload_n 0, 1), (1, .ifCond .gt 14, 3), (4, .iload_n 0, 1), (5, .ifCond .ne 8, 3), (8, .bipush 32, 2), (10, .goto 4, 3)]),
  (22, [(13, .iconst 0, 1), (14, .ireturn, 1), (15, .bipush 31, 2), (17, .istore_n 1, 1), (18, .iload_n 0, 1), (19, .ldc_w 264, 3)]),
  (33, [(22, .if_icmp .lt 11, 3), (25, .iinc 1 (-16), 3), (28, .iload_n 0, 1), (29, .bipush 16, 2), (31, .iushr, 1), (32, .istore_n 0, 1)]),
  (46, [(33, .iload_n 0, 1), (34, .sipush 256, 3), (37, .if_icmp .lt 11, 3), (40, .iinc 1 (-8), 3), (43, .iload_n 0, 1), (44, .bipush 8, 2)]),
  (57, [(46, .iushr, 1), (47, .istore_n 0, 1), (48, .iload_n 0, 1), (49, .bipush 16, 2), (51, .if_icmp .lt 10, 3), (54, .iinc 1 (-4), 3)]),
  (63, [(57, .iload_n 0, 1), (58, .iconst 4, 1), (59, .iushr, 1), (60, .istore_n 0, 1), (61, .iload_n 0, 1), (62, .iconst 4, 1)]),
  (73, [(63, .if_icmp .lt 10, 3), (66, .iinc 1 (-2), 3), (69, .iload_n 0, 1), (70, .iconst 2, 1), (71, .iushr, 1), (72, .istore_n 0, 1)]),
  (100000, [(73, .iload_n 1, 1), (74, .iload_n 0, 1), (75, .iconst 1, 1), (76, .iushr, 1), (77, .isub, 1), (78, .ireturn, 1)])]
set_option maxRecDepth 100000 in
theorem xd_J6_numberOfLeadingZeros_0f7a4 : xchk cJ6_numberOfLeadingZeros_0f7a4 xk_J6_numberOfLeadingZeros_0f7a4 = true := xchk_of (by decide +kernel)
set_option maxRecDepth 100000 in
def xk_J7_copyOf_1904c : XT (Instr × Nat) := [(6, [(0, .aload_n 0, 1), (1, .iload_n 1, 1), (2, .aload_n 0, 1), (3, .invokevirtual 86, 3)]),
  (100000, [(6, .invokestatic 300, 3), (9, .areturn, 1)])]
set_option maxRecDepth 100000 in
theorem xd_J7_copyOf_1904c : xchk cJ7_copyOf_1904c xk_J7_copyOf_1904c = true := xchk_of (by decide +kernel)
set_option maxRecDepth 100000 in
def xk_J7_copyOf_6403c : XT (Instr × Nat) := [(7, [(0, .aload_n 2, 1), (1, .ldc 110, 2), (3, .if_acmp .ne 10, 3), (6, .iload_n 1, 1)]),
  (17, [(7, .anewarray 2, 3), (10, .goto 14, 3), (13, .aload_n 2, 1), (14, .invokevirtual 90, 3)]),
  (25, [(17, .iload_n 1, 1), (18, .invokestatic 95, 3), (21, .checkcast 110, 3), (24, .astore_n 3, 1)]),
  (29, [(25, .aload_n 0, 1), (26, .iconst 0, 1), (27, .aload_n 3, 1), (28, .iconst 0, 1)]),
  (35, [(29, .aload_n 0, 1), (30, .arraylength, 1), (31, .iload_n 1, 1), (32, .invokestatic 304, 3)]),
  (100000, [(35, .invokestatic 150, 3), (38, .aload_n 3, 1), (39, .areturn, 1)])]
set_option maxRecDepth 100000 in
theorem xd_J7_copyOf_6403c : xchk cJ7_copyOf_6403c xk_J7_copyOf_6403c = true := xchk_of (by decide +kernel)
set_option maxRecDepth 100000 in
def xk_J7_fill_53178 : XT (Instr × Nat) := [(4, [(0, .iconst 0, 1), (1, .istore_n 2, 1), (2, .aload_n 0, 1), (3, .arraylength, 1)]),
  (10, [(4, .istore_n 3, 1), (5, .iload_n 2, 1), (6, .iload_n 3, 1), (7, .if_icmp .ge 13, 3)]),
  (14, [(10, .aload_n 0, 1), (11, .iload_n 2, 1), (12, .iload_n 1, 1), (13, .iastore, 1)]),
  (100000, [(14, .iinc 2 1, 3), (17, .goto (-12), 3), (20, .return_, 1)])]
set_option maxRecDepth 100000 in
theorem xd_J7_fill_53178 : xchk cJ7_fill_53178 xk_J7_fill_53178 = true := xchk_of (by decide +kernel)
set_option maxRecDepth 100000 in
def xk_J7_fill_d0a16 : XT (Instr × Nat) := [(4, [(0, .iconst 0, 1), (1, .istore_n 3, 1), (2, .aload_n 0, 1), (3, .arraylength, 1)]),
  (12, [(4, .istore 4, 2), (6, .iload_n 3, 1), (7, .iload 4, 2), (9, .if_icmp .ge 13, 3)]),
  (16, [(12, .aload_n 0, 1), (13, .iload_n 3, 1), (14, .lload_n 1, 1), (15, .lastore, 1)]),
  (100000, [(16, .iinc 3 1, 3), (19, .goto (-13), 3), (22, .return_, 1)])]
set_option maxRecDepth 100000 in
theorem xd_J7_fill_d0a16 : xchk cJ7_fill_d0a16 xk_J7_fill_d0a16 = true := xchk_of (by decide +kernel)
set_option maxRecDepth 100000 in
def xk_J8_hugeLength_7cf53 : XT (Instr × Nat) := [(5, [(0, .iload_n 0, 1), (1, .iload_n 1, 1), (2, .iadd, 1), (3, .istore_n 2, 1), (4, .iload_n 2, 1)]),
  (16, [(5, .ifCond .ge 44, 3), (8, .new 204, 3), (11, .dup, 1), (12, .new 89, 3), (15, .dup, 1)]),
  (28, [(16, .invokespecial 91, 3), (19, .ldc 206, 2), (21, .invokevirtual 94, 3), (24, .iload_n 0, 1), (25, .invokevirtual 98, 3)]),
  (39, [(28, .ldc 208, 2), (30, .invokevirtual 94, 3), (33, .iload_n 1, 1), (34, .invokevirtual 98, 3), (37, .ldc 210, 2)]),
  (50, [(39, .invokevirtual 94, 3), (42, .invokevirtual 101, 3), (45, .invokespecial 212, 3), (48, .athrow, 1), (49, .iload_n 2, 1)]),
  (59, [(50, .ldc 200, 2), (52, .if_icmp .gt 6, 3), (55, .ldc 200, 2), (57, .ireturn, 1), (58, .iload_n 2, 1)]),
  (100000, [(59, .ireturn, 1)])]
set_option maxRecDepth 100000 in
theorem xd_J8_hugeLength_7cf53 : xchk cJ8_hugeLength_7cf53 xk_J8_hugeLength_7cf53 = true := xchk_of (by decide +kernel)
set_option maxRecDepth 100000 in
def xk_J8_newLength_cabcc : XT (Instr × Nat) := [(6, [(0, .iload_n 0, 1), (1, .iload_n 1, 1), (2, .iload_n 2, 1), (3, .invokestatic 194, 3)]),
  (10, [(6, .iadd, 1), (7, .istore_n 3, 1), (8, .iconst 0, 1), (9, .iload_n 3, 1)]),
  (19, [(10, .if_icmp .ge 11, 3), (13, .iload_n 3, 1), (14, .ldc 200, 2), (16, .if_icmp .gt 5, 3)]),
  (23, [(19, .iload_n 3, 1), (20, .ireturn, 1), (21, .iload_n 0, 1), (22, .iload_n 1, 1)]),
  (100000, [(23, .invokestatic 201, 3), (26, .ireturn, 1)])]
set_option maxRecDepth 100000 in
theorem xd_J8_newLength_cabcc : xchk cJ8_newLength_cabcc xk_J8_newLength_cabcc = true := xchk_of (by decide +kernel)
set_option maxRecDepth 100000 in
def xk_J9_abs_0f7a4 : XT (Instr × Nat) := [(6, [(0, .iload_n 0, 1), (1, .ifCond .ge 8, 3), (4, .iload_n 0, 1), (5, .ineg, 1)]),
  (100000, [(6, .goto 4, 3), (9, .iload_n 0, 1), (10, .ireturn, 1)])]
set_option maxRecDepth 100000 in
theorem xd_J9_abs_0f7a4 : xchk Lib.Math.abs.code xk_J9_abs_0f7a4 = true := xchk_of (by decide +kernel)
set_option maxRecDepth 100000 in
def xk_J9_floorMod_7cf53 : XT (Instr × Nat) := [(4, [(0, .iload_n 0, 1), (1, .iload_n 1, 1), (2, .irem, 1), (3, .istore_n 2, 1)]),
  (10, [(4, .iload_n 0, 1), (5, .iload_n 1, 1), (6, .ixor, 1), (7, .ifCond .ge 11, 3)]),
  (16, [(10, .iload_n 2, 1), (11, .ifCond .eq 7, 3), (14, .iload_n 2, 1), (15, .iload_n 1, 1)]),
  (100000, [(16, .iadd, 1), (17, .ireturn, 1), (18, .iload_n 2, 1), (19, .ireturn, 1)])]
set_option maxRecDepth 100000 in
theorem xd_J9_floorMod_7cf53 : xchk cJ9_floorMod_7cf53 xk_J9_floorMod_7cf53 = true := xchk_of (by decide +kernel)
set_option maxRecDepth 100000 in
def xk_J9_max_7cf53 : XT (Instr × Nat) := [(6, [(0, .iload_n 0, 1), (1, .iload_n 1, 1), (2, .if_icmp .lt 7, 3), (5, .iload_n 0, 1)]),
  (100000, [(6, .goto 4, 3), (9, .iload_n 1, 1), (10, .ireturn, 1)])]
set_option maxRecDepth 100000 in
theorem xd_J9_max_7cf53 : xchk Lib.Math.max.code xk_J9_max_7cf53 = true := xchk_of (by decide +kernel)
set_option maxRecDepth 100000 in
def xk_J9_min_7cf53 : XT (Instr × Nat) := [(6, [(0, .iload_n 0, 1), (1, .iload_n 1, 1), (2, .if_icmp .gt 7, 3), (5, .iload_n 0, 1)]),
  (100000, [(6, .goto 4, 3), (9, .iload_n 1, 1), (10, .ireturn, 1)])]
set_option maxRecDepth 100000 in
theorem xd_J9_min_7cf53 : xchk Lib.Math.min.code xk_J9_min_7cf53 = true := xchk_of (by decide +kernel)
set_option maxRecDepth 100000 in
def xk_Jx4a65c_add_72be8 : XT (Instr × Nat) := [(6, [(0, .iload_n 3, 1), (1, .aload_n 2, 1), (2, .arraylength, 1), (3, .if_icmp .ne 8, 3)]),
  (12, [(6, .aload_n 0, 1), (7, .invokevirtual 129, 3), (10, .astore_n 2, 1), (11, .aload_n 2, 1)]),
  (16, [(12, .iload_n 3, 1), (13, .aload_n 1, 1), (14, .aastore, 1), (15, .aload_n 0, 1)]),
  (22, [(16, .iload_n 3, 1), (17, .iconst 1, 1), (18, .iadd, 1), (19, .putfield 48, 3)]),
  (100000, [(22, .return_, 1)])]
set_option maxRecDepth 100000 in
theorem xd_Jx4a65c_add_72be8 : xchk cJx4a65c_add_72be8 xk_Jx4a65c_add_72be8 = true := xchk_of (by decide +kernel)
set_option maxRecDepth 100000 in
def xk_Jx4a65c_add_9ea2d : XT (Instr × Nat) := [(6, [(0, .aload_n 0, 1), (1, .dup, 1), (2, .getfield 63, 3), (5, .iconst 1, 1)]),
  (12, [(6, .iadd, 1), (7, .putfield 63, 3), (10, .aload_n 0, 1), (11, .aload_n 1, 1)]),
  (20, [(12, .aload_n 0, 1), (13, .getfield 9, 3), (16, .aload_n 0, 1), (17, .getfield 48, 3)]),
  (100000, [(20, .invokevirtual 131, 3), (23, .iconst 1, 1), (24, .ireturn, 1)])]
set_option maxRecDepth 100000 in
theorem xd_Jx4a65c_add_9ea2d : xchk cJx4a65c_add_9ea2d xk_Jx4a65c_add_9ea2d = true := xchk_of (by decide +kernel)
set_option maxRecDepth 100000 in
def xk_Jx4a65c_elementData_915e3 : XT (Instr × Nat) := [(6, [(0, .aload_n 0, 1), (1, .getfield 9, 3), (4, .iload_n 1, 1), (5, .aaload, 1)]),
  (100000, [(6, .areturn, 1)])]
set_option maxRecDepth 100000 in
theorem xd_Jx4a65c_elementData_915e3 : xchk cJx4a65c_elementData_915e3 xk_Jx4a65c_elementData_915e3 = true := xchk_of (by decide +kernel)
set_option maxRecDepth 100000 in
def xk_Jx4a65c_get_915e3 : XT (Instr × Nat) := [(8, [(0, .iload_n 1, 1), (1, .aload_n 0, 1), (2, .getfield 48, 3), (5, .invokestatic 118, 3)]),
  (14, [(8, .pop, 1), (9, .aload_n 0, 1), (10, .iload_n 1, 1), (11, .invokevirtual 123, 3)]),
  (100000, [(14, .areturn, 1)])]
set_option maxRecDepth 100000 in
theorem xd_Jx4a65c_get_915e3 : xchk cJx4a65c_get_915e3 xk_Jx4a65c_get_915e3 = true := xchk_of (by decide +kernel)
set_option maxRecDepth 100000 in
def xk_Jx4a65c_grow_92f84 : XT (Instr × Nat) := [(7, [(0, .aload_n 0, 1), (1, .getfield 9, 3), (4, .arraylength, 1), (5, .istore_n 2, 1), (6, .iload_n 2, 1)]),
  (20, [(7, .ifCond .gt 13, 3), (10, .aload_n 0, 1), (11, .getfield 9, 3), (14, .getstatic 39, 3), (17, .if_acmp .eq 28, 3)]),
  (25, [(20, .iload_n 2, 1), (21, .iload_n 1, 1), (22, .iload_n 2, 1), (23, .isub, 1), (24, .iload_n 2, 1)]),
  (32, [(25, .iconst 1, 1), (26, .ishr, 1), (27, .invokestatic 73, 3), (30, .istore_n 3, 1), (31, .aload_n 0, 1)]),
  (41, [(32, .aload_n 0, 1), (33, .getfield 9, 3), (36, .iload_n 3, 1), (37, .invokestatic 66, 3), (40, .dup_x1, 1)]),
  (49, [(41, .putfield 9, 3), (44, .areturn, 1), (45, .aload_n 0, 1), (46, .bipush 10, 2), (48, .iload_n 1, 1)]),
  (100000, [(49, .invokestatic 79, 3), (52, .anewarray 7, 3), (55, .dup_x1, 1), (56, .putfield 9, 3), (59, .areturn, 1)])]
set_option maxRecDepth 100000 in
theorem xd_Jx4a65c_grow_92f84 : xchk cJx4a65c_grow_92f84 xk_Jx4a65c_grow_92f84 = true := xchk_of (by decide +kernel)
set_option maxRecDepth 100000 in
def xk_Jx4a65c_grow_d5877 : XT (Instr × Nat) := [(6, [(0, .aload_n 0, 1), (1, .aload_n 0, 1), (2, .getfield 48, 3), (5, .iconst 1, 1)]),
  (100000, [(6, .iadd, 1), (7, .invokevirtual 69, 3), (10, .areturn, 1)])]
set_option maxRecDepth 100000 in
theorem xd_Jx4a65c_grow_d5877 : xchk cJx4a65c_grow_d5877 xk_Jx4a65c_grow_d5877 = true := xchk_of (by decide +kernel)
set_option maxRecDepth 100000 in
def xk_Jx4a65c_init_da8c8 : XT (Instr × Nat) := [(8, [(0, .aload_n 0, 1), (1, .invokespecial 1, 3), (4, .aload_n 0, 1), (5, .getstatic 39, 3)]),
  (100000, [(8, .putfield 9, 3), (11, .return_, 1)])]
set_option maxRecDepth 100000 in
theorem xd_Jx4a65c_init_da8c8 : xchk cJx4a65c_init_da8c8 xk_Jx4a65c_init_da8c8 = true := xchk_of (by decide +kernel)
set_option maxRecDepth 100000 in
def xk_Jx4a65c_size_8abf5 : XT (Instr × Nat) := [(100000, [(0, .aload_n 0, 1), (1, .getfield 48, 3), (4, .ireturn, 1)])]
set_option maxRecDepth 100000 in
theorem xd_Jx4a65c_size_8abf5 : xchk cJx4a65c_size_8abf5 xk_Jx4a65c_size_8abf5 = true := xchk_of (by decide +kernel)
set_option maxRecDepth 100000 in
def xk_Jxa1e45_init_da8c8 : XT (Instr × Nat) := [(100000, [(0, .aload_n 0, 1), (1, .invokespecial 1, 3), (4, .return_, 1)])]
set_option maxRecDepth 100000 in
theorem xd_Jxa1e45_init_da8c8 : xchk cJxa1e45_init_da8c8 xk_Jxa1e45_init_da8c8 = true := xchk_of (by decide +kernel)
set_option maxRecDepth 100000 in
def xk_Jxc12de_init_da8c8 : XT (Instr × Nat) := [(6, [(0, .aload_n 0, 1), (1, .invokespecial 1, 3), (4, .aload_n 0, 1), (5, .iconst 0, 1)]),
  (100000, [(6, .putfield 7, 3), (9, .return_, 1)])]
set_option maxRecDepth 100000 in
theorem xd_Jxc12de_init_da8c8 : xchk cJxc12de_init_da8c8 xk_Jxc12de_init_da8c8 = true := xchk_of (by decide +kernel)
set_option maxRecDepth 100000 in
def xk_L_append : XT (Instr × Nat) := [(5, [(0, .aload 6, 2), (2, .iconst 0, 1), (3, .aload_n 0, 1), (4, .iload_n 1, 1)]),
  (11, [(5, .iload_n 2, 1), (6, .iload_n 3, 1), (7, .iload 4, 2), (9, .iload 5, 2)]),
  (19, [(11, .invokevirtual 7, 3), (14, .i2l, 1), (15, .lastore, 1), (16, .goto 7, 3)]),
  (24, [(19, .astore 7, 2), (21, .iconst 1, 1), (22, .ireturn, 1), (23, .iconst 0, 1)]),
  (100000, [(24, .ireturn, 1)])]
set_option maxRecDepth 100000 in
theorem xd_L_append : xchk cL_append xk_L_append = true := xchk_of (by decide +kernel)
set_option maxRecDepth 100000 in
def xk_L_backTo : XT (Instr × Nat) := [(4, [(0, .aload_n 2, 1), (1, .iconst 0, 1), (2, .aload_n 0, 1), (3, .iload_n 1, 1)]),
  (12, [(4, .invokevirtual 152, 3), (7, .i2l, 1), (8, .lastore, 1), (9, .goto 6, 3)]),
  (16, [(12, .astore_n 3, 1), (13, .iconst 1, 1), (14, .ireturn, 1), (15, .iconst 0, 1)]),
  (100000, [(16, .ireturn, 1)])]
set_option maxRecDepth 100000 in
theorem xd_L_backTo : xchk cL_backTo xk_L_backTo = true := xchk_of (by decide +kernel)
set_option maxRecDepth 100000 in
def xk_L_ban : XT (Instr × Nat) := [(4, [(0, .aload_n 3, 1), (1, .iconst 0, 1), (2, .aload_n 0, 1), (3, .iload_n 1, 1)]),
  (10, [(4, .iload_n 2, 1), (5, .invokevirtual 30, 3), (8, .i2l, 1), (9, .lastore, 1)]),
  (17, [(10, .goto 15, 3), (13, .astore 4, 2), (15, .iconst 1, 1), (16, .ireturn, 1)]),
  (23, [(17, .astore 4, 2), (19, .iconst 2, 1), (20, .ireturn, 1), (21, .astore 4, 2)]),
  (100000, [(23, .iconst 3, 1), (24, .ireturn, 1), (25, .iconst 0, 1), (26, .ireturn, 1)])]
set_option maxRecDepth 100000 in
theorem xd_L_ban : xchk cL_ban xk_L_ban = true := xchk_of (by decide +kernel)
set_option maxRecDepth 100000 in
def xk_L_because : XT (Instr × Nat) := [(4, [(0, .aload_n 2, 1), (1, .iconst 0, 1), (2, .aload_n 0, 1), (3, .iload_n 1, 1)]),
  (12, [(4, .invokevirtual 83, 3), (7, .i2l, 1), (8, .lastore, 1), (9, .goto 6, 3)]),
  (16, [(12, .astore_n 3, 1), (13, .iconst 1, 1), (14, .ireturn, 1), (15, .iconst 0, 1)]),
  (100000, [(16, .ireturn, 1)])]
set_option maxRecDepth 100000 in
theorem xd_L_because : xchk cL_because xk_L_because = true := xchk_of (by decide +kernel)
set_option maxRecDepth 100000 in
def xk_L_coreAt : XT (Instr × Nat) := [(4, [(0, .aload_n 3, 1), (1, .iconst 0, 1), (2, .aload_n 0, 1), (3, .iload_n 1, 1)]),
  (10, [(4, .iload_n 2, 1), (5, .invokevirtual 89, 3), (8, .i2l, 1), (9, .lastore, 1)]),
  (17, [(10, .goto 11, 3), (13, .astore 4, 2), (15, .iconst 1, 1), (16, .ireturn, 1)]),
  (22, [(17, .astore 4, 2), (19, .iconst 2, 1), (20, .ireturn, 1), (21, .iconst 0, 1)]),
  (100000, [(22, .ireturn, 1)])]
set_option maxRecDepth 100000 in
theorem xd_L_coreAt : xchk cL_coreAt xk_L_coreAt = true := xchk_of (by decide +kernel)
set_option maxRecDepth 100000 in
def xk_L_count : XT (Instr × Nat) := [(4, [(0, .aload_n 2, 1), (1, .iconst 0, 1), (2, .aload_n 0, 1), (3, .iload_n 1, 1)]),
  (12, [(4, .invokevirtual 41, 3), (7, .i2l, 1), (8, .lastore, 1), (9, .goto 6, 3)]),
  (16, [(12, .astore_n 3, 1), (13, .iconst 1, 1), (14, .ireturn, 1), (15, .iconst 0, 1)]),
  (100000, [(16, .ireturn, 1)])]
set_option maxRecDepth 100000 in
theorem xd_L_count : xchk cL_count xk_L_count = true := xchk_of (by decide +kernel)
set_option maxRecDepth 100000 in
def xk_L_fails : XT (Instr × Nat) := [(5, [(0, .aload 4, 2), (2, .iconst 0, 1), (3, .aload_n 0, 1), (4, .iload_n 1, 1)]),
  (13, [(5, .iload_n 2, 1), (6, .iload_n 3, 1), (7, .invokevirtual 142, 3), (10, .ifCond .eq 7, 3)]),
  (19, [(13, .lconst 1, 1), (14, .goto 4, 3), (17, .lconst 0, 1), (18, .lastore, 1)]),
  (26, [(19, .goto 7, 3), (22, .astore 5, 2), (24, .iconst 1, 1), (25, .ireturn, 1)]),
  (100000, [(26, .iconst 0, 1), (27, .ireturn, 1)])]
set_option maxRecDepth 100000 in
theorem xd_L_fails : xchk cL_fails xk_L_fails = true := xchk_of (by decide +kernel)
set_option maxRecDepth 100000 in
def xk_L_failure : XT (Instr × Nat) := [(4, [(0, .aload_n 2, 1), (1, .iconst 0, 1), (2, .aload_n 0, 1), (3, .iload_n 1, 1)]),
  (12, [(4, .invokevirtual 133, 3), (7, .i2l, 1), (8, .lastore, 1), (9, .goto 6, 3)]),
  (16, [(12, .astore_n 3, 1), (13, .iconst 1, 1), (14, .ireturn, 1), (15, .iconst 0, 1)]),
  (100000, [(16, .ireturn, 1)])]
set_option maxRecDepth 100000 in
theorem xd_L_failure : xchk cL_failure xk_L_failure = true := xchk_of (by decide +kernel)
set_option maxRecDepth 100000 in
def xk_L_far : XT (Instr × Nat) := [(4, [(0, .aload_n 2, 1), (1, .iconst 0, 1), (2, .aload_n 0, 1), (3, .iload_n 1, 1)]),
  (12, [(4, .invokevirtual 86, 3), (7, .i2l, 1), (8, .lastore, 1), (9, .goto 6, 3)]),
  (16, [(12, .astore_n 3, 1), (13, .iconst 1, 1), (14, .ireturn, 1), (15, .iconst 0, 1)]),
  (100000, [(16, .ireturn, 1)])]
set_option maxRecDepth 100000 in
theorem xd_L_far : xchk cL_far xk_L_far = true := xchk_of (by decide +kernel)
set_option maxRecDepth 100000 in
def xk_L_fetchAt : XT (Instr × Nat) := [(4, [(0, .aload_n 3, 1), (1, .iconst 0, 1), (2, .aload_n 0, 1), (3, .iload_n 1, 1)]),
  (10, [(4, .iload_n 2, 1), (5, .invokevirtual 119, 3), (8, .i2l, 1), (9, .lastore, 1)]),
  (17, [(10, .goto 11, 3), (13, .astore 4, 2), (15, .iconst 1, 1), (16, .ireturn, 1)]),
  (22, [(17, .astore 4, 2), (19, .iconst 2, 1), (20, .ireturn, 1), (21, .iconst 0, 1)]),
  (100000, [(22, .ireturn, 1)])]
set_option maxRecDepth 100000 in
theorem xd_L_fetchAt : xchk cL_fetchAt xk_L_fetchAt = true := xchk_of (by decide +kernel)
set_option maxRecDepth 100000 in
def xk_L_hold : XT (Instr × Nat) := [(4, [(0, .aload_n 3, 1), (1, .iconst 0, 1), (2, .aload_n 0, 1), (3, .iload_n 1, 1)]),
  (10, [(4, .iload_n 2, 1), (5, .invokevirtual 63, 3), (8, .i2l, 1), (9, .lastore, 1)]),
  (17, [(10, .goto 7, 3), (13, .astore 4, 2), (15, .iconst 1, 1), (16, .ireturn, 1)]),
  (100000, [(17, .iconst 0, 1), (18, .ireturn, 1)])]
set_option maxRecDepth 100000 in
theorem xd_L_hold : xchk cL_hold xk_L_hold = true := xchk_of (by decide +kernel)
