/-! printed by gen_tab.py: code tables -/
set_option maxRecDepth 100000 in
def xk_X14_tellClauses_0 : List (Nat × Instr × Nat) := [(0, .aload_n 0, 1), (1, .getfield 62, 3), (4, .aload_n 0, 1), (5, .getfield 155, 3), (8, .if_icmp .ne 4, 3), (11, .return_, 1), (12, .aload_n 0, 1), (13, .aload_n 0, 1), (14, .getfield 155, 3), (17, .putfield 62, 3), (20, .aload_n 0, 1), (21, .iconst 0, 1), (22, .putfield 330, 3)]
set_option maxRecDepth 100000 in
theorem xd_X14_tellClauses_0 : xchk1 cX14_tellClauses xk_X14_tellClauses_0 = true := xwalk_of 0 (by decide +kernel)
set_option maxRecDepth 100000 in
def xk_X14_tellClauses_1 : List (Nat × Instr × Nat) := [(25, .aload_n 0, 1), (26, .invokevirtual 344, 3), (29, .astore_n 1, 1), (30, .iconst 0, 1), (31, .istore_n 2, 1), (32, .iload_n 2, 1), (33, .aload_n 0, 1), (34, .iconst 0, 1), (35, .invokevirtual 312, 3), (38, .if_icmp .ge 30, 3), (41, .aload_n 0, 1), (42, .iload_n 2, 1), (43, .invokevirtual 322, 3)]
set_option maxRecDepth 100000 in
theorem xd_X14_tellClauses_1 : xchk1 cX14_tellClauses xk_X14_tellClauses_1 = true := xwalk_of 25 (by decide +kernel)
set_option maxRecDepth 100000 in
def xk_X14_tellClauses_2 : List (Nat × Instr × Nat) := [(46, .ifnull 16, 3), (49, .aload_n 0, 1), (50, .iconst 0, 1), (51, .iload_n 2, 1), (52, .iconst (-1), 1), (53, .aload_n 0, 1), (54, .iload_n 2, 1), (55, .invokevirtual 322, 3), (58, .lconst 0, 1), (59, .invokevirtual 348, 3), (62, .iinc 2 1, 3), (65, .goto (-33), 3), (68, .iconst 0, 1)]
set_option maxRecDepth 100000 in
theorem xd_X14_tellClauses_2 : xchk1 cX14_tellClauses xk_X14_tellClauses_2 = true := xwalk_of 46 (by decide +kernel)
set_option maxRecDepth 100000 in
def xk_X14_tellClauses_3 : List (Nat × Instr × Nat) := [(69, .istore_n 2, 1), (70, .iload_n 2, 1), (71, .aload_n 0, 1), (72, .getfield 9, 3), (75, .iconst 0, 1), (76, .iaload, 1), (77, .if_icmp .ge 131, 3), (80, .aload_n 0, 1), (81, .iload_n 2, 1), (82, .invokevirtual 316, 3), (85, .ifCond .ne 6, 3), (88, .goto 114, 3), (91, .aload_n 1, 1)]
set_option maxRecDepth 100000 in
theorem xd_X14_tellClauses_3 : xchk1 cX14_tellClauses xk_X14_tellClauses_3 = true := xwalk_of 69 (by decide +kernel)
set_option maxRecDepth 100000 in
def xk_X14_tellClauses_4 : List (Nat × Instr × Nat) := [(92, .iload_n 2, 1), (93, .iaload, 1), (94, .iconst (-1), 1), (95, .if_icmp .eq 62, 3), (98, .aload_n 0, 1), (99, .iconst 1, 1), (100, .iload_n 2, 1), (101, .iconst (-1), 1), (102, .aload_n 0, 1), (103, .aload_n 1, 1), (104, .iload_n 2, 1), (105, .invokevirtual 297, 3), (108, .invokestatic 333, 3)]
set_option maxRecDepth 100000 in
theorem xd_X14_tellClauses_4 : xchk1 cX14_tellClauses xk_X14_tellClauses_4 = true := xwalk_of 92 (by decide +kernel)
set_option maxRecDepth 100000 in
def xk_X14_tellClauses_5 : List (Nat × Instr × Nat) := [(111, .lconst 0, 1), (112, .invokevirtual 337, 3), (115, .aload_n 0, 1), (116, .iconst 1, 1), (117, .iload_n 2, 1), (118, .iconst (-1), 1), (119, .aload_n 1, 1), (120, .iload_n 2, 1), (121, .invokestatic 293, 3), (124, .ifCond .eq 10, 3), (127, .iload_n 2, 1), (128, .invokestatic 341, 3), (131, .goto 4, 3)]
set_option maxRecDepth 100000 in
theorem xd_X14_tellClauses_5 : xchk1 cX14_tellClauses xk_X14_tellClauses_5 = true := xwalk_of 111 (by decide +kernel)
set_option maxRecDepth 100000 in
def xk_X14_tellClauses_6 : List (Nat × Instr × Nat) := [(134, .lconst 0, 1), (135, .aload_n 1, 1), (136, .iload_n 2, 1), (137, .invokestatic 293, 3), (140, .ifCond .eq 7, 3), (143, .lconst 0, 1), (144, .goto 7, 3), (147, .iload_n 2, 1), (148, .invokestatic 341, 3), (151, .invokevirtual 337, 3), (154, .goto 48, 3), (157, .aload_n 0, 1), (158, .iload_n 2, 1)]
set_option maxRecDepth 100000 in
theorem xd_X14_tellClauses_6 : xchk1 cX14_tellClauses xk_X14_tellClauses_6 = true := xwalk_of 134 (by decide +kernel)
set_option maxRecDepth 100000 in
def xk_X14_tellClauses_7 : List (Nat × Instr × Nat) := [(159, .invokevirtual 352, 3), (162, .astore_n 3, 1), (163, .aload_n 3, 1), (164, .arraylength, 1), (165, .istore 4, 2), (167, .iconst 0, 1), (168, .istore 5, 2), (170, .iload 5, 2), (172, .iload 4, 2), (174, .if_icmp .ge 28, 3), (177, .aload_n 3, 1), (178, .iload 5, 2), (180, .iaload, 1)]
set_option maxRecDepth 100000 in
theorem xd_X14_tellClauses_7 : xchk1 cX14_tellClauses xk_X14_tellClauses_7 = true := xwalk_of 159 (by decide +kernel)
set_option maxRecDepth 100000 in
def xk_X14_tellClauses_8 : List (Nat × Instr × Nat) := [(181, .istore 6, 2), (183, .aload_n 0, 1), (184, .iconst 1, 1), (185, .iload_n 2, 1), (186, .iconst (-1), 1), (187, .lconst 0, 1), (188, .iload 6, 2), (190, .invokestatic 333, 3), (193, .invokevirtual 337, 3), (196, .iinc 5 1, 3), (199, .goto (-29), 3), (202, .iinc 2 1, 3), (205, .goto (-135), 3)]
set_option maxRecDepth 100000 in
theorem xd_X14_tellClauses_8 : xchk1 cX14_tellClauses xk_X14_tellClauses_8 = true := xwalk_of 181 (by decide +kernel)
set_option maxRecDepth 100000 in
def xk_X14_tellClauses_9 : List (Nat × Instr × Nat) := [(208, .iconst 0, 1), (209, .istore_n 2, 1), (210, .iload_n 2, 1), (211, .aload_n 0, 1), (212, .getfield 9, 3), (215, .iconst 0, 1), (216, .iaload, 1), (217, .if_icmp .ge 92, 3), (220, .aload_n 0, 1), (221, .bipush 10, 2), (223, .iload_n 2, 1), (224, .iadd, 1), (225, .invokevirtual 312, 3)]
set_option maxRecDepth 100000 in
theorem xd_X14_tellClauses_9 : xchk1 cX14_tellClauses xk_X14_tellClauses_9 = true := xwalk_of 208 (by decide +kernel)
set_option maxRecDepth 100000 in
def xk_X14_tellClauses_10 : List (Nat × Instr × Nat) := [(228, .istore_n 3, 1), (229, .aload_n 0, 1), (230, .iload_n 2, 1), (231, .invokevirtual 352, 3), (234, .astore 4, 2), (236, .aload 4, 2), (238, .arraylength, 1), (239, .istore 5, 2), (241, .iconst 0, 1), (242, .istore 6, 2), (244, .iload 6, 2), (246, .iload 5, 2), (248, .if_icmp .ge 55, 3)]
set_option maxRecDepth 100000 in
theorem xd_X14_tellClauses_10 : xchk1 cX14_tellClauses xk_X14_tellClauses_10 = true := xwalk_of 228 (by decide +kernel)
set_option maxRecDepth 100000 in
def xk_X14_tellClauses_11 : List (Nat × Instr × Nat) := [(251, .aload 4, 2), (253, .iload 6, 2), (255, .iaload, 1), (256, .istore 7, 2), (258, .iload_n 3, 1), (259, .ifCond .le 38, 3), (262, .aload_n 0, 1), (263, .getfield 18, 3), (266, .iload_n 3, 1), (267, .iconst 1, 1), (268, .isub, 1), (269, .aaload, 1), (270, .iconst 0, 1)]
set_option maxRecDepth 100000 in
theorem xd_X14_tellClauses_11 : xchk1 cX14_tellClauses xk_X14_tellClauses_11 = true := xwalk_of 251 (by decide +kernel)
set_option maxRecDepth 100000 in
def xk_X14_tellClauses_12 : List (Nat × Instr × Nat) := [(271, .aload_n 0, 1), (272, .iload 7, 2), (274, .iconst 1, 1), (275, .invokevirtual 163, 3), (278, .invokestatic 279, 3), (281, .ifCond .ne 16, 3), (284, .aload_n 0, 1), (285, .iconst 2, 1), (286, .iload_n 2, 1), (287, .iconst (-1), 1), (288, .lconst 0, 1), (289, .iload 7, 2), (291, .invokestatic 333, 3)]
set_option maxRecDepth 100000 in
theorem xd_X14_tellClauses_12 : xchk1 cX14_tellClauses xk_X14_tellClauses_12 = true := xwalk_of 271 (by decide +kernel)
set_option maxRecDepth 100000 in
def xk_X14_tellClauses_13 : List (Nat × Instr × Nat) := [(294, .invokevirtual 337, 3), (297, .iinc 6 1, 3), (300, .goto (-56), 3), (303, .iinc 2 1, 3), (306, .goto (-96), 3), (309, .iconst 0, 1), (310, .istore_n 2, 1), (311, .iload_n 2, 1), (312, .aload_n 0, 1), (313, .getfield 9, 3), (316, .iconst 0, 1), (317, .iaload, 1), (318, .if_icmp .ge 14, 3)]
set_option maxRecDepth 100000 in
theorem xd_X14_tellClauses_13 : xchk1 cX14_tellClauses xk_X14_tellClauses_13 = true := xwalk_of 294 (by decide +kernel)
set_option maxRecDepth 100000 in
def xk_X14_tellClauses_14 : List (Nat × Instr × Nat) := [(321, .aload_n 0, 1), (322, .iload_n 2, 1), (323, .invokevirtual 355, 3), (326, .iinc 2 1, 3), (329, .goto (-18), 3), (332, .return_, 1)]
set_option maxRecDepth 100000 in
theorem xd_X14_tellClauses_14 : xchk1 cX14_tellClauses xk_X14_tellClauses_14 = true := xwalk_of 321 (by decide +kernel)
set_option maxRecDepth 100000 in
def xk_X14_tellClauses : XT (Instr × Nat) := [(25, xk_X14_tellClauses_0),
  (46, xk_X14_tellClauses_1),
  (69, xk_X14_tellClauses_2),
  (92, xk_X14_tellClauses_3),
  (111, xk_X14_tellClauses_4),
  (134, xk_X14_tellClauses_5),
  (159, xk_X14_tellClauses_6),
  (181, xk_X14_tellClauses_7),
  (208, xk_X14_tellClauses_8),
  (228, xk_X14_tellClauses_9),
  (251, xk_X14_tellClauses_10),
  (271, xk_X14_tellClauses_11),
  (294, xk_X14_tellClauses_12),
  (321, xk_X14_tellClauses_13),
  (100000, xk_X14_tellClauses_14)]
set_option maxRecDepth 100000 in
theorem xd_X14_tellClauses : xchk cX14_tellClauses xk_X14_tellClauses = true := (xchk_cons xd_X14_tellClauses_0 (xchk_cons xd_X14_tellClauses_1 (xchk_cons xd_X14_tellClauses_2 (xchk_cons xd_X14_tellClauses_3 (xchk_cons xd_X14_tellClauses_4 (xchk_cons xd_X14_tellClauses_5 (xchk_cons xd_X14_tellClauses_6 (xchk_cons xd_X14_tellClauses_7 (xchk_cons xd_X14_tellClauses_8 (xchk_cons xd_X14_tellClauses_9 (xchk_cons xd_X14_tellClauses_10 (xchk_cons xd_X14_tellClauses_11 (xchk_cons xd_X14_tellClauses_12 (xchk_cons xd_X14_tellClauses_13 (xchk_cons xd_X14_tellClauses_14 xchk_nil)))))))))))))))
set_option maxRecDepth 100000 in
def xk_X14_tellOf_0 : List (Nat × Instr × Nat) := [(0, .aload_n 0, 1), (1, .iload_n 1, 1), (2, .invokevirtual 352, 3), (5, .astore_n 2, 1), (6, .lconst 0, 1), (7, .lstore_n 3, 1), (8, .aload_n 2, 1), (9, .astore 5, 2), (11, .aload 5, 2), (13, .arraylength, 1), (14, .istore 6, 2), (16, .iconst 0, 1), (17, .istore 7, 2)]
set_option maxRecDepth 100000 in
theorem xd_X14_tellOf_0 : xchk1 cX14_tellOf xk_X14_tellOf_0 = true := xwalk_of 0 (by decide +kernel)
set_option maxRecDepth 100000 in
def xk_X14_tellOf_1 : List (Nat × Instr × Nat) := [(19, .iload 7, 2), (21, .iload 6, 2), (23, .if_icmp .ge 258, 3), (26, .aload 5, 2), (28, .iload 7, 2), (30, .iaload, 1), (31, .istore 8, 2), (33, .aload_n 0, 1), (34, .iload 8, 2), (36, .iconst 1, 1), (37, .invokevirtual 163, 3), (40, .istore 9, 2), (42, .iconst 0, 1)]
set_option maxRecDepth 100000 in
theorem xd_X14_tellOf_1 : xchk1 cX14_tellOf xk_X14_tellOf_1 = true := xwalk_of 19 (by decide +kernel)
set_option maxRecDepth 100000 in
def xk_X14_tellOf_2 : List (Nat × Instr × Nat) := [(43, .istore 10, 2), (45, .iload 10, 2), (47, .aload_n 0, 1), (48, .iload 8, 2), (50, .bipush 7, 2), (52, .invokevirtual 163, 3), (55, .if_icmp .ge 38, 3), (58, .aload_n 0, 1), (59, .iconst 3, 1), (60, .iload_n 1, 1), (61, .iload 9, 2), (63, .aload_n 0, 1), (64, .getfield 18, 3)]
set_option maxRecDepth 100000 in
theorem xd_X14_tellOf_2 : xchk1 cX14_tellOf xk_X14_tellOf_2 = true := xwalk_of 43 (by decide +kernel)
set_option maxRecDepth 100000 in
def xk_X14_tellOf_3 : List (Nat × Instr × Nat) := [(67, .aload_n 0, 1), (68, .iload 8, 2), (70, .bipush 8, 2), (72, .iload 10, 2), (74, .iadd, 1), (75, .invokevirtual 163, 3), (78, .aaload, 1), (79, .iload 8, 2), (81, .invokestatic 333, 3), (84, .invokevirtual 348, 3), (87, .iinc 10 1, 3), (90, .goto (-45), 3), (93, .iconst 0, 1)]
set_option maxRecDepth 100000 in
theorem xd_X14_tellOf_3 : xchk1 cX14_tellOf xk_X14_tellOf_3 = true := xwalk_of 67 (by decide +kernel)
set_option maxRecDepth 100000 in
def xk_X14_tellOf_4 : List (Nat × Instr × Nat) := [(94, .istore 10, 2), (96, .iload 10, 2), (98, .aload_n 0, 1), (99, .iload 8, 2), (101, .bipush 12, 2), (103, .invokevirtual 163, 3), (106, .if_icmp .ge 117, 3), (109, .iconst 0, 1), (110, .istore 11, 2), (112, .iload 11, 2), (114, .aload_n 0, 1), (115, .getfield 9, 3), (118, .iconst 0, 1)]
set_option maxRecDepth 100000 in
theorem xd_X14_tellOf_4 : xchk1 cX14_tellOf xk_X14_tellOf_4 = true := xwalk_of 94 (by decide +kernel)
set_option maxRecDepth 100000 in
def xk_X14_tellOf_5 : List (Nat × Instr × Nat) := [(119, .iaload, 1), (120, .if_icmp .ge 97, 3), (123, .aload_n 0, 1), (124, .iload 11, 2), (126, .invokevirtual 352, 3), (129, .astore 12, 2), (131, .aload 12, 2), (133, .arraylength, 1), (134, .istore 13, 2), (136, .iconst 0, 1), (137, .istore 14, 2), (139, .iload 14, 2), (141, .iload 13, 2)]
set_option maxRecDepth 100000 in
theorem xd_X14_tellOf_5 : xchk1 cX14_tellOf xk_X14_tellOf_5 = true := xwalk_of 119 (by decide +kernel)
set_option maxRecDepth 100000 in
def xk_X14_tellOf_6 : List (Nat × Instr × Nat) := [(143, .if_icmp .ge 68, 3), (146, .aload 12, 2), (148, .iload 14, 2), (150, .iaload, 1), (151, .istore 15, 2), (153, .iload 15, 2), (155, .iload 8, 2), (157, .if_icmp .eq 48, 3), (160, .aload_n 0, 1), (161, .aload_n 0, 1), (162, .getfield 18, 3), (165, .aload_n 0, 1), (166, .iload 8, 2)]
set_option maxRecDepth 100000 in
theorem xd_X14_tellOf_6 : xchk1 cX14_tellOf xk_X14_tellOf_6 = true := xwalk_of 143 (by decide +kernel)
set_option maxRecDepth 100000 in
def xk_X14_tellOf_7 : List (Nat × Instr × Nat) := [(168, .bipush 13, 2), (170, .iload 10, 2), (172, .iadd, 1), (173, .invokevirtual 163, 3), (176, .aaload, 1), (177, .iload 15, 2), (179, .invokevirtual 301, 3), (182, .ifCond .eq 23, 3), (185, .aload_n 0, 1), (186, .iconst 4, 1), (187, .iload_n 1, 1), (188, .iload 9, 2), (190, .lconst 0, 1)]
set_option maxRecDepth 100000 in
theorem xd_X14_tellOf_7 : xchk1 cX14_tellOf xk_X14_tellOf_7 = true := xwalk_of 168 (by decide +kernel)
set_option maxRecDepth 100000 in
def xk_X14_tellOf_8 : List (Nat × Instr × Nat) := [(191, .iload 8, 2), (193, .invokestatic 333, 3), (196, .iload 15, 2), (198, .invokestatic 333, 3), (201, .lor, 1), (202, .invokevirtual 337, 3), (205, .iinc 14 1, 3), (208, .goto (-69), 3), (211, .iinc 11 1, 3), (214, .goto (-102), 3), (217, .iinc 10 1, 3), (220, .goto (-124), 3), (223, .aload_n 0, 1)]
set_option maxRecDepth 100000 in
theorem xd_X14_tellOf_8 : xchk1 cX14_tellOf xk_X14_tellOf_8 = true := xwalk_of 191 (by decide +kernel)
set_option maxRecDepth 100000 in
def xk_X14_tellOf_9 : List (Nat × Instr × Nat) := [(224, .iload 8, 2), (226, .bipush 6, 2), (228, .invokevirtual 163, 3), (231, .ifCond .le 44, 3), (234, .aload_n 0, 1), (235, .iconst 5, 1), (236, .iload_n 1, 1), (237, .iload 9, 2), (239, .aload_n 0, 1), (240, .getfield 18, 3), (243, .aload_n 0, 1), (244, .iload 8, 2), (246, .bipush 6, 2)]
set_option maxRecDepth 100000 in
theorem xd_X14_tellOf_9 : xchk1 cX14_tellOf xk_X14_tellOf_9 = true := xwalk_of 224 (by decide +kernel)
set_option maxRecDepth 100000 in
def xk_X14_tellOf_10 : List (Nat × Instr × Nat) := [(248, .invokevirtual 163, 3), (251, .iconst 1, 1), (252, .isub, 1), (253, .aaload, 1), (254, .iload 8, 2), (256, .invokestatic 333, 3), (259, .iload_n 1, 1), (260, .invokestatic 341, 3), (263, .lor, 1), (264, .invokevirtual 348, 3), (267, .lload_n 3, 1), (268, .iload 8, 2), (270, .invokestatic 333, 3)]
set_option maxRecDepth 100000 in
theorem xd_X14_tellOf_10 : xchk1 cX14_tellOf xk_X14_tellOf_10 = true := xwalk_of 248 (by decide +kernel)
set_option maxRecDepth 100000 in
def xk_X14_tellOf_11 : List (Nat × Instr × Nat) := [(273, .lor, 1), (274, .lstore_n 3, 1), (275, .iinc 7 1, 3), (278, .goto (-259), 3), (281, .aload_n 0, 1), (282, .bipush 6, 2), (284, .iload_n 1, 1), (285, .iconst (-1), 1), (286, .lload_n 3, 1), (287, .iload_n 1, 1), (288, .invokestatic 341, 3), (291, .invokevirtual 337, 3), (294, .iconst 0, 1)]
set_option maxRecDepth 100000 in
theorem xd_X14_tellOf_11 : xchk1 cX14_tellOf xk_X14_tellOf_11 = true := xwalk_of 273 (by decide +kernel)
set_option maxRecDepth 100000 in
def xk_X14_tellOf_12 : List (Nat × Instr × Nat) := [(295, .istore 5, 2), (297, .iload 5, 2), (299, .aload_n 2, 1), (300, .arraylength, 1), (301, .if_icmp .ge 60, 3), (304, .iload 5, 2), (306, .iconst 1, 1), (307, .iadd, 1), (308, .istore 6, 2), (310, .iload 6, 2), (312, .aload_n 2, 1), (313, .arraylength, 1), (314, .if_icmp .ge 41, 3)]
set_option maxRecDepth 100000 in
theorem xd_X14_tellOf_12 : xchk1 cX14_tellOf xk_X14_tellOf_12 = true := xwalk_of 295 (by decide +kernel)
set_option maxRecDepth 100000 in
def xk_X14_tellOf_13 : List (Nat × Instr × Nat) := [(317, .aload_n 0, 1), (318, .bipush 7, 2), (320, .iload_n 1, 1), (321, .aload_n 0, 1), (322, .aload_n 2, 1), (323, .iload 5, 2), (325, .iaload, 1), (326, .iconst 1, 1), (327, .invokevirtual 163, 3), (330, .lconst 0, 1), (331, .aload_n 2, 1), (332, .iload 5, 2), (334, .iaload, 1)]
set_option maxRecDepth 100000 in
theorem xd_X14_tellOf_13 : xchk1 cX14_tellOf xk_X14_tellOf_13 = true := xwalk_of 317 (by decide +kernel)
set_option maxRecDepth 100000 in
def xk_X14_tellOf_14 : List (Nat × Instr × Nat) := [(335, .invokestatic 333, 3), (338, .aload_n 2, 1), (339, .iload 6, 2), (341, .iaload, 1), (342, .invokestatic 333, 3), (345, .lor, 1), (346, .invokevirtual 337, 3), (349, .iinc 6 1, 3), (352, .goto (-42), 3), (355, .iinc 5 1, 3), (358, .goto (-61), 3), (361, .return_, 1)]
set_option maxRecDepth 100000 in
theorem xd_X14_tellOf_14 : xchk1 cX14_tellOf xk_X14_tellOf_14 = true := xwalk_of 335 (by decide +kernel)
set_option maxRecDepth 100000 in
def xk_X14_tellOf : XT (Instr × Nat) := [(19, xk_X14_tellOf_0),
  (43, xk_X14_tellOf_1),
  (67, xk_X14_tellOf_2),
  (94, xk_X14_tellOf_3),
  (119, xk_X14_tellOf_4),
  (143, xk_X14_tellOf_5),
  (168, xk_X14_tellOf_6),
  (191, xk_X14_tellOf_7),
  (224, xk_X14_tellOf_8),
  (248, xk_X14_tellOf_9),
  (273, xk_X14_tellOf_10),
  (295, xk_X14_tellOf_11),
  (317, xk_X14_tellOf_12),
  (335, xk_X14_tellOf_13),
  (100000, xk_X14_tellOf_14)]
set_option maxRecDepth 100000 in
theorem xd_X14_tellOf : xchk cX14_tellOf xk_X14_tellOf = true := (xchk_cons xd_X14_tellOf_0 (xchk_cons xd_X14_tellOf_1 (xchk_cons xd_X14_tellOf_2 (xchk_cons xd_X14_tellOf_3 (xchk_cons xd_X14_tellOf_4 (xchk_cons xd_X14_tellOf_5 (xchk_cons xd_X14_tellOf_6 (xchk_cons xd_X14_tellOf_7 (xchk_cons xd_X14_tellOf_8 (xchk_cons xd_X14_tellOf_9 (xchk_cons xd_X14_tellOf_10 (xchk_cons xd_X14_tellOf_11 (xchk_cons xd_X14_tellOf_12 (xchk_cons xd_X14_tellOf_13 (xchk_cons xd_X14_tellOf_14 xchk_nil)))))))))))))))
set_option maxRecDepth 100000 in
def xk_X14_then : XT (Instr × Nat) := [(7, [(0, .aload_n 0, 1), (1, .iconst 0, 1), (2, .putfield 134, 3), (5, .aload_n 0, 1), (6, .aload_n 0, 1)]),
  (18, [(7, .iload_n 1, 1), (8, .invokevirtual 589, 3), (11, .iconst 1, 1), (12, .invokevirtual 180, 3), (15, .ifCond .ne 16, 3)]),
  (25, [(18, .aload_n 0, 1), (19, .aload_n 0, 1), (20, .iload_n 2, 1), (21, .invokevirtual 200, 3), (24, .iconst 2, 1)]),
  (34, [(25, .invokevirtual 180, 3), (28, .ifCond .eq 5, 3), (31, .iconst 0, 1), (32, .ireturn, 1), (33, .aload_n 0, 1)]),
  (100000, [(34, .iload_n 1, 1), (35, .invokevirtual 592, 3), (38, .iload_n 2, 1), (39, .invokestatic 319, 3), (42, .ireturn, 1)])]
set_option maxRecDepth 100000 in
theorem xd_X14_then : xchk cX14_then xk_X14_then = true := xchk_of (by decide +kernel)
set_option maxRecDepth 100000 in
def xk_X14_thrown : XT (Instr × Nat) := [(100000, [(0, .aload_n 0, 1), (1, .getfield 134, 3), (4, .ireturn, 1)])]
set_option maxRecDepth 100000 in
theorem xd_X14_thrown : xchk cX14_thrown xk_X14_thrown = true := xchk_of (by decide +kernel)
set_option maxRecDepth 100000 in
def xk_X14_undo : XT (Instr × Nat) := [(12, [(0, .aload_n 0, 1), (1, .iconst 0, 1), (2, .putfield 134, 3), (5, .aload_n 0, 1), (6, .getfield 146, 3), (9, .ifCond .ne 5, 3)]),
  (20, [(12, .iconst (-1), 1), (13, .ireturn, 1), (14, .aload_n 0, 1), (15, .dup, 1), (16, .getfield 146, 3), (19, .iconst 1, 1)]),
  (31, [(20, .isub, 1), (21, .putfield 146, 3), (24, .aload_n 0, 1), (25, .aload_n 0, 1), (26, .getfield 137, 3), (29, .bipush 10, 2)]),
  (40, [(31, .iadd, 1), (32, .iconst 1, 1), (33, .isub, 1), (34, .bipush 10, 2), (36, .irem, 1), (37, .putfield 137, 3)]),
  (52, [(40, .aload_n 0, 1), (41, .getfield 13, 3), (44, .aload_n 0, 1), (45, .getfield 137, 3), (48, .sipush 1957, 3), (51, .imul, 1)]),
  (64, [(52, .aload_n 0, 1), (53, .getfield 9, 3), (56, .iconst 0, 1), (57, .sipush 1957, 3), (60, .invokestatic 140, 3), (63, .aload_n 0, 1)]),
  (74, [(64, .dup, 1), (65, .getfield 155, 3), (68, .iconst 1, 1), (69, .iadd, 1), (70, .putfield 155, 3), (73, .aload_n 0, 1)]),
  (100000, [(74, .getfield 146, 3), (77, .ireturn, 1)])]
set_option maxRecDepth 100000 in
theorem xd_X14_undo : xchk cX14_undo xk_X14_undo = true := xchk_of (by decide +kernel)
set_option maxRecDepth 100000 in
def xk_X14_unwish : XT (Instr × Nat) := [(8, [(0, .aload_n 0, 1), (1, .iconst 0, 1), (2, .putfield 134, 3), (5, .aload_n 0, 1), (6, .iload_n 1, 1), (7, .iconst 0, 1)]),
  (18, [(8, .aload_n 0, 1), (9, .iconst 0, 1), (10, .invokevirtual 312, 3), (13, .iconst 1, 1), (14, .isub, 1), (15, .invokestatic 158, 3)]),
  (30, [(18, .ifCond .eq 15, 3), (21, .aload_n 0, 1), (22, .iload_n 1, 1), (23, .invokevirtual 322, 3), (26, .ifnull 7, 3), (29, .iconst 1, 1)]),
  (42, [(30, .goto 4, 3), (33, .iconst 0, 1), (34, .iconst 1, 1), (35, .invokevirtual 180, 3), (38, .ifCond .eq 5, 3), (41, .iconst 0, 1)]),
  (50, [(42, .ireturn, 1), (43, .aload_n 0, 1), (44, .invokevirtual 411, 3), (47, .aload_n 0, 1), (48, .iconst 1, 1), (49, .iload_n 1, 1)]),
  (100000, [(50, .iadd, 1), (51, .iconst (-1), 1), (52, .invokevirtual 516, 3), (55, .aload_n 0, 1), (56, .invokevirtual 510, 3), (59, .ireturn, 1)])]
set_option maxRecDepth 100000 in
theorem xd_X14_unwish : xchk cX14_unwish xk_X14_unwish = true := xchk_of (by decide +kernel)
set_option maxRecDepth 100000 in
def xk_X14_ver : XT (Instr × Nat) := [(7, [(0, .aload_n 0, 1), (1, .getfield 9, 3), (4, .iconst 5, 1), (5, .bipush 20, 2)]),
  (11, [(7, .iload_n 1, 1), (8, .imul, 1), (9, .iadd, 1), (10, .iload_n 2, 1)]),
  (100000, [(11, .iadd, 1), (12, .iaload, 1), (13, .ireturn, 1)])]
set_option maxRecDepth 100000 in
theorem xd_X14_ver : xchk cX14_ver xk_X14_ver = true := xchk_of (by decide +kernel)
set_option maxRecDepth 100000 in
def xk_X14_version_0 : List (Nat × Instr × Nat) := [(0, .aload_n 0, 1), (1, .iconst 0, 1), (2, .putfield 134, 3), (5, .aload_n 0, 1), (6, .aload_n 0, 1), (7, .iload_n 1, 1), (8, .invokevirtual 200, 3), (11, .iconst 1, 1), (12, .invokevirtual 180, 3), (15, .ifCond .ne 39, 3)]
set_option maxRecDepth 100000 in
theorem xd_X14_version_0 : xchk1 cX14_version xk_X14_version_0 = true := xwalk_of 0 (by decide +kernel)
set_option maxRecDepth 100000 in
def xk_X14_version_1 : List (Nat × Instr × Nat) := [(18, .aload_n 0, 1), (19, .iload_n 2, 1), (20, .invokestatic 486, 3), (23, .ifCond .eq 23, 3), (26, .iload_n 3, 1), (27, .ifCond .lt 19, 3), (30, .iload 4, 2), (32, .iconst 0, 1), (33, .sipush 1000, 3), (36, .invokestatic 158, 3)]
set_option maxRecDepth 100000 in
theorem xd_X14_version_1 : xchk1 cX14_version xk_X14_version_1 = true := xwalk_of 18 (by decide +kernel)
set_option maxRecDepth 100000 in
def xk_X14_version_2 : List (Nat × Instr × Nat) := [(39, .ifCond .eq 7, 3), (42, .iconst 1, 1), (43, .goto 4, 3), (46, .iconst 0, 1), (47, .iconst 2, 1), (48, .invokevirtual 180, 3), (51, .ifCond .eq 5, 3), (54, .iconst 0, 1), (55, .ireturn, 1), (56, .aload_n 0, 1)]
set_option maxRecDepth 100000 in
theorem xd_X14_version_2 : xchk1 cX14_version xk_X14_version_2 = true := xwalk_of 39 (by decide +kernel)
set_option maxRecDepth 100000 in
def xk_X14_version_3 : List (Nat × Instr × Nat) := [(57, .iload_n 1, 1), (58, .invokevirtual 352, 3), (61, .arraylength, 1), (62, .istore 6, 2), (64, .aload_n 0, 1), (65, .aload_n 0, 1), (66, .iload_n 1, 1), (67, .iload_n 2, 1), (68, .invokevirtual 290, 3), (71, .iconst (-1), 1)]
set_option maxRecDepth 100000 in
theorem xd_X14_version_3 : xchk1 cX14_version xk_X14_version_3 = true := xwalk_of 57 (by decide +kernel)
set_option maxRecDepth 100000 in
def xk_X14_version_4 : List (Nat × Instr × Nat) := [(72, .if_icmp .ne 25, 3), (75, .iload 6, 2), (77, .bipush 8, 2), (79, .if_icmp .ge 18, 3), (82, .aload_n 0, 1), (83, .getfield 9, 3), (86, .iconst 4, 1), (87, .iaload, 1), (88, .bipush 40, 2), (90, .if_icmp .ge 7, 3)]
set_option maxRecDepth 100000 in
theorem xd_X14_version_4 : xchk1 cX14_version xk_X14_version_4 = true := xwalk_of 72 (by decide +kernel)
set_option maxRecDepth 100000 in
def xk_X14_version_5 : List (Nat × Instr × Nat) := [(93, .iconst 1, 1), (94, .goto 4, 3), (97, .iconst 0, 1), (98, .iconst 3, 1), (99, .invokevirtual 180, 3), (102, .ifCond .eq 5, 3), (105, .iconst 0, 1), (106, .ireturn, 1), (107, .aload_n 0, 1), (108, .invokevirtual 411, 3)]
set_option maxRecDepth 100000 in
theorem xd_X14_version_5 : xchk1 cX14_version xk_X14_version_5 = true := xwalk_of 93 (by decide +kernel)
set_option maxRecDepth 100000 in
def xk_X14_version_6 : List (Nat × Instr × Nat) := [(111, .aload_n 0, 1), (112, .getfield 9, 3), (115, .iconst 4, 1), (116, .iaload, 1), (117, .istore 7, 2), (119, .aload_n 0, 1), (120, .getfield 9, 3), (123, .iconst 4, 1), (124, .dup2, 1), (125, .iaload, 1)]
set_option maxRecDepth 100000 in
theorem xd_X14_version_6 : xchk1 cX14_version xk_X14_version_6 = true := xwalk_of 111 (by decide +kernel)
set_option maxRecDepth 100000 in
def xk_X14_version_7 : List (Nat × Instr × Nat) := [(126, .iconst 1, 1), (127, .iadd, 1), (128, .iastore, 1), (129, .aload_n 0, 1), (130, .iload 7, 2), (132, .iconst 0, 1), (133, .iload_n 1, 1), (134, .invokevirtual 489, 3), (137, .aload_n 0, 1), (138, .iload 7, 2)]
set_option maxRecDepth 100000 in
theorem xd_X14_version_7 : xchk1 cX14_version xk_X14_version_7 = true := xwalk_of 126 (by decide +kernel)
set_option maxRecDepth 100000 in
def xk_X14_version_8 : List (Nat × Instr × Nat) := [(140, .iconst 1, 1), (141, .iload_n 2, 1), (142, .invokevirtual 489, 3), (145, .aload_n 0, 1), (146, .iload 7, 2), (148, .iconst 2, 1), (149, .iload_n 3, 1), (150, .invokevirtual 489, 3), (153, .aload_n 0, 1), (154, .iload 7, 2)]
set_option maxRecDepth 100000 in
theorem xd_X14_version_8 : xchk1 cX14_version xk_X14_version_8 = true := xwalk_of 140 (by decide +kernel)
set_option maxRecDepth 100000 in
def xk_X14_version_9 : List (Nat × Instr × Nat) := [(156, .iconst 3, 1), (157, .iload 4, 2), (159, .invokevirtual 489, 3), (162, .aload_n 0, 1), (163, .iload 7, 2), (165, .iconst 4, 1), (166, .iload 5, 2), (168, .invokevirtual 489, 3), (171, .iload 6, 2), (173, .iconst 1, 1)]
set_option maxRecDepth 100000 in
theorem xd_X14_version_9 : xchk1 cX14_version xk_X14_version_9 = true := xwalk_of 156 (by decide +kernel)
set_option maxRecDepth 100000 in
def xk_X14_version_10 : List (Nat × Instr × Nat) := [(174, .iadd, 1), (175, .ireturn, 1)]
set_option maxRecDepth 100000 in
theorem xd_X14_version_10 : xchk1 cX14_version xk_X14_version_10 = true := xwalk_of 174 (by decide +kernel)
set_option maxRecDepth 100000 in
def xk_X14_version : XT (Instr × Nat) := [(18, xk_X14_version_0),
  (39, xk_X14_version_1),
  (57, xk_X14_version_2),
  (72, xk_X14_version_3),
  (93, xk_X14_version_4),
  (111, xk_X14_version_5),
  (126, xk_X14_version_6),
  (140, xk_X14_version_7),
  (156, xk_X14_version_8),
  (174, xk_X14_version_9),
  (100000, xk_X14_version_10)]
set_option maxRecDepth 100000 in
theorem xd_X14_version : xchk cX14_version xk_X14_version = true := (xchk_cons xd_X14_version_0 (xchk_cons xd_X14_version_1 (xchk_cons xd_X14_version_2 (xchk_cons xd_X14_version_3 (xchk_cons xd_X14_version_4 (xchk_cons xd_X14_version_5 (xchk_cons xd_X14_version_6 (xchk_cons xd_X14_version_7 (xchk_cons xd_X14_version_8 (xchk_cons xd_X14_version_9 (xchk_cons xd_X14_version_10 xchk_nil)))))))))))
set_option maxRecDepth 100000 in
def xk_X14_versionAt : XT (Instr × Nat) := [(7, [(0, .aload_n 0, 1), (1, .iconst 0, 1), (2, .putfield 134, 3), (5, .aload_n 0, 1), (6, .aload_n 0, 1)]),
  (18, [(7, .iload_n 1, 1), (8, .invokevirtual 200, 3), (11, .iconst 1, 1), (12, .invokevirtual 180, 3), (15, .ifCond .ne 24, 3)]),
  (23, [(18, .aload_n 0, 1), (19, .iload_n 2, 1), (20, .iconst 0, 1), (21, .aload_n 0, 1), (22, .iload_n 1, 1)]),
  (32, [(23, .invokevirtual 352, 3), (26, .arraylength, 1), (27, .iconst 1, 1), (28, .isub, 1), (29, .invokestatic 158, 3)]),
  (41, [(32, .iconst 1, 1), (33, .invokevirtual 180, 3), (36, .ifCond .eq 5, 3), (39, .iconst 0, 1), (40, .ireturn, 1)]),
  (48, [(41, .aload_n 0, 1), (42, .aload_n 0, 1), (43, .iload_n 1, 1), (44, .invokevirtual 352, 3), (47, .iload_n 2, 1)]),
  (100000, [(48, .iaload, 1), (49, .iconst 1, 1), (50, .invokevirtual 163, 3), (53, .ireturn, 1)])]
set_option maxRecDepth 100000 in
theorem xd_X14_versionAt : xchk cX14_versionAt xk_X14_versionAt = true := xchk_of (by decide +kernel)
set_option maxRecDepth 100000 in
def xk_X14_versionOf : XT (Instr × Nat) := [(6, [(0, .aload_n 0, 1), (1, .iconst 0, 1), (2, .putfield 134, 3), (5, .aload_n 0, 1)]),
  (12, [(6, .aload_n 0, 1), (7, .iload_n 1, 1), (8, .invokevirtual 200, 3), (11, .iconst 1, 1)]),
  (22, [(12, .invokevirtual 180, 3), (15, .ifCond .eq 7, 3), (18, .iconst 0, 1), (19, .goto 11, 3)]),
  (30, [(22, .aload_n 0, 1), (23, .invokevirtual 523, 3), (26, .iload_n 1, 1), (27, .invokestatic 319, 3)]),
  (100000, [(30, .ireturn, 1)])]
set_option maxRecDepth 100000 in
theorem xd_X14_versionOf : xchk cX14_versionOf xk_X14_versionOf = true := xchk_of (by decide +kernel)
set_option maxRecDepth 100000 in
def xk_X14_versions : XT (Instr × Nat) := [(6, [(0, .aload_n 0, 1), (1, .iconst 0, 1), (2, .putfield 134, 3), (5, .aload_n 0, 1)]),
  (12, [(6, .aload_n 0, 1), (7, .iload_n 1, 1), (8, .invokevirtual 200, 3), (11, .iconst 1, 1)]),
  (22, [(12, .invokevirtual 180, 3), (15, .ifCond .eq 7, 3), (18, .iconst 0, 1), (19, .goto 9, 3)]),
  (28, [(22, .aload_n 0, 1), (23, .iload_n 1, 1), (24, .invokevirtual 352, 3), (27, .arraylength, 1)]),
  (100000, [(28, .ireturn, 1)])]
set_option maxRecDepth 100000 in
theorem xd_X14_versions : xchk cX14_versions xk_X14_versions = true := xchk_of (by decide +kernel)
set_option maxRecDepth 100000 in
def xk_X14_versionsOf : XT (Instr × Nat) := [(11, [(0, .aload_n 0, 1), (1, .getfield 34, 3), (4, .aload_n 0, 1), (5, .getfield 155, 3), (8, .if_icmp .eq 36, 3)]),
  (20, [(11, .aload_n 0, 1), (12, .aload_n 0, 1), (13, .getfield 155, 3), (16, .putfield 34, 3), (19, .iconst 0, 1)]),
  (28, [(20, .istore_n 2, 1), (21, .iload_n 2, 1), (22, .bipush 12, 2), (24, .if_icmp .ge 20, 3), (27, .aload_n 0, 1)]),
  (37, [(28, .getfield 30, 3), (31, .iload_n 2, 1), (32, .aload_n 0, 1), (33, .iload_n 2, 1), (34, .invokevirtual 166, 3)]),
  (48, [(37, .aastore, 1), (38, .iinc 2 1, 3), (41, .goto (-20), 3), (44, .aload_n 0, 1), (45, .getfield 30, 3)]),
  (100000, [(48, .iload_n 1, 1), (49, .aaload, 1), (50, .areturn, 1)])]
set_option maxRecDepth 100000 in
theorem xd_X14_versionsOf : xchk cX14_versionsOf xk_X14_versionsOf = true := xchk_of (by decide +kernel)
set_option maxRecDepth 100000 in
def xk_X14_wish : XT (Instr × Nat) := [(11, [(0, .aload_n 0, 1), (1, .iconst 0, 1), (2, .putfield 134, 3), (5, .aload_n 0, 1), (6, .aload_n 0, 1), (7, .iconst 0, 1), (8, .invokevirtual 312, 3)]),
  (25, [(11, .bipush 8, 2), (13, .if_icmp .ge 7, 3), (16, .iconst 1, 1), (17, .goto 4, 3), (20, .iconst 0, 1), (21, .iconst 1, 1), (22, .invokevirtual 180, 3)]),
  (36, [(25, .ifCond .eq 5, 3), (28, .iconst 0, 1), (29, .ireturn, 1), (30, .aload_n 0, 1), (31, .invokevirtual 499, 3), (34, .astore_n 1, 1), (35, .aload_n 0, 1)]),
  (49, [(36, .aload_n 1, 1), (37, .ifnull 7, 3), (40, .iconst 1, 1), (41, .goto 4, 3), (44, .iconst 0, 1), (45, .iconst 2, 1), (46, .invokevirtual 180, 3)]),
  (60, [(49, .ifCond .eq 5, 3), (52, .iconst 0, 1), (53, .ireturn, 1), (54, .aload_n 0, 1), (55, .invokevirtual 411, 3), (58, .aload_n 0, 1), (59, .iconst 0, 1)]),
  (69, [(60, .invokevirtual 312, 3), (63, .istore_n 2, 1), (64, .aload_n 0, 1), (65, .iconst 1, 1), (66, .iload_n 2, 1), (67, .iadd, 1), (68, .aload_n 0, 1)]),
  (80, [(69, .aload_n 1, 1), (70, .invokevirtual 503, 3), (73, .invokevirtual 516, 3), (76, .aload_n 0, 1), (77, .iconst 0, 1), (78, .iload_n 2, 1), (79, .iconst 1, 1)]),
  (100000, [(80, .iadd, 1), (81, .invokevirtual 516, 3), (84, .iload_n 2, 1), (85, .ireturn, 1)])]
set_option maxRecDepth 100000 in
theorem xd_X14_wish : xchk cX14_wish xk_X14_wish = true := xchk_of (by decide +kernel)
set_option maxRecDepth 100000 in
def xk_X14_wishAt : XT (Instr × Nat) := [(4, [(0, .aload_n 0, 1), (1, .iconst 1, 1), (2, .iload_n 1, 1), (3, .iadd, 1)]),
  (10, [(4, .invokevirtual 312, 3), (7, .istore_n 2, 1), (8, .iload_n 2, 1), (9, .iconst (-1), 1)]),
  (18, [(10, .if_icmp .ne 7, 3), (13, .aconst_null, 1), (14, .goto 9, 3), (17, .aload_n 0, 1)]),
  (100000, [(18, .getfield 18, 3), (21, .iload_n 2, 1), (22, .aaload, 1), (23, .areturn, 1)])]
set_option maxRecDepth 100000 in
theorem xd_X14_wishAt : xchk cX14_wishAt xk_X14_wishAt = true := xchk_of (by decide +kernel)
set_option maxRecDepth 100000 in
def xk_X14_wishesLeft : XT (Instr × Nat) := [(4, [(0, .iconst 0, 1), (1, .istore_n 1, 1), (2, .iconst 0, 1), (3, .istore_n 2, 1)]),
  (10, [(4, .iload_n 2, 1), (5, .aload_n 0, 1), (6, .iconst 0, 1), (7, .invokevirtual 312, 3)]),
  (16, [(10, .if_icmp .ge 25, 3), (13, .iload_n 1, 1), (14, .aload_n 0, 1), (15, .iload_n 2, 1)]),
  (26, [(16, .invokevirtual 322, 3), (19, .ifnonnull 7, 3), (22, .iconst 0, 1), (23, .goto 4, 3)]),
  (32, [(26, .iconst 1, 1), (27, .iadd, 1), (28, .istore_n 1, 1), (29, .iinc 2 1, 3)]),
  (100000, [(32, .goto (-28), 3), (35, .iload_n 1, 1), (36, .ireturn, 1)])]
set_option maxRecDepth 100000 in
theorem xd_X14_wishesLeft : xchk cX14_wishesLeft xk_X14_wishesLeft = true := xchk_of (by decide +kernel)
set_option maxRecDepth 100000 in
def xk_X14_within : XT (Instr × Nat) := [(6, [(0, .iload_n 0, 1), (1, .iload_n 1, 1), (2, .if_icmp .lt 12, 3), (5, .iload_n 0, 1)]),
  (14, [(6, .iload_n 2, 1), (7, .if_icmp .gt 7, 3), (10, .iconst 1, 1), (11, .goto 4, 3)]),
  (100000, [(14, .iconst 0, 1), (15, .ireturn, 1)])]
set_option maxRecDepth 100000 in
theorem xd_X14_within : xchk cX14_within xk_X14_within = true := xchk_of (by decide +kernel)
set_option maxRecDepth 100000 in
def xk_X14_without_0 : List (Nat × Instr × Nat) := [(0, .aload_n 0, 1), (1, .iconst 0, 1), (2, .putfield 134, 3), (5, .aload_n 0, 1), (6, .aload_n 0, 1), (7, .iload_n 1, 1), (8, .invokevirtual 200, 3), (11, .iconst 1, 1), (12, .invokevirtual 180, 3)]
set_option maxRecDepth 100000 in
theorem xd_X14_without_0 : xchk1 cX14_without xk_X14_without_0 = true := xwalk_of 0 (by decide +kernel)
set_option maxRecDepth 100000 in
def xk_X14_without_1 : List (Nat × Instr × Nat) := [(15, .ifCond .eq 5, 3), (18, .iconst 0, 1), (19, .ireturn, 1), (20, .aload_n 0, 1), (21, .invokevirtual 344, 3), (24, .astore_n 2, 1), (25, .aload_n 2, 1), (26, .iload_n 1, 1), (27, .iaload, 1)]
set_option maxRecDepth 100000 in
theorem xd_X14_without_1 : xchk1 cX14_without xk_X14_without_1 = true := xwalk_of 15 (by decide +kernel)
set_option maxRecDepth 100000 in
def xk_X14_without_2 : List (Nat × Instr × Nat) := [(28, .iconst (-1), 1), (29, .if_icmp .ne 5, 3), (32, .iconst 0, 1), (33, .ireturn, 1), (34, .aload_n 2, 1), (35, .iload_n 1, 1), (36, .iconst (-1), 1), (37, .iastore, 1), (38, .iconst 0, 1)]
set_option maxRecDepth 100000 in
theorem xd_X14_without_2 : xchk1 cX14_without xk_X14_without_2 = true := xwalk_of 28 (by decide +kernel)
set_option maxRecDepth 100000 in
def xk_X14_without_3 : List (Nat × Instr × Nat) := [(39, .istore_n 3, 1), (40, .iconst 1, 1), (41, .istore 4, 2), (43, .iload 4, 2), (45, .ifCond .eq 100, 3), (48, .iconst 0, 1), (49, .istore 4, 2), (51, .iconst 0, 1), (52, .istore 5, 2)]
set_option maxRecDepth 100000 in
theorem xd_X14_without_3 : xchk1 cX14_without xk_X14_without_3 = true := xwalk_of 39 (by decide +kernel)
set_option maxRecDepth 100000 in
def xk_X14_without_4 : List (Nat × Instr × Nat) := [(54, .iload 5, 2), (56, .bipush 12, 2), (58, .if_icmp .ge 40, 3), (61, .iload 4, 2), (63, .aload_n 2, 1), (64, .iload 5, 2), (66, .iaload, 1), (67, .iconst (-1), 1), (68, .if_icmp .eq 20, 3)]
set_option maxRecDepth 100000 in
theorem xd_X14_without_4 : xchk1 cX14_without xk_X14_without_4 = true := xwalk_of 54 (by decide +kernel)
set_option maxRecDepth 100000 in
def xk_X14_without_5 : List (Nat × Instr × Nat) := [(71, .aload_n 0, 1), (72, .aload_n 2, 1), (73, .iload 5, 2), (75, .invokevirtual 309, 3), (78, .ifCond .ne 10, 3), (81, .iconst 1, 1), (82, .iload 5, 2), (84, .ishl, 1), (85, .goto 4, 3)]
set_option maxRecDepth 100000 in
theorem xd_X14_without_5 : xchk1 cX14_without xk_X14_without_5 = true := xwalk_of 71 (by decide +kernel)
set_option maxRecDepth 100000 in
def xk_X14_without_6 : List (Nat × Instr × Nat) := [(88, .iconst 0, 1), (89, .ior, 1), (90, .istore 4, 2), (92, .iinc 5 1, 3), (95, .goto (-41), 3), (98, .iconst 0, 1), (99, .istore 5, 2), (101, .iload 5, 2), (103, .bipush 12, 2)]
set_option maxRecDepth 100000 in
theorem xd_X14_without_6 : xchk1 cX14_without xk_X14_without_6 = true := xwalk_of 88 (by decide +kernel)
set_option maxRecDepth 100000 in
def xk_X14_without_7 : List (Nat × Instr × Nat) := [(105, .if_icmp .ge 32, 3), (108, .aload_n 2, 1), (109, .iload 5, 2), (111, .iload 4, 2), (113, .iload 5, 2), (115, .ishr, 1), (116, .iconst 1, 1), (117, .iand, 1), (118, .iconst 1, 1)]
set_option maxRecDepth 100000 in
theorem xd_X14_without_7 : xchk1 cX14_without xk_X14_without_7 = true := xwalk_of 105 (by decide +kernel)
set_option maxRecDepth 100000 in
def xk_X14_without_8 : List (Nat × Instr × Nat) := [(119, .if_icmp .ne 7, 3), (122, .iconst (-1), 1), (123, .goto 7, 3), (126, .aload_n 2, 1), (127, .iload 5, 2), (129, .iaload, 1), (130, .iastore, 1), (131, .iinc 5 1, 3), (134, .goto (-33), 3)]
set_option maxRecDepth 100000 in
theorem xd_X14_without_8 : xchk1 cX14_without xk_X14_without_8 = true := xwalk_of 119 (by decide +kernel)
set_option maxRecDepth 100000 in
def xk_X14_without_9 : List (Nat × Instr × Nat) := [(137, .iload_n 3, 1), (138, .iload 4, 2), (140, .ior, 1), (141, .istore_n 3, 1), (142, .goto (-99), 3), (145, .iload_n 3, 1), (146, .ireturn, 1)]
set_option maxRecDepth 100000 in
theorem xd_X14_without_9 : xchk1 cX14_without xk_X14_without_9 = true := xwalk_of 137 (by decide +kernel)
set_option maxRecDepth 100000 in
def xk_X14_without : XT (Instr × Nat) := [(15, xk_X14_without_0),
  (28, xk_X14_without_1),
  (39, xk_X14_without_2),
  (54, xk_X14_without_3),
  (71, xk_X14_without_4),
  (88, xk_X14_without_5),
  (105, xk_X14_without_6),
  (119, xk_X14_without_7),
  (137, xk_X14_without_8),
  (100000, xk_X14_without_9)]
set_option maxRecDepth 100000 in
theorem xd_X14_without : xchk cX14_without xk_X14_without = true := (xchk_cons xd_X14_without_0 (xchk_cons xd_X14_without_1 (xchk_cons xd_X14_without_2 (xchk_cons xd_X14_without_3 (xchk_cons xd_X14_without_4 (xchk_cons xd_X14_without_5 (xchk_cons xd_X14_without_6 (xchk_cons xd_X14_without_7 (xchk_cons xd_X14_without_8 (xchk_cons xd_X14_without_9 xchk_nil))))))))))
set_option maxRecDepth 100000 in
def xk_X14_wrong : XT (Instr × Nat) := [(8, [(0, .aload_n 0, 1), (1, .aload_n 0, 1), (2, .getfield 187, 3), (5, .putfield 203, 3)]),
  (100000, [(8, .iconst 0, 1), (9, .ireturn, 1)])]
set_option maxRecDepth 100000 in
theorem xd_X14_wrong : xchk cX14_wrong xk_X14_wrong = true := xchk_of (by decide +kernel)
set_option maxRecDepth 100000 in
def xk_X1_add : XT (Instr × Nat) := [(14, [(0, .aload_n 0, 1), (1, .getfield 9, 3), (4, .sipush 3712, 3), (7, .if_icmp .ge 65, 3), (10, .aload_n 0, 1), (11, .getfield 22, 3)]),
  (24, [(14, .aload_n 0, 1), (15, .getfield 9, 3), (18, .iload_n 1, 1), (19, .iastore, 1), (20, .aload_n 0, 1), (21, .getfield 26, 3)]),
  (34, [(24, .aload_n 0, 1), (25, .getfield 9, 3), (28, .iload_n 2, 1), (29, .iastore, 1), (30, .aload_n 0, 1), (31, .getfield 29, 3)]),
  (44, [(34, .aload_n 0, 1), (35, .getfield 9, 3), (38, .iload_n 3, 1), (39, .iastore, 1), (40, .aload_n 0, 1), (41, .getfield 15, 3)]),
  (55, [(44, .aload_n 0, 1), (45, .getfield 9, 3), (48, .lload 4, 2), (50, .lastore, 1), (51, .aload_n 0, 1), (52, .getfield 19, 3)]),
  (64, [(55, .aload_n 0, 1), (56, .getfield 9, 3), (59, .lload 6, 2), (61, .lastore, 1), (62, .aload_n 0, 1), (63, .dup, 1)]),
  (100000, [(64, .getfield 9, 3), (67, .iconst 1, 1), (68, .iadd, 1), (69, .putfield 9, 3), (72, .return_, 1)])]
set_option maxRecDepth 100000 in
theorem xd_X1_add : xchk cX1_add xk_X1_add = true := xchk_of (by decide +kernel)
set_option maxRecDepth 100000 in
def xk_X1_init : XT (Instr × Nat) := [(10, [(0, .aload_n 0, 1), (1, .invokespecial 3, 3), (4, .aload_n 0, 1), (5, .iconst 0, 1), (6, .putfield 9, 3), (9, .aload_n 0, 1)]),
  (24, [(10, .sipush 3712, 3), (13, .newarray .long, 2), (15, .putfield 15, 3), (18, .aload_n 0, 1), (19, .sipush 3712, 3), (22, .newarray .long, 2)]),
  (37, [(24, .putfield 19, 3), (27, .aload_n 0, 1), (28, .sipush 3712, 3), (31, .newarray .int, 2), (33, .putfield 22, 3), (36, .aload_n 0, 1)]),
  (51, [(37, .sipush 3712, 3), (40, .newarray .int, 2), (42, .putfield 26, 3), (45, .aload_n 0, 1), (46, .sipush 3712, 3), (49, .newarray .int, 2)]),
  (61, [(51, .putfield 29, 3), (54, .aload_n 0, 1), (55, .aload_n 1, 1), (56, .putfield 32, 3), (59, .aload_n 0, 1), (60, .aload_n 1, 1)]),
  (100000, [(61, .getfield 36, 3), (64, .putfield 42, 3), (67, .aload_n 0, 1), (68, .aload_n 2, 1), (69, .putfield 43, 3), (72, .return_, 1)])]
set_option maxRecDepth 100000 in
theorem xd_X1_init : xchk cX1_init xk_X1_init = true := xchk_of (by decide +kernel)
set_option maxRecDepth 100000 in
def xk_X1_literalsOf : XT (Instr × Nat) := [(6, [(0, .aload_n 0, 1), (1, .getfield 15, 3), (4, .iload_n 1, 1), (5, .laload, 1)]),
  (14, [(6, .invokestatic 47, 3), (9, .aload_n 0, 1), (10, .getfield 19, 3), (13, .iload_n 1, 1)]),
  (100000, [(14, .laload, 1), (15, .invokestatic 47, 3), (18, .iadd, 1), (19, .ireturn, 1)])]
set_option maxRecDepth 100000 in
theorem xd_X1_literalsOf : xchk cX1_literalsOf xk_X1_literalsOf = true := xchk_of (by decide +kernel)
set_option maxRecDepth 100000 in
def xk_X1_tell_0 : List (Nat × Instr × Nat) := [(0, .aload_n 0, 1), (1, .iconst 0, 1), (2, .putfield 9, 3), (5, .aload_n 0, 1), (6, .getfield 32, 3), (9, .invokevirtual 53, 3), (12, .astore_n 1, 1), (13, .iconst 0, 1), (14, .istore_n 2, 1), (15, .iload_n 2, 1)]
set_option maxRecDepth 100000 in
theorem xd_X1_tell_0 : xchk1 cX1_tell xk_X1_tell_0 = true := xwalk_of 0 (by decide +kernel)
set_option maxRecDepth 100000 in
def xk_X1_tell_1 : List (Nat × Instr × Nat) := [(16, .aload_n 1, 1), (17, .getfield 57, 3), (20, .if_icmp .ge 32, 3), (23, .aload_n 0, 1), (24, .iconst 0, 1), (25, .iload_n 2, 1), (26, .iconst (-1), 1), (27, .aload_n 1, 1), (28, .getfield 62, 3), (31, .iload_n 2, 1)]
set_option maxRecDepth 100000 in
theorem xd_X1_tell_1 : xchk1 cX1_tell xk_X1_tell_1 = true := xwalk_of 16 (by decide +kernel)
set_option maxRecDepth 100000 in
def xk_X1_tell_2 : List (Nat × Instr × Nat) := [(32, .aaload, 1), (33, .aload_n 0, 1), (34, .getfield 43, 3), (37, .getfield 66, 3), (40, .iload_n 2, 1), (41, .laload, 1), (42, .lconst 0, 1), (43, .invokevirtual 70, 3), (46, .iinc 2 1, 3), (49, .goto (-34), 3)]
set_option maxRecDepth 100000 in
theorem xd_X1_tell_2 : xchk1 cX1_tell xk_X1_tell_2 = true := xwalk_of 32 (by decide +kernel)
set_option maxRecDepth 100000 in
def xk_X1_tell_3 : List (Nat × Instr × Nat) := [(52, .iconst 0, 1), (53, .istore_n 2, 1), (54, .iload_n 2, 1), (55, .aload_n 0, 1), (56, .getfield 42, 3), (59, .getfield 74, 3), (62, .if_icmp .ge 29, 3), (65, .aload_n 1, 1), (66, .getfield 79, 3), (69, .iload_n 2, 1)]
set_option maxRecDepth 100000 in
theorem xd_X1_tell_3 : xchk1 cX1_tell xk_X1_tell_3 = true := xwalk_of 52 (by decide +kernel)
set_option maxRecDepth 100000 in
def xk_X1_tell_4 : List (Nat × Instr × Nat) := [(70, .ishr, 1), (71, .iconst 1, 1), (72, .iand, 1), (73, .ifCond .eq 12, 3), (76, .aload_n 0, 1), (77, .iload_n 2, 1), (78, .aload_n 1, 1), (79, .getfield 82, 3), (82, .invokevirtual 86, 3), (85, .iinc 2 1, 3)]
set_option maxRecDepth 100000 in
theorem xd_X1_tell_4 : xchk1 cX1_tell xk_X1_tell_4 = true := xwalk_of 70 (by decide +kernel)
set_option maxRecDepth 100000 in
def xk_X1_tell_5 : List (Nat × Instr × Nat) := [(88, .goto (-34), 3), (91, .iconst 0, 1), (92, .istore_n 2, 1), (93, .iload_n 2, 1), (94, .aload_n 0, 1), (95, .getfield 42, 3), (98, .getfield 74, 3), (101, .if_icmp .ge 24, 3), (104, .aload_n 0, 1), (105, .iconst 2, 1)]
set_option maxRecDepth 100000 in
theorem xd_X1_tell_5 : xchk1 cX1_tell xk_X1_tell_5 = true := xwalk_of 88 (by decide +kernel)
set_option maxRecDepth 100000 in
def xk_X1_tell_6 : List (Nat × Instr × Nat) := [(106, .iload_n 2, 1), (107, .aload_n 0, 1), (108, .getfield 43, 3), (111, .getfield 90, 3), (114, .iload_n 2, 1), (115, .laload, 1), (116, .invokevirtual 93, 3), (119, .iinc 2 1, 3), (122, .goto (-29), 3), (125, .iconst 0, 1)]
set_option maxRecDepth 100000 in
theorem xd_X1_tell_6 : xchk1 cX1_tell xk_X1_tell_6 = true := xwalk_of 106 (by decide +kernel)
set_option maxRecDepth 100000 in
def xk_X1_tell_7 : List (Nat × Instr × Nat) := [(126, .istore_n 2, 1), (127, .iload_n 2, 1), (128, .aload_n 0, 1), (129, .getfield 42, 3), (132, .getfield 74, 3), (135, .if_icmp .ge 70, 3), (138, .iconst 0, 1), (139, .istore_n 3, 1), (140, .iload_n 3, 1), (141, .aload_n 0, 1)]
set_option maxRecDepth 100000 in
theorem xd_X1_tell_7 : xchk1 cX1_tell xk_X1_tell_7 = true := xwalk_of 126 (by decide +kernel)
set_option maxRecDepth 100000 in
def xk_X1_tell_8 : List (Nat × Instr × Nat) := [(142, .getfield 42, 3), (145, .getfield 97, 3), (148, .iload_n 2, 1), (149, .iaload, 1), (150, .if_icmp .ge 23, 3), (153, .aload_n 0, 1), (154, .iload_n 2, 1), (155, .aload_n 0, 1), (156, .getfield 42, 3), (159, .iload_n 2, 1)]
set_option maxRecDepth 100000 in
theorem xd_X1_tell_8 : xchk1 cX1_tell xk_X1_tell_8 = true := xwalk_of 142 (by decide +kernel)
set_option maxRecDepth 100000 in
def xk_X1_tell_9 : List (Nat × Instr × Nat) := [(160, .iload_n 3, 1), (161, .invokevirtual 100, 3), (164, .invokevirtual 104, 3), (167, .iinc 3 1, 3), (170, .goto (-30), 3), (173, .aload_n 0, 1), (174, .bipush 6, 2), (176, .iload_n 2, 1), (177, .iconst (-1), 1), (178, .aload_n 0, 1)]
set_option maxRecDepth 100000 in
theorem xd_X1_tell_9 : xchk1 cX1_tell xk_X1_tell_9 = true := xwalk_of 160 (by decide +kernel)
set_option maxRecDepth 100000 in
def xk_X1_tell_10 : List (Nat × Instr × Nat) := [(179, .getfield 43, 3), (182, .getfield 108, 3), (185, .iload_n 2, 1), (186, .laload, 1), (187, .iload_n 2, 1), (188, .invokestatic 111, 3), (191, .invokevirtual 115, 3), (194, .aload_n 0, 1), (195, .iload_n 2, 1), (196, .invokevirtual 119, 3)]
set_option maxRecDepth 100000 in
theorem xd_X1_tell_10 : xchk1 cX1_tell xk_X1_tell_10 = true := xwalk_of 179 (by decide +kernel)
set_option maxRecDepth 100000 in
def xk_X1_tell_11 : List (Nat × Instr × Nat) := [(199, .iinc 2 1, 3), (202, .goto (-75), 3), (205, .return_, 1)]
set_option maxRecDepth 100000 in
theorem xd_X1_tell_11 : xchk1 cX1_tell xk_X1_tell_11 = true := xwalk_of 199 (by decide +kernel)
set_option maxRecDepth 100000 in
def xk_X1_tell : XT (Instr × Nat) := [(16, xk_X1_tell_0),
  (32, xk_X1_tell_1),
  (52, xk_X1_tell_2),
  (70, xk_X1_tell_3),
  (88, xk_X1_tell_4),
  (106, xk_X1_tell_5),
  (126, xk_X1_tell_6),
  (142, xk_X1_tell_7),
  (160, xk_X1_tell_8),
  (179, xk_X1_tell_9),
  (199, xk_X1_tell_10),
  (100000, xk_X1_tell_11)]
set_option maxRecDepth 100000 in
theorem xd_X1_tell : xchk cX1_tell xk_X1_tell = true := (xchk_cons xd_X1_tell_0 (xchk_cons xd_X1_tell_1 (xchk_cons xd_X1_tell_2 (xchk_cons xd_X1_tell_3 (xchk_cons xd_X1_tell_4 (xchk_cons xd_X1_tell_5 (xchk_cons xd_X1_tell_6 (xchk_cons xd_X1_tell_7 (xchk_cons xd_X1_tell_8 (xchk_cons xd_X1_tell_9 (xchk_cons xd_X1_tell_10 (xchk_cons xd_X1_tell_11 xchk_nil))))))))))))
set_option maxRecDepth 100000 in
def xk_X1_tellBan : XT (Instr × Nat) := [(12, [(0, .iconst 0, 1), (1, .istore 7, 2), (3, .iload 7, 2), (5, .aload_n 0, 1), (6, .getfield 42, 3), (9, .getfield 74, 3)]),
  (24, [(12, .if_icmp .ge 70, 3), (15, .iconst 0, 1), (16, .istore 8, 2), (18, .iload 8, 2), (20, .aload_n 0, 1), (21, .getfield 42, 3)]),
  (37, [(24, .getfield 97, 3), (27, .iload 7, 2), (29, .iaload, 1), (30, .if_icmp .ge 46, 3), (33, .aload_n 0, 1), (34, .getfield 42, 3)]),
  (50, [(37, .iload 7, 2), (39, .iload 8, 2), (41, .invokevirtual 100, 3), (44, .istore 9, 2), (46, .lload 5, 2), (48, .iload 9, 2)]),
  (60, [(50, .invokestatic 135, 3), (53, .ifCond .eq 17, 3), (56, .aload_n 0, 1), (57, .iconst 4, 1), (58, .iload_n 1, 1), (59, .iload_n 2, 1)]),
  (67, [(60, .lconst 0, 1), (61, .lload_n 3, 1), (62, .lconst 1, 1), (63, .iload 9, 2), (65, .lshl, 1), (66, .lor, 1)]),
  (100000, [(67, .invokevirtual 115, 3), (70, .iinc 8 1, 3), (73, .goto (-55), 3), (76, .iinc 7 1, 3), (79, .goto (-76), 3), (82, .return_, 1)])]
set_option maxRecDepth 100000 in
theorem xd_X1_tellBan : xchk cX1_tellBan xk_X1_tellBan = true := xchk_of (by decide +kernel)
set_option maxRecDepth 100000 in
def xk_X1_tellHold : XT (Instr × Nat) := [(12, [(0, .lload_n 2, 1), (1, .aload_n 0, 1), (2, .getfield 42, 3), (5, .iload_n 1, 1), (6, .invokevirtual 132, 3), (9, .land, 1), (10, .lstore 4, 2)]),
  (22, [(12, .lload 4, 2), (14, .lconst 0, 1), (15, .lcmp, 1), (16, .ifCond .ne 18, 3), (19, .aload_n 0, 1), (20, .iconst 1, 1), (21, .iload_n 1, 1)]),
  (35, [(22, .aload_n 0, 1), (23, .getfield 42, 3), (26, .iload_n 1, 1), (27, .invokevirtual 132, 3), (30, .invokevirtual 93, 3), (33, .return_, 1), (34, .lload_n 2, 1)]),
  (46, [(35, .iload_n 1, 1), (36, .invokestatic 111, 3), (39, .land, 1), (40, .lconst 0, 1), (41, .lcmp, 1), (42, .ifCond .eq 7, 3), (45, .iconst 1, 1)]),
  (56, [(46, .goto 4, 3), (49, .iconst 0, 1), (50, .istore 6, 2), (52, .aload_n 0, 1), (53, .iconst 1, 1), (54, .iload_n 1, 1), (55, .iconst (-1), 1)]),
  (66, [(56, .lload 4, 2), (58, .lconst 0, 1), (59, .invokevirtual 115, 3), (62, .aload_n 0, 1), (63, .iconst 1, 1), (64, .iload_n 1, 1), (65, .iconst (-1), 1)]),
  (81, [(66, .iload 6, 2), (68, .ifCond .eq 10, 3), (71, .iload_n 1, 1), (72, .invokestatic 111, 3), (75, .goto 4, 3), (78, .lconst 0, 1), (79, .iload 6, 2)]),
  (100000, [(81, .ifCond .eq 7, 3), (84, .lconst 0, 1), (85, .goto 7, 3), (88, .iload_n 1, 1), (89, .invokestatic 111, 3), (92, .invokevirtual 115, 3), (95, .return_, 1)])]
set_option maxRecDepth 100000 in
theorem xd_X1_tellHold : xchk cX1_tellHold xk_X1_tellHold = true := xchk_of (by decide +kernel)
set_option maxRecDepth 100000 in
def xk_X1_tellNeed : XT (Instr × Nat) := [(7, [(0, .aload 4, 2), (2, .ifnonnull 4, 3), (5, .return_, 1), (6, .aload_n 0, 1)]),
  (12, [(7, .iload_n 1, 1), (8, .iload_n 2, 1), (9, .iload_n 3, 1), (10, .lload 5, 2)]),
  (22, [(12, .lload 7, 2), (14, .invokevirtual 115, 3), (17, .aload 4, 2), (19, .getfield 123, 3)]),
  (28, [(22, .ifCond .eq 20, 3), (25, .aload_n 0, 1), (26, .iload_n 1, 1), (27, .iload_n 2, 1)]),
  (37, [(28, .iload_n 3, 1), (29, .aload 4, 2), (31, .getfield 129, 3), (34, .invokestatic 111, 3)]),
  (100000, [(37, .lload 7, 2), (39, .invokevirtual 115, 3), (42, .return_, 1)])]
set_option maxRecDepth 100000 in
theorem xd_X1_tellNeed : xchk cX1_tellNeed xk_X1_tellNeed = true := xchk_of (by decide +kernel)
set_option maxRecDepth 100000 in
def xk_X1_tellNone : XT (Instr × Nat) := [(9, [(0, .iconst 0, 1), (1, .istore 5, 2), (3, .iload 5, 2), (5, .aload_n 0, 1), (6, .getfield 42, 3)]),
  (18, [(9, .getfield 97, 3), (12, .iload_n 2, 1), (13, .iaload, 1), (14, .if_icmp .ge 42, 3), (17, .aload_n 0, 1)]),
  (29, [(18, .getfield 42, 3), (21, .iload_n 2, 1), (22, .iload 5, 2), (24, .invokevirtual 100, 3), (27, .istore 6, 2)]),
  (39, [(29, .lload_n 3, 1), (30, .iload 6, 2), (32, .invokestatic 135, 3), (35, .ifCond .eq 15, 3), (38, .aload_n 0, 1)]),
  (44, [(39, .iload_n 1, 1), (40, .iload_n 2, 1), (41, .iconst (-1), 1), (42, .lconst 0, 1), (43, .lconst 1, 1)]),
  (56, [(44, .iload 6, 2), (46, .lshl, 1), (47, .invokevirtual 115, 3), (50, .iinc 5 1, 3), (53, .goto (-50), 3)]),
  (100000, [(56, .return_, 1)])]
set_option maxRecDepth 100000 in
theorem xd_X1_tellNone : xchk cX1_tellNone xk_X1_tellNone = true := xchk_of (by decide +kernel)
set_option maxRecDepth 100000 in
def xk_X1_tellPairs : XT (Instr × Nat) := [(11, [(0, .iconst 0, 1), (1, .istore_n 2, 1), (2, .iload_n 2, 1), (3, .aload_n 0, 1), (4, .getfield 42, 3), (7, .getfield 97, 3), (10, .iload_n 1, 1)]),
  (24, [(11, .iaload, 1), (12, .if_icmp .ge 81, 3), (15, .aload_n 0, 1), (16, .getfield 42, 3), (19, .iload_n 1, 1), (20, .iload_n 2, 1), (21, .invokevirtual 100, 3)]),
  (33, [(24, .istore_n 3, 1), (25, .iload_n 2, 1), (26, .iconst 1, 1), (27, .iadd, 1), (28, .istore 4, 2), (30, .iload 4, 2), (32, .aload_n 0, 1)]),
  (46, [(33, .getfield 42, 3), (36, .getfield 97, 3), (39, .iload_n 1, 1), (40, .iaload, 1), (41, .if_icmp .ge 46, 3), (44, .lconst 1, 1), (45, .iload_n 3, 1)]),
  (58, [(46, .lshl, 1), (47, .lconst 1, 1), (48, .aload_n 0, 1), (49, .getfield 42, 3), (52, .iload_n 1, 1), (53, .iload 4, 2), (55, .invokevirtual 100, 3)]),
  (67, [(58, .lshl, 1), (59, .lor, 1), (60, .lstore 5, 2), (62, .aload_n 0, 1), (63, .bipush 7, 2), (65, .iload_n 1, 1), (66, .aload_n 0, 1)]),
  (81, [(67, .getfield 42, 3), (70, .getfield 139, 3), (73, .iload_n 3, 1), (74, .iaload, 1), (75, .lconst 0, 1), (76, .lload 5, 2), (78, .invokevirtual 115, 3)]),
  (100000, [(81, .iinc 4 1, 3), (84, .goto (-54), 3), (87, .iinc 2 1, 3), (90, .goto (-88), 3), (93, .return_, 1)])]
set_option maxRecDepth 100000 in
theorem xd_X1_tellPairs : xchk cX1_tellPairs xk_X1_tellPairs = true := xchk_of (by decide +kernel)
set_option maxRecDepth 100000 in
def xk_X1_tellVersion_0 : List (Nat × Instr × Nat) := [(0, .aload_n 0, 1), (1, .getfield 42, 3), (4, .getfield 139, 3), (7, .iload_n 2, 1), (8, .iaload, 1), (9, .istore_n 3, 1), (10, .lconst 1, 1), (11, .iload_n 2, 1), (12, .lshl, 1)]
set_option maxRecDepth 100000 in
theorem xd_X1_tellVersion_0 : xchk1 cX1_tellVersion xk_X1_tellVersion_0 = true := xwalk_of 0 (by decide +kernel)
set_option maxRecDepth 100000 in
def xk_X1_tellVersion_1 : List (Nat × Instr × Nat) := [(13, .lstore 4, 2), (15, .iconst 0, 1), (16, .istore 6, 2), (18, .iload 6, 2), (20, .aload_n 0, 1), (21, .getfield 42, 3), (24, .getfield 142, 3), (27, .iload_n 2, 1), (28, .iaload, 1)]
set_option maxRecDepth 100000 in
theorem xd_X1_tellVersion_1 : xchk1 cX1_tellVersion xk_X1_tellVersion_1 = true := xwalk_of 13 (by decide +kernel)
set_option maxRecDepth 100000 in
def xk_X1_tellVersion_2 : List (Nat × Instr × Nat) := [(29, .if_icmp .ge 46, 3), (32, .iload_n 2, 1), (33, .iconst 3, 1), (34, .imul, 1), (35, .iload 6, 2), (37, .iadd, 1), (38, .istore 7, 2), (40, .aload_n 0, 1), (41, .iconst 3, 1)]
set_option maxRecDepth 100000 in
theorem xd_X1_tellVersion_2 : xchk1 cX1_tellVersion xk_X1_tellVersion_2 = true := xwalk_of 29 (by decide +kernel)
set_option maxRecDepth 100000 in
def xk_X1_tellVersion_3 : List (Nat × Instr × Nat) := [(42, .iload_n 1, 1), (43, .iload_n 3, 1), (44, .aload_n 0, 1), (45, .getfield 42, 3), (48, .getfield 145, 3), (51, .iload 7, 2), (53, .aaload, 1), (54, .aload_n 0, 1), (55, .getfield 43, 3)]
set_option maxRecDepth 100000 in
theorem xd_X1_tellVersion_3 : xchk1 cX1_tellVersion xk_X1_tellVersion_3 = true := xwalk_of 42 (by decide +kernel)
set_option maxRecDepth 100000 in
def xk_X1_tellVersion_4 : List (Nat × Instr × Nat) := [(58, .getfield 148, 3), (61, .iload 7, 2), (63, .laload, 1), (64, .lload 4, 2), (66, .invokevirtual 70, 3), (69, .iinc 6 1, 3), (72, .goto (-54), 3), (75, .iconst 0, 1), (76, .istore 6, 2)]
set_option maxRecDepth 100000 in
theorem xd_X1_tellVersion_4 : xchk1 cX1_tellVersion xk_X1_tellVersion_4 = true := xwalk_of 58 (by decide +kernel)
set_option maxRecDepth 100000 in
def xk_X1_tellVersion_5 : List (Nat × Instr × Nat) := [(78, .iload 6, 2), (80, .aload_n 0, 1), (81, .getfield 42, 3), (84, .getfield 150, 3), (87, .iload_n 2, 1), (88, .iaload, 1), (89, .if_icmp .ge 38, 3), (92, .aload_n 0, 1), (93, .iload_n 1, 1)]
set_option maxRecDepth 100000 in
theorem xd_X1_tellVersion_5 : xchk1 cX1_tellVersion xk_X1_tellVersion_5 = true := xwalk_of 78 (by decide +kernel)
set_option maxRecDepth 100000 in
def xk_X1_tellVersion_6 : List (Nat × Instr × Nat) := [(94, .iload_n 3, 1), (95, .lload 4, 2), (97, .aload_n 0, 1), (98, .getfield 43, 3), (101, .getfield 153, 3), (104, .iload_n 2, 1), (105, .iconst 2, 1), (106, .imul, 1), (107, .iload 6, 2)]
set_option maxRecDepth 100000 in
theorem xd_X1_tellVersion_6 : xchk1 cX1_tellVersion xk_X1_tellVersion_6 = true := xwalk_of 94 (by decide +kernel)
set_option maxRecDepth 100000 in
def xk_X1_tellVersion_7 : List (Nat × Instr × Nat) := [(109, .iadd, 1), (110, .laload, 1), (111, .lload 4, 2), (113, .ldc2_w 156, 3), (116, .lxor, 1), (117, .land, 1), (118, .invokevirtual 158, 3), (121, .iinc 6 1, 3), (124, .goto (-46), 3)]
set_option maxRecDepth 100000 in
theorem xd_X1_tellVersion_7 : xchk1 cX1_tellVersion xk_X1_tellVersion_7 = true := xwalk_of 109 (by decide +kernel)
set_option maxRecDepth 100000 in
def xk_X1_tellVersion_8 : List (Nat × Instr × Nat) := [(127, .aload_n 0, 1), (128, .iconst 5, 1), (129, .iload_n 1, 1), (130, .iload_n 3, 1), (131, .aload_n 0, 1), (132, .getfield 42, 3), (135, .getfield 162, 3), (138, .iload_n 2, 1), (139, .aaload, 1)]
set_option maxRecDepth 100000 in
theorem xd_X1_tellVersion_8 : xchk1 cX1_tellVersion xk_X1_tellVersion_8 = true := xwalk_of 127 (by decide +kernel)
set_option maxRecDepth 100000 in
def xk_X1_tellVersion_9 : List (Nat × Instr × Nat) := [(140, .aload_n 0, 1), (141, .getfield 43, 3), (144, .getfield 165, 3), (147, .iload_n 2, 1), (148, .laload, 1), (149, .lload 4, 2), (151, .iload_n 1, 1), (152, .invokestatic 111, 3), (155, .lor, 1)]
set_option maxRecDepth 100000 in
theorem xd_X1_tellVersion_9 : xchk1 cX1_tellVersion xk_X1_tellVersion_9 = true := xwalk_of 140 (by decide +kernel)
set_option maxRecDepth 100000 in
def xk_X1_tellVersion_10 : List (Nat × Instr × Nat) := [(156, .invokevirtual 70, 3), (159, .return_, 1)]
set_option maxRecDepth 100000 in
theorem xd_X1_tellVersion_10 : xchk1 cX1_tellVersion xk_X1_tellVersion_10 = true := xwalk_of 156 (by decide +kernel)
set_option maxRecDepth 100000 in
def xk_X1_tellVersion : XT (Instr × Nat) := [(13, xk_X1_tellVersion_0),
  (29, xk_X1_tellVersion_1),
  (42, xk_X1_tellVersion_2),
  (58, xk_X1_tellVersion_3),
  (78, xk_X1_tellVersion_4),
  (94, xk_X1_tellVersion_5),
  (109, xk_X1_tellVersion_6),
  (127, xk_X1_tellVersion_7),
  (140, xk_X1_tellVersion_8),
  (156, xk_X1_tellVersion_9),
  (100000, xk_X1_tellVersion_10)]
set_option maxRecDepth 100000 in
theorem xd_X1_tellVersion : xchk cX1_tellVersion xk_X1_tellVersion = true := (xchk_cons xd_X1_tellVersion_0 (xchk_cons xd_X1_tellVersion_1 (xchk_cons xd_X1_tellVersion_2 (xchk_cons xd_X1_tellVersion_3 (xchk_cons xd_X1_tellVersion_4 (xchk_cons xd_X1_tellVersion_5 (xchk_cons xd_X1_tellVersion_6 (xchk_cons xd_X1_tellVersion_7 (xchk_cons xd_X1_tellVersion_8 (xchk_cons xd_X1_tellVersion_9 (xchk_cons xd_X1_tellVersion_10 xchk_nil)))))))))))
set_option maxRecDepth 100000 in
def xk_X2_afterStep_0 : List (Nat × Instr × Nat) := [(0, .aload_n 0, 1), (1, .getfield 41, 3), (4, .invokevirtual 125, 3), (7, .getfield 151, 3), (10, .lstore 4, 2), (12, .aload_n 0, 1), (13, .lload_n 1, 1), (14, .lload 4, 2), (16, .aload_n 0, 1), (17, .getfield 35, 3), (20, .iload_n 3, 1)]
set_option maxRecDepth 100000 in
theorem xd_X2_afterStep_0 : xchk1 cX2_afterStep xk_X2_afterStep_0 = true := xwalk_of 0 (by decide +kernel)
set_option maxRecDepth 100000 in
def xk_X2_afterStep_1 : List (Nat × Instr × Nat) := [(21, .iaload, 1), (22, .invokevirtual 162, 3), (25, .lstore 6, 2), (27, .lload 6, 2), (29, .lload_n 1, 1), (30, .ldc2_w 174, 3), (33, .lxor, 1), (34, .land, 1), (35, .ldc2_w 219, 3), (38, .land, 1), (39, .lstore 8, 2)]
set_option maxRecDepth 100000 in
theorem xd_X2_afterStep_1 : xchk1 cX2_afterStep xk_X2_afterStep_1 = true := xwalk_of 21 (by decide +kernel)
set_option maxRecDepth 100000 in
def xk_X2_afterStep_2 : List (Nat × Instr × Nat) := [(41, .aload_n 0, 1), (42, .lload_n 1, 1), (43, .lload 6, 2), (45, .land, 1), (46, .invokevirtual 221, 3), (49, .istore 10, 2), (51, .iconst 0, 1), (52, .istore 11, 2), (54, .iload 11, 2), (56, .aload_n 0, 1), (57, .getfield 21, 3)]
set_option maxRecDepth 100000 in
theorem xd_X2_afterStep_2 : xchk1 cX2_afterStep xk_X2_afterStep_2 = true := xwalk_of 41 (by decide +kernel)
set_option maxRecDepth 100000 in
def xk_X2_afterStep_3 : List (Nat × Instr × Nat) := [(60, .if_icmp .ge 88, 3), (63, .aload_n 0, 1), (64, .getfield 51, 3), (67, .lload 8, 2), (69, .aload_n 0, 1), (70, .getfield 18, 3), (73, .iload 11, 2), (75, .iaload, 1), (76, .invokevirtual 65, 3), (79, .istore 12, 2), (81, .iload 12, 2)]
set_option maxRecDepth 100000 in
theorem xd_X2_afterStep_3 : xchk1 cX2_afterStep xk_X2_afterStep_3 = true := xwalk_of 60 (by decide +kernel)
set_option maxRecDepth 100000 in
def xk_X2_afterStep_4 : List (Nat × Instr × Nat) := [(83, .iconst (-1), 1), (84, .if_icmp .eq 33, 3), (87, .iload 10, 2), (89, .aload_n 0, 1), (90, .getfield 51, 3), (93, .getfield 224, 3), (96, .iload 12, 2), (98, .iaload, 1), (99, .iand, 1), (100, .ifCond .eq 17, 3), (103, .aload_n 0, 1)]
set_option maxRecDepth 100000 in
theorem xd_X2_afterStep_4 : xchk1 cX2_afterStep xk_X2_afterStep_4 = true := xwalk_of 83 (by decide +kernel)
set_option maxRecDepth 100000 in
def xk_X2_afterStep_5 : List (Nat × Instr × Nat) := [(104, .iconst 2, 1), (105, .aload_n 0, 1), (106, .getfield 18, 3), (109, .iload 11, 2), (111, .iaload, 1), (112, .iload_n 3, 1), (113, .invokevirtual 227, 3), (116, .lreturn, 1), (117, .iload 10, 2), (119, .iload 12, 2), (121, .iconst (-1), 1)]
set_option maxRecDepth 100000 in
theorem xd_X2_afterStep_5 : xchk1 cX2_afterStep xk_X2_afterStep_5 = true := xwalk_of 104 (by decide +kernel)
set_option maxRecDepth 100000 in
def xk_X2_afterStep_6 : List (Nat × Instr × Nat) := [(122, .if_icmp .eq 16, 3), (125, .aload_n 0, 1), (126, .getfield 51, 3), (129, .getfield 224, 3), (132, .iload 12, 2), (134, .iaload, 1), (135, .goto 4, 3), (138, .iconst 0, 1), (139, .ior, 1), (140, .istore 10, 2), (142, .iinc 11 1, 3)]
set_option maxRecDepth 100000 in
theorem xd_X2_afterStep_6 : xchk1 cX2_afterStep xk_X2_afterStep_6 = true := xwalk_of 122 (by decide +kernel)
set_option maxRecDepth 100000 in
def xk_X2_afterStep_7 : List (Nat × Instr × Nat) := [(145, .goto (-91), 3), (148, .aload_n 0, 1), (149, .getfield 51, 3), (152, .lload 6, 2), (154, .invokevirtual 231, 3), (157, .aload_n 0, 1), (158, .getfield 41, 3), (161, .invokevirtual 125, 3), (164, .getfield 234, 3), (167, .if_icmp .le 20, 3), (170, .aload_n 0, 1)]
set_option maxRecDepth 100000 in
theorem xd_X2_afterStep_7 : xchk1 cX2_afterStep xk_X2_afterStep_7 = true := xwalk_of 145 (by decide +kernel)
set_option maxRecDepth 100000 in
def xk_X2_afterStep_8 : List (Nat × Instr × Nat) := [(171, .iconst 3, 1), (172, .aload_n 0, 1), (173, .aload_n 0, 1), (174, .getfield 35, 3), (177, .iload_n 3, 1), (178, .iaload, 1), (179, .invokevirtual 237, 3), (182, .iload_n 3, 1), (183, .invokevirtual 227, 3), (186, .lreturn, 1), (187, .iconst 0, 1)]
set_option maxRecDepth 100000 in
theorem xd_X2_afterStep_8 : xchk1 cX2_afterStep xk_X2_afterStep_8 = true := xwalk_of 171 (by decide +kernel)
set_option maxRecDepth 100000 in
def xk_X2_afterStep_9 : List (Nat × Instr × Nat) := [(188, .istore 11, 2), (190, .iload 11, 2), (192, .aload_n 0, 1), (193, .getfield 21, 3), (196, .if_icmp .ge 62, 3), (199, .aload_n 0, 1), (200, .getfield 51, 3), (203, .lload 8, 2), (205, .aload_n 0, 1), (206, .getfield 18, 3), (209, .iload 11, 2)]
set_option maxRecDepth 100000 in
theorem xd_X2_afterStep_9 : xchk1 cX2_afterStep xk_X2_afterStep_9 = true := xwalk_of 188 (by decide +kernel)
set_option maxRecDepth 100000 in
def xk_X2_afterStep_10 : List (Nat × Instr × Nat) := [(211, .iaload, 1), (212, .invokevirtual 65, 3), (215, .istore 12, 2), (217, .iload 12, 2), (219, .iconst (-1), 1), (220, .if_icmp .eq 32, 3), (223, .aload_n 0, 1), (224, .getfield 51, 3), (227, .getfield 240, 3), (230, .iload 12, 2), (232, .invokestatic 97, 3)]
set_option maxRecDepth 100000 in
theorem xd_X2_afterStep_10 : xchk1 cX2_afterStep xk_X2_afterStep_10 = true := xwalk_of 211 (by decide +kernel)
set_option maxRecDepth 100000 in
def xk_X2_afterStep_11 : List (Nat × Instr × Nat) := [(235, .ifCond .eq 17, 3), (238, .aload_n 0, 1), (239, .iconst 4, 1), (240, .aload_n 0, 1), (241, .getfield 18, 3), (244, .iload 11, 2), (246, .iaload, 1), (247, .iload_n 3, 1), (248, .invokevirtual 227, 3), (251, .lreturn, 1), (252, .iinc 11 1, 3)]
set_option maxRecDepth 100000 in
theorem xd_X2_afterStep_11 : xchk1 cX2_afterStep xk_X2_afterStep_11 = true := xwalk_of 235 (by decide +kernel)
set_option maxRecDepth 100000 in
def xk_X2_afterStep_12 : List (Nat × Instr × Nat) := [(255, .goto (-65), 3), (258, .lload 6, 2), (260, .lreturn, 1)]
set_option maxRecDepth 100000 in
theorem xd_X2_afterStep_12 : xchk1 cX2_afterStep xk_X2_afterStep_12 = true := xwalk_of 255 (by decide +kernel)
set_option maxRecDepth 100000 in
def xk_X2_afterStep : XT (Instr × Nat) := [(21, xk_X2_afterStep_0),
  (41, xk_X2_afterStep_1),
  (60, xk_X2_afterStep_2),
  (83, xk_X2_afterStep_3),
  (104, xk_X2_afterStep_4),
  (122, xk_X2_afterStep_5),
  (145, xk_X2_afterStep_6),
  (171, xk_X2_afterStep_7),
  (188, xk_X2_afterStep_8),
  (211, xk_X2_afterStep_9),
  (235, xk_X2_afterStep_10),
  (255, xk_X2_afterStep_11),
  (100000, xk_X2_afterStep_12)]
set_option maxRecDepth 100000 in
theorem xd_X2_afterStep : xchk cX2_afterStep xk_X2_afterStep = true := (xchk_cons xd_X2_afterStep_0 (xchk_cons xd_X2_afterStep_1 (xchk_cons xd_X2_afterStep_2 (xchk_cons xd_X2_afterStep_3 (xchk_cons xd_X2_afterStep_4 (xchk_cons xd_X2_afterStep_5 (xchk_cons xd_X2_afterStep_6 (xchk_cons xd_X2_afterStep_7 (xchk_cons xd_X2_afterStep_8 (xchk_cons xd_X2_afterStep_9 (xchk_cons xd_X2_afterStep_10 (xchk_cons xd_X2_afterStep_11 (xchk_cons xd_X2_afterStep_12 xchk_nil)))))))))))))
set_option maxRecDepth 100000 in
def xk_X2_aheadOf : XT (Instr × Nat) := [(12, [(0, .aload_n 0, 1), (1, .getfield 51, 3), (4, .lload_n 2, 1), (5, .iload_n 1, 1), (6, .invokevirtual 65, 3), (9, .istore 4, 2), (11, .lconst 0, 1)]),
  (25, [(12, .lstore 5, 2), (14, .iconst 0, 1), (15, .istore 7, 2), (17, .iload 4, 2), (19, .iconst (-1), 1), (20, .if_icmp .eq 66, 3), (23, .iload 7, 2)]),
  (40, [(25, .aload_n 0, 1), (26, .getfield 51, 3), (29, .getfield 77, 3), (32, .iload 4, 2), (34, .iaload, 1), (35, .if_icmp .ge 51, 3), (38, .lload 5, 2)]),
  (53, [(40, .aload_n 0, 1), (41, .getfield 51, 3), (44, .getfield 80, 3), (47, .iload 4, 2), (49, .iconst 3, 1), (50, .imul, 1), (51, .iload 7, 2)]),
  (67, [(53, .iadd, 1), (54, .baload, 1), (55, .ifCond .eq 21, 3), (58, .aload_n 0, 1), (59, .getfield 52, 3), (62, .getfield 84, 3), (65, .iload 4, 2)]),
  (77, [(67, .iconst 3, 1), (68, .imul, 1), (69, .iload 7, 2), (71, .iadd, 1), (72, .laload, 1), (73, .goto 4, 3), (76, .lconst 0, 1)]),
  (90, [(77, .lor, 1), (78, .lstore 5, 2), (80, .iinc 7 1, 3), (83, .goto (-66), 3), (86, .aload_n 0, 1), (87, .lload 5, 2), (89, .lload_n 2, 1)]),
  (99, [(90, .land, 1), (91, .invokevirtual 90, 3), (94, .iconst 1, 1), (95, .iload_n 1, 1), (96, .ishl, 1), (97, .iconst (-1), 1), (98, .ixor, 1)]),
  (100000, [(99, .iand, 1), (100, .ireturn, 1)])]
set_option maxRecDepth 100000 in
theorem xd_X2_aheadOf : xchk cX2_aheadOf xk_X2_aheadOf = true := xchk_of (by decide +kernel)
set_option maxRecDepth 100000 in
def xk_X2_arrange_0 : List (Nat × Instr × Nat) := [(0, .iconst 0, 1), (1, .istore_n 3, 1), (2, .iconst 0, 1), (3, .istore 4, 2), (5, .iload 4, 2), (7, .aload_n 0, 1), (8, .getfield 51, 3), (11, .getfield 56, 3), (14, .if_icmp .ge 48, 3)]
set_option maxRecDepth 100000 in
theorem xd_X2_arrange_0 : xchk1 cX2_arrange xk_X2_arrange_0 = true := xwalk_of 0 (by decide +kernel)
set_option maxRecDepth 100000 in
def xk_X2_arrange_1 : List (Nat × Instr × Nat) := [(17, .aload_n 0, 1), (18, .getfield 9, 3), (21, .iload 4, 2), (23, .aload_n 0, 1), (24, .iload 4, 2), (26, .lload_n 1, 1), (27, .invokevirtual 61, 3), (30, .iastore, 1), (31, .iload_n 3, 1)]
set_option maxRecDepth 100000 in
theorem xd_X2_arrange_1 : xchk1 cX2_arrange xk_X2_arrange_1 = true := xwalk_of 17 (by decide +kernel)
set_option maxRecDepth 100000 in
def xk_X2_arrange_2 : List (Nat × Instr × Nat) := [(32, .aload_n 0, 1), (33, .getfield 51, 3), (36, .lload_n 1, 1), (37, .iload 4, 2), (39, .invokevirtual 65, 3), (42, .iconst (-1), 1), (43, .if_icmp .eq 10, 3), (46, .iconst 1, 1), (47, .iload 4, 2)]
set_option maxRecDepth 100000 in
theorem xd_X2_arrange_2 : xchk1 cX2_arrange xk_X2_arrange_2 = true := xwalk_of 32 (by decide +kernel)
set_option maxRecDepth 100000 in
def xk_X2_arrange_3 : List (Nat × Instr × Nat) := [(49, .ishl, 1), (50, .goto 4, 3), (53, .iconst 0, 1), (54, .ior, 1), (55, .istore_n 3, 1), (56, .iinc 4 1, 3), (59, .goto (-54), 3), (62, .aload_n 0, 1), (63, .iconst 0, 1)]
set_option maxRecDepth 100000 in
theorem xd_X2_arrange_3 : xchk1 cX2_arrange xk_X2_arrange_3 = true := xwalk_of 49 (by decide +kernel)
set_option maxRecDepth 100000 in
def xk_X2_arrange_4 : List (Nat × Instr × Nat) := [(64, .putfield 21, 3), (67, .aload_n 0, 1), (68, .iload_n 3, 1), (69, .invokevirtual 69, 3), (72, .istore 4, 2), (74, .iconst 0, 1), (75, .istore 5, 2), (77, .iload 5, 2), (79, .bipush 12, 2)]
set_option maxRecDepth 100000 in
theorem xd_X2_arrange_4 : xchk1 cX2_arrange xk_X2_arrange_4 = true := xwalk_of 64 (by decide +kernel)
set_option maxRecDepth 100000 in
def xk_X2_arrange_5 : List (Nat × Instr × Nat) := [(81, .if_icmp .ge 48, 3), (84, .iload 4, 2), (86, .iconst (-1), 1), (87, .if_icmp .eq 42, 3), (90, .aload_n 0, 1), (91, .getfield 18, 3), (94, .iload 5, 2), (96, .iload 4, 2), (98, .iastore, 1)]
set_option maxRecDepth 100000 in
theorem xd_X2_arrange_5 : xchk1 cX2_arrange xk_X2_arrange_5 = true := xwalk_of 81 (by decide +kernel)
set_option maxRecDepth 100000 in
def xk_X2_arrange_6 : List (Nat × Instr × Nat) := [(99, .aload_n 0, 1), (100, .iload 5, 2), (102, .iconst 1, 1), (103, .iadd, 1), (104, .putfield 21, 3), (107, .iload_n 3, 1), (108, .iconst 1, 1), (109, .iload 4, 2), (111, .ishl, 1)]
set_option maxRecDepth 100000 in
theorem xd_X2_arrange_6 : xchk1 cX2_arrange xk_X2_arrange_6 = true := xwalk_of 99 (by decide +kernel)
set_option maxRecDepth 100000 in
def xk_X2_arrange_7 : List (Nat × Instr × Nat) := [(112, .iconst (-1), 1), (113, .ixor, 1), (114, .iand, 1), (115, .istore_n 3, 1), (116, .aload_n 0, 1), (117, .iload_n 3, 1), (118, .invokevirtual 69, 3), (121, .istore 4, 2), (123, .iinc 5 1, 3)]
set_option maxRecDepth 100000 in
theorem xd_X2_arrange_7 : xchk1 cX2_arrange xk_X2_arrange_7 = true := xwalk_of 112 (by decide +kernel)
set_option maxRecDepth 100000 in
def xk_X2_arrange_8 : List (Nat × Instr × Nat) := [(126, .goto (-49), 3), (129, .aload_n 0, 1), (130, .iload_n 3, 1), (131, .ifCond .eq 7, 3), (134, .iconst 1, 1), (135, .goto 4, 3), (138, .iconst 0, 1), (139, .putfield 25, 3), (142, .iconst 0, 1)]
set_option maxRecDepth 100000 in
theorem xd_X2_arrange_8 : xchk1 cX2_arrange xk_X2_arrange_8 = true := xwalk_of 126 (by decide +kernel)
set_option maxRecDepth 100000 in
def xk_X2_arrange_9 : List (Nat × Instr × Nat) := [(143, .istore 5, 2), (145, .iload 5, 2), (147, .aload_n 0, 1), (148, .getfield 51, 3), (151, .getfield 56, 3), (154, .if_icmp .ge 27, 3), (157, .aload_n 0, 1), (158, .getfield 25, 3), (161, .ifCond .eq 20, 3)]
set_option maxRecDepth 100000 in
theorem xd_X2_arrange_9 : xchk1 cX2_arrange xk_X2_arrange_9 = true := xwalk_of 143 (by decide +kernel)
set_option maxRecDepth 100000 in
def xk_X2_arrange_10 : List (Nat × Instr × Nat) := [(164, .aload_n 0, 1), (165, .iload 5, 2), (167, .iload_n 3, 1), (168, .invokevirtual 73, 3), (171, .ifCond .eq 4, 3), (174, .return_, 1), (175, .iinc 5 1, 3), (178, .goto (-33), 3), (181, .return_, 1)]
set_option maxRecDepth 100000 in
theorem xd_X2_arrange_10 : xchk1 cX2_arrange xk_X2_arrange_10 = true := xwalk_of 164 (by decide +kernel)
set_option maxRecDepth 100000 in
def xk_X2_arrange : XT (Instr × Nat) := [(17, xk_X2_arrange_0),
  (32, xk_X2_arrange_1),
  (49, xk_X2_arrange_2),
  (64, xk_X2_arrange_3),
  (81, xk_X2_arrange_4),
  (99, xk_X2_arrange_5),
  (112, xk_X2_arrange_6),
  (126, xk_X2_arrange_7),
  (143, xk_X2_arrange_8),
  (164, xk_X2_arrange_9),
  (100000, xk_X2_arrange_10)]
set_option maxRecDepth 100000 in
theorem xd_X2_arrange : xchk cX2_arrange xk_X2_arrange = true := (xchk_cons xd_X2_arrange_0 (xchk_cons xd_X2_arrange_1 (xchk_cons xd_X2_arrange_2 (xchk_cons xd_X2_arrange_3 (xchk_cons xd_X2_arrange_4 (xchk_cons xd_X2_arrange_5 (xchk_cons xd_X2_arrange_6 (xchk_cons xd_X2_arrange_7 (xchk_cons xd_X2_arrange_8 (xchk_cons xd_X2_arrange_9 (xchk_cons xd_X2_arrange_10 xchk_nil)))))))))))
set_option maxRecDepth 100000 in
def xk_X2_comingAt : XT (Instr × Nat) := [(12, [(0, .aload_n 0, 1), (1, .getfield 41, 3), (4, .getfield 182, 3), (7, .istore_n 3, 1), (8, .iconst 0, 1), (9, .istore 4, 2), (11, .iconst 0, 1)]),
  (25, [(12, .istore 5, 2), (14, .iload 5, 2), (16, .aload_n 0, 1), (17, .getfield 21, 3), (20, .if_icmp .ge 81, 3), (23, .aload_n 0, 1), (24, .aload_n 0, 1)]),
  (39, [(25, .getfield 18, 3), (28, .iload 5, 2), (30, .iaload, 1), (31, .invokevirtual 185, 3), (34, .istore 6, 2), (36, .iload 6, 2), (38, .iconst (-1), 1)]),
  (53, [(39, .if_icmp .eq 56, 3), (42, .aload_n 0, 1), (43, .getfield 41, 3), (46, .iload 6, 2), (48, .iload_n 3, 1), (49, .iconst 0, 1), (50, .invokevirtual 188, 3)]),
  (67, [(53, .istore 7, 2), (55, .iload 4, 2), (57, .iload_n 1, 1), (58, .if_icmp .ne 20, 3), (61, .iload_n 2, 1), (62, .ifCond .eq 8, 3), (65, .iload 7, 2)]),
  (79, [(67, .goto 10, 3), (70, .aload_n 0, 1), (71, .getfield 18, 3), (74, .iload 5, 2), (76, .iaload, 1), (77, .ireturn, 1), (78, .iload_n 3, 1)]),
  (91, [(79, .iload 7, 2), (81, .iconst (-1), 1), (82, .if_icmp .eq 7, 3), (85, .iconst 1, 1), (86, .goto 4, 3), (89, .iconst 0, 1), (90, .iadd, 1)]),
  (100000, [(91, .istore_n 3, 1), (92, .iinc 4 1, 3), (95, .iinc 5 1, 3), (98, .goto (-84), 3), (101, .iconst (-1), 1), (102, .ireturn, 1)])]
set_option maxRecDepth 100000 in
theorem xd_X2_comingAt : xchk cX2_comingAt xk_X2_comingAt = true := xchk_of (by decide +kernel)
set_option maxRecDepth 100000 in
def xk_X2_comingCount : XT (Instr × Nat) := [(8, [(0, .aload_n 0, 1), (1, .getfield 41, 3), (4, .invokevirtual 125, 3), (7, .astore_n 1, 1)]),
  (16, [(8, .aload_n 1, 1), (9, .getfield 151, 3), (12, .aload_n 1, 1), (13, .getfield 147, 3)]),
  (24, [(16, .ldc2_w 174, 3), (19, .lxor, 1), (20, .land, 1), (21, .invokestatic 179, 3)]),
  (100000, [(24, .ireturn, 1)])]
set_option maxRecDepth 100000 in
theorem xd_X2_comingCount : xchk cX2_comingCount xk_X2_comingCount = true := xchk_of (by decide +kernel)
set_option maxRecDepth 100000 in
def xk_X2_comingOf : XT (Instr × Nat) := [(8, [(0, .aload_n 0, 1), (1, .getfield 41, 3), (4, .invokevirtual 125, 3), (7, .astore_n 2, 1)]),
  (16, [(8, .aload_n 0, 1), (9, .getfield 51, 3), (12, .aload_n 2, 1), (13, .getfield 151, 3)]),
  (24, [(16, .aload_n 2, 1), (17, .getfield 147, 3), (20, .ldc2_w 174, 3), (23, .lxor, 1)]),
  (100000, [(24, .land, 1), (25, .iload_n 1, 1), (26, .invokevirtual 65, 3), (29, .ireturn, 1)])]
set_option maxRecDepth 100000 in
theorem xd_X2_comingOf : xchk cX2_comingOf xk_X2_comingOf = true := xchk_of (by decide +kernel)
set_option maxRecDepth 100000 in
def xk_X2_failedBy : XT (Instr × Nat) := [(8, [(0, .aload_n 0, 1), (1, .getfield 41, 3), (4, .invokevirtual 125, 3), (7, .iload_n 1, 1)]),
  (16, [(8, .iload_n 2, 1), (9, .iload_n 3, 1), (10, .invokevirtual 192, 3), (13, .ldc2_w 207, 3)]),
  (100000, [(16, .lreturn, 1)])]
set_option maxRecDepth 100000 in
theorem xd_X2_failedBy : xchk cX2_failedBy xk_X2_failedBy = true := xchk_of (by decide +kernel)
set_option maxRecDepth 100000 in
def xk_X2_filesOf : XT (Instr × Nat) := [(7, [(0, .iconst 0, 1), (1, .istore_n 3, 1), (2, .iconst 0, 1), (3, .istore 4, 2), (5, .iload 4, 2)]),
  (18, [(7, .aload_n 0, 1), (8, .getfield 51, 3), (11, .getfield 94, 3), (14, .if_icmp .ge 35, 3), (17, .iload_n 3, 1)]),
  (28, [(18, .lload_n 1, 1), (19, .iload 4, 2), (21, .invokestatic 97, 3), (24, .ifCond .eq 16, 3), (27, .aload_n 0, 1)]),
  (40, [(28, .getfield 51, 3), (31, .getfield 224, 3), (34, .iload 4, 2), (36, .iaload, 1), (37, .goto 4, 3)]),
  (49, [(40, .iconst 0, 1), (41, .ior, 1), (42, .istore_n 3, 1), (43, .iinc 4 1, 3), (46, .goto (-41), 3)]),
  (100000, [(49, .iload_n 3, 1), (50, .ireturn, 1)])]
set_option maxRecDepth 100000 in
theorem xd_X2_filesOf : xchk cX2_filesOf xk_X2_filesOf = true := xchk_of (by decide +kernel)
set_option maxRecDepth 100000 in
def xk_X2_findSteps : XT (Instr × Nat) := [(15, [(0, .aload_n 0, 1), (1, .getfield 41, 3), (4, .invokevirtual 125, 3), (7, .getfield 147, 3), (10, .lstore_n 1, 1), (11, .aload_n 0, 1), (12, .getfield 41, 3)]),
  (28, [(15, .invokevirtual 125, 3), (18, .getfield 151, 3), (21, .lstore_n 3, 1), (22, .aload_n 0, 1), (23, .getfield 51, 3), (26, .lload_n 1, 1), (27, .lload_n 3, 1)]),
  (41, [(28, .invokevirtual 154, 3), (31, .istore 5, 2), (33, .aload_n 0, 1), (34, .iconst 0, 1), (35, .putfield 38, 3), (38, .iconst 0, 1), (39, .istore 6, 2)]),
  (55, [(41, .iload 6, 2), (43, .bipush 12, 2), (45, .if_icmp .ge 59, 3), (48, .iload 5, 2), (50, .ifCond .eq 54, 3), (53, .aload_n 0, 1), (54, .lload_n 1, 1)]),
  (69, [(55, .lload_n 3, 1), (56, .iload 5, 2), (58, .invokevirtual 158, 3), (61, .istore 7, 2), (63, .aload_n 0, 1), (64, .getfield 35, 3), (67, .iload 6, 2)]),
  (80, [(69, .iload 7, 2), (71, .iastore, 1), (72, .aload_n 0, 1), (73, .iload 6, 2), (75, .iconst 1, 1), (76, .iadd, 1), (77, .putfield 38, 3)]),
  (91, [(80, .aload_n 0, 1), (81, .lload_n 1, 1), (82, .lload_n 3, 1), (83, .iload 7, 2), (85, .invokevirtual 162, 3), (88, .lstore_n 1, 1), (89, .iload 5, 2)]),
  (104, [(91, .iload 7, 2), (93, .iconst (-1), 1), (94, .ixor, 1), (95, .iand, 1), (96, .istore 5, 2), (98, .iinc 6 1, 3), (101, .goto (-60), 3)]),
  (100000, [(104, .return_, 1)])]
set_option maxRecDepth 100000 in
theorem xd_X2_findSteps : xchk cX2_findSteps xk_X2_findSteps = true := xchk_of (by decide +kernel)
set_option maxRecDepth 100000 in
def xk_X2_firstFree : XT (Instr × Nat) := [(7, [(0, .iconst 0, 1), (1, .istore_n 2, 1), (2, .iload_n 2, 1), (3, .aload_n 0, 1), (4, .getfield 51, 3)]),
  (16, [(7, .getfield 56, 3), (10, .if_icmp .ge 30, 3), (13, .iload_n 1, 1), (14, .iload_n 2, 1), (15, .ishr, 1)]),
  (25, [(16, .iconst 1, 1), (17, .iand, 1), (18, .ifCond .eq 16, 3), (21, .aload_n 0, 1), (22, .getfield 9, 3)]),
  (32, [(25, .iload_n 2, 1), (26, .iaload, 1), (27, .iload_n 1, 1), (28, .iand, 1), (29, .ifCond .ne 5, 3)]),
  (41, [(32, .iload_n 2, 1), (33, .ireturn, 1), (34, .iinc 2 1, 3), (37, .goto (-35), 3), (40, .iconst (-1), 1)]),
  (100000, [(41, .ireturn, 1)])]
set_option maxRecDepth 100000 in
theorem xd_X2_firstFree : xchk cX2_firstFree xk_X2_firstFree = true := xchk_of (by decide +kernel)
set_option maxRecDepth 100000 in
def xk_X2_firstWishFor : XT (Instr × Nat) := [(9, [(0, .aload_n 0, 1), (1, .getfield 41, 3), (4, .invokevirtual 125, 3), (7, .astore_n 2, 1), (8, .iconst 0, 1)]),
  (18, [(9, .istore_n 3, 1), (10, .iload_n 3, 1), (11, .aload_n 2, 1), (12, .getfield 129, 3), (15, .if_icmp .ge 41, 3)]),
  (27, [(18, .iload_n 1, 1), (19, .iconst (-1), 1), (20, .if_icmp .eq 36, 3), (23, .aload_n 2, 1), (24, .getfield 134, 3)]),
  (36, [(27, .iload_n 3, 1), (28, .aaload, 1), (29, .ifnull 21, 3), (32, .aload_n 0, 1), (33, .getfield 52, 3)]),
  (45, [(36, .getfield 138, 3), (39, .iload_n 3, 1), (40, .laload, 1), (41, .iload_n 1, 1), (42, .invokestatic 97, 3)]),
  (56, [(45, .ifCond .eq 5, 3), (48, .iload_n 3, 1), (49, .ireturn, 1), (50, .iinc 3 1, 3), (53, .goto (-43), 3)]),
  (100000, [(56, .iconst (-1), 1), (57, .ireturn, 1)])]
set_option maxRecDepth 100000 in
theorem xd_X2_firstWishFor : xchk cX2_firstWishFor xk_X2_firstWishFor = true := xchk_of (by decide +kernel)
set_option maxRecDepth 100000 in
def xk_X2_greatestOf : XT (Instr × Nat) := [(4, [(0, .iconst (-1), 1), (1, .istore_n 2, 1), (2, .iconst 0, 1), (3, .istore_n 3, 1)]),
  (12, [(4, .iload_n 3, 1), (5, .aload_n 0, 1), (6, .getfield 51, 3), (9, .getfield 56, 3)]),
  (18, [(12, .if_icmp .ge 23, 3), (15, .iload_n 1, 1), (16, .iload_n 3, 1), (17, .ishr, 1)]),
  (24, [(18, .iconst 1, 1), (19, .iand, 1), (20, .ifCond .eq 7, 3), (23, .iload_n 3, 1)]),
  (32, [(24, .goto 4, 3), (27, .iload_n 2, 1), (28, .istore_n 2, 1), (29, .iinc 3 1, 3)]),
  (100000, [(32, .goto (-28), 3), (35, .iload_n 2, 1), (36, .ireturn, 1)])]
set_option maxRecDepth 100000 in
theorem xd_X2_greatestOf : xchk cX2_greatestOf xk_X2_greatestOf = true := xchk_of (by decide +kernel)
set_option maxRecDepth 100000 in
def xk_X2_init : XT (Instr × Nat) := [(12, [(0, .aload_n 0, 1), (1, .invokespecial 3, 3), (4, .aload_n 0, 1), (5, .bipush 12, 2), (7, .newarray .int, 2), (9, .putfield 9, 3)]),
  (23, [(12, .aload_n 0, 1), (13, .bipush 13, 2), (15, .newarray .int, 2), (17, .putfield 15, 3), (20, .aload_n 0, 1), (21, .bipush 12, 2)]),
  (34, [(23, .newarray .int, 2), (25, .putfield 18, 3), (28, .aload_n 0, 1), (29, .iconst 0, 1), (30, .putfield 21, 3), (33, .aload_n 0, 1)]),
  (46, [(34, .iconst 0, 1), (35, .putfield 25, 3), (38, .aload_n 0, 1), (39, .bipush 12, 2), (41, .newarray .int, 2), (43, .putfield 29, 3)]),
  (57, [(46, .aload_n 0, 1), (47, .bipush 12, 2), (49, .newarray .int, 2), (51, .putfield 32, 3), (54, .aload_n 0, 1), (55, .bipush 12, 2)]),
  (68, [(57, .newarray .int, 2), (59, .putfield 35, 3), (62, .aload_n 0, 1), (63, .iconst 0, 1), (64, .putfield 38, 3), (67, .aload_n 0, 1)]),
  (80, [(68, .aload_n 1, 1), (69, .putfield 41, 3), (72, .aload_n 0, 1), (73, .aload_n 1, 1), (74, .getfield 45, 3), (77, .putfield 51, 3)]),
  (100000, [(80, .aload_n 0, 1), (81, .aload_n 2, 1), (82, .putfield 52, 3), (85, .return_, 1)])]
set_option maxRecDepth 100000 in
theorem xd_X2_init : xchk cX2_init xk_X2_init = true := xchk_of (by decide +kernel)
set_option maxRecDepth 100000 in
def xk_X2_isAllFetched : XT (Instr × Nat) := [(11, [(0, .iconst 0, 1), (1, .istore_n 1, 1), (2, .iload_n 1, 1), (3, .aload_n 0, 1), (4, .getfield 21, 3), (7, .if_icmp .ge 88, 3), (10, .aload_n 0, 1)]),
  (26, [(11, .getfield 41, 3), (14, .getfield 216, 3), (17, .ifCond .le 78, 3), (20, .aload_n 0, 1), (21, .aload_n 0, 1), (22, .getfield 18, 3), (25, .iload_n 1, 1)]),
  (37, [(26, .iaload, 1), (27, .invokevirtual 185, 3), (30, .istore_n 2, 1), (31, .iload_n 2, 1), (32, .iconst (-1), 1), (33, .if_icmp .eq 56, 3), (36, .aload_n 0, 1)]),
  (52, [(37, .getfield 41, 3), (40, .iload_n 2, 1), (41, .aload_n 0, 1), (42, .getfield 41, 3), (45, .getfield 182, 3), (48, .iconst 1, 1), (49, .invokevirtual 188, 3)]),
  (65, [(52, .iconst (-1), 1), (53, .if_icmp .ne 23, 3), (56, .aload_n 0, 1), (57, .getfield 41, 3), (60, .invokevirtual 125, 3), (63, .iconst 1, 1), (64, .aload_n 0, 1)]),
  (76, [(65, .getfield 18, 3), (68, .iload_n 1, 1), (69, .iaload, 1), (70, .iconst (-1), 1), (71, .invokevirtual 192, 3), (74, .iconst 0, 1), (75, .ireturn, 1)]),
  (89, [(76, .aload_n 0, 1), (77, .getfield 41, 3), (80, .dup, 1), (81, .getfield 182, 3), (84, .iconst 1, 1), (85, .iadd, 1), (86, .putfield 182, 3)]),
  (100000, [(89, .iinc 1 1, 3), (92, .goto (-90), 3), (95, .iconst 1, 1), (96, .ireturn, 1)])]
set_option maxRecDepth 100000 in
theorem xd_X2_isAllFetched : xchk cX2_isAllFetched xk_X2_isAllFetched = true := xchk_of (by decide +kernel)
set_option maxRecDepth 100000 in
def xk_X2_isRingFrom_0 : List (Nat × Instr × Nat) := [(0, .iload_n 2, 1), (1, .iconst 1, 1), (2, .iload_n 1, 1), (3, .ishl, 1), (4, .ineg, 1), (5, .iand, 1), (6, .iconst 1, 1), (7, .iload_n 1, 1), (8, .ishl, 1)]
set_option maxRecDepth 100000 in
theorem xd_X2_isRingFrom_0 : xchk1 cX2_isRingFrom xk_X2_isRingFrom_0 = true := xwalk_of 0 (by decide +kernel)
set_option maxRecDepth 100000 in
def xk_X2_isRingFrom_1 : List (Nat × Instr × Nat) := [(9, .iconst (-1), 1), (10, .ixor, 1), (11, .iand, 1), (12, .istore_n 3, 1), (13, .aload_n 0, 1), (14, .getfield 15, 3), (17, .iconst 0, 1), (18, .iload_n 2, 1), (19, .iconst 1, 1)]
set_option maxRecDepth 100000 in
theorem xd_X2_isRingFrom_1 : xchk1 cX2_isRingFrom xk_X2_isRingFrom_1 = true := xwalk_of 9 (by decide +kernel)
set_option maxRecDepth 100000 in
def xk_X2_isRingFrom_2 : List (Nat × Instr × Nat) := [(20, .iload_n 1, 1), (21, .ishl, 1), (22, .iand, 1), (23, .iastore, 1), (24, .iconst 1, 1), (25, .istore 4, 2), (27, .iload 4, 2), (29, .bipush 12, 2), (31, .if_icmp .gt 102, 3)]
set_option maxRecDepth 100000 in
theorem xd_X2_isRingFrom_2 : xchk1 cX2_isRingFrom xk_X2_isRingFrom_2 = true := xwalk_of 20 (by decide +kernel)
set_option maxRecDepth 100000 in
def xk_X2_isRingFrom_3 : List (Nat × Instr × Nat) := [(34, .iconst 0, 1), (35, .istore 5, 2), (37, .iconst 0, 1), (38, .istore 6, 2), (40, .iload 6, 2), (42, .aload_n 0, 1), (43, .getfield 51, 3), (46, .getfield 56, 3), (49, .if_icmp .ge 42, 3)]
set_option maxRecDepth 100000 in
theorem xd_X2_isRingFrom_3 : xchk1 cX2_isRingFrom xk_X2_isRingFrom_3 = true := xwalk_of 34 (by decide +kernel)
set_option maxRecDepth 100000 in
def xk_X2_isRingFrom_4 : List (Nat × Instr × Nat) := [(52, .iload 5, 2), (54, .aload_n 0, 1), (55, .getfield 15, 3), (58, .iload 4, 2), (60, .iconst 1, 1), (61, .isub, 1), (62, .iaload, 1), (63, .iload 6, 2), (65, .ishr, 1)]
set_option maxRecDepth 100000 in
theorem xd_X2_isRingFrom_4 : xchk1 cX2_isRingFrom xk_X2_isRingFrom_4 = true := xwalk_of 52 (by decide +kernel)
set_option maxRecDepth 100000 in
def xk_X2_isRingFrom_5 : List (Nat × Instr × Nat) := [(66, .iconst 1, 1), (67, .iand, 1), (68, .ifCond .eq 13, 3), (71, .aload_n 0, 1), (72, .getfield 9, 3), (75, .iload 6, 2), (77, .iaload, 1), (78, .goto 4, 3), (81, .iconst 0, 1)]
set_option maxRecDepth 100000 in
theorem xd_X2_isRingFrom_5 : xchk1 cX2_isRingFrom xk_X2_isRingFrom_5 = true := xwalk_of 66 (by decide +kernel)
set_option maxRecDepth 100000 in
def xk_X2_isRingFrom_6 : List (Nat × Instr × Nat) := [(82, .ior, 1), (83, .istore 5, 2), (85, .iinc 6 1, 3), (88, .goto (-48), 3), (91, .iload 5, 2), (93, .iload_n 1, 1), (94, .ishr, 1), (95, .iconst 1, 1), (96, .iand, 1)]
set_option maxRecDepth 100000 in
theorem xd_X2_isRingFrom_6 : xchk1 cX2_isRingFrom xk_X2_isRingFrom_6 = true := xwalk_of 82 (by decide +kernel)
set_option maxRecDepth 100000 in
def xk_X2_isRingFrom_7 : List (Nat × Instr × Nat) := [(97, .ifCond .eq 12, 3), (100, .aload_n 0, 1), (101, .iload_n 1, 1), (102, .iload 4, 2), (104, .invokevirtual 104, 3), (107, .iconst 1, 1), (108, .ireturn, 1), (109, .aload_n 0, 1), (110, .getfield 15, 3)]
set_option maxRecDepth 100000 in
theorem xd_X2_isRingFrom_7 : xchk1 cX2_isRingFrom xk_X2_isRingFrom_7 = true := xwalk_of 97 (by decide +kernel)
set_option maxRecDepth 100000 in
def xk_X2_isRingFrom_8 : List (Nat × Instr × Nat) := [(113, .iload 4, 2), (115, .iload 5, 2), (117, .iload_n 3, 1), (118, .iand, 1), (119, .iastore, 1), (120, .iload_n 3, 1), (121, .iload 5, 2), (123, .iconst (-1), 1), (124, .ixor, 1)]
set_option maxRecDepth 100000 in
theorem xd_X2_isRingFrom_8 : xchk1 cX2_isRingFrom xk_X2_isRingFrom_8 = true := xwalk_of 113 (by decide +kernel)
set_option maxRecDepth 100000 in
def xk_X2_isRingFrom_9 : List (Nat × Instr × Nat) := [(125, .iand, 1), (126, .istore_n 3, 1), (127, .iinc 4 1, 3), (130, .goto (-103), 3), (133, .iconst 0, 1), (134, .ireturn, 1)]
set_option maxRecDepth 100000 in
theorem xd_X2_isRingFrom_9 : xchk1 cX2_isRingFrom xk_X2_isRingFrom_9 = true := xwalk_of 125 (by decide +kernel)
set_option maxRecDepth 100000 in
def xk_X2_isRingFrom : XT (Instr × Nat) := [(9, xk_X2_isRingFrom_0),
  (20, xk_X2_isRingFrom_1),
  (34, xk_X2_isRingFrom_2),
  (52, xk_X2_isRingFrom_3),
  (66, xk_X2_isRingFrom_4),
  (82, xk_X2_isRingFrom_5),
  (97, xk_X2_isRingFrom_6),
  (113, xk_X2_isRingFrom_7),
  (125, xk_X2_isRingFrom_8),
  (100000, xk_X2_isRingFrom_9)]
set_option maxRecDepth 100000 in
theorem xd_X2_isRingFrom : xchk cX2_isRingFrom xk_X2_isRingFrom = true := (xchk_cons xd_X2_isRingFrom_0 (xchk_cons xd_X2_isRingFrom_1 (xchk_cons xd_X2_isRingFrom_2 (xchk_cons xd_X2_isRingFrom_3 (xchk_cons xd_X2_isRingFrom_4 (xchk_cons xd_X2_isRingFrom_5 (xchk_cons xd_X2_isRingFrom_6 (xchk_cons xd_X2_isRingFrom_7 (xchk_cons xd_X2_isRingFrom_8 (xchk_cons xd_X2_isRingFrom_9 xchk_nil))))))))))
set_option maxRecDepth 100000 in
def xk_X2_leastBehind : XT (Instr × Nat) := [(7, [(0, .iconst 0, 1), (1, .istore_n 3, 1), (2, .iload_n 3, 1), (3, .aload_n 0, 1), (4, .getfield 51, 3)]),
  (16, [(7, .getfield 56, 3), (10, .if_icmp .ge 32, 3), (13, .iload_n 2, 1), (14, .iload_n 3, 1), (15, .ishr, 1)]),
  (25, [(16, .iconst 1, 1), (17, .iand, 1), (18, .ifCond .eq 18, 3), (21, .aload_n 0, 1), (22, .getfield 9, 3)]),
  (30, [(25, .iload_n 3, 1), (26, .iaload, 1), (27, .iload_n 1, 1), (28, .ishr, 1), (29, .iconst 1, 1)]),
  (39, [(30, .iand, 1), (31, .ifCond .eq 5, 3), (34, .iload_n 3, 1), (35, .ireturn, 1), (36, .iinc 3 1, 3)]),
  (100000, [(39, .goto (-37), 3), (42, .iconst 0, 1), (43, .ireturn, 1)])]
set_option maxRecDepth 100000 in
theorem xd_X2_leastBehind : xchk cX2_leastBehind xk_X2_leastBehind = true := xchk_of (by decide +kernel)
set_option maxRecDepth 100000 in
def xk_X2_moved : XT (Instr × Nat) := [(8, [(0, .aload_n 0, 1), (1, .iload 5, 2), (3, .invokevirtual 170, 3), (6, .lstore 6, 2)]),
  (15, [(8, .lload_n 1, 1), (9, .lload 6, 2), (11, .ldc2_w 174, 3), (14, .lxor, 1)]),
  (20, [(15, .land, 1), (16, .lload_n 3, 1), (17, .lload 6, 2), (19, .land, 1)]),
  (100000, [(20, .lor, 1), (21, .lreturn, 1)])]
set_option maxRecDepth 100000 in
theorem xd_X2_moved : xchk cX2_moved xk_X2_moved = true := xchk_of (by decide +kernel)
set_option maxRecDepth 100000 in
def xk_X2_nextStep : XT (Instr × Nat) := [(9, [(0, .iconst 0, 1), (1, .istore 6, 2), (3, .iload 6, 2), (5, .aload_n 0, 1), (6, .getfield 51, 3)]),
  (20, [(9, .getfield 56, 3), (12, .if_icmp .ge 44, 3), (15, .iload 5, 2), (17, .iconst 1, 1), (18, .iload 6, 2)]),
  (29, [(20, .ishl, 1), (21, .iand, 1), (22, .istore 7, 2), (24, .iload 7, 2), (26, .ifCond .eq 24, 3)]),
  (36, [(29, .aload_n 0, 1), (30, .getfield 52, 3), (33, .aload_n 0, 1), (34, .lload_n 1, 1), (35, .lload_n 3, 1)]),
  (49, [(36, .iload 7, 2), (38, .invokevirtual 162, 3), (41, .invokevirtual 166, 3), (44, .ifCond .eq 6, 3), (47, .iload 7, 2)]),
  (100000, [(49, .ireturn, 1), (50, .iinc 6 1, 3), (53, .goto (-50), 3), (56, .iload 5, 2), (58, .ireturn, 1)])]
set_option maxRecDepth 100000 in
theorem xd_X2_nextStep : xchk cX2_nextStep xk_X2_nextStep = true := xchk_of (by decide +kernel)
set_option maxRecDepth 100000 in
def xk_X2_packsWith : XT (Instr × Nat) := [(7, [(0, .iconst 0, 1), (1, .istore_n 3, 1), (2, .iconst 0, 1), (3, .istore 4, 2), (5, .iload 4, 2)]),
  (18, [(7, .aload_n 0, 1), (8, .getfield 51, 3), (11, .getfield 94, 3), (14, .if_icmp .ge 37, 3), (17, .iload_n 3, 1)]),
  (28, [(18, .lload_n 1, 1), (19, .iload 4, 2), (21, .invokestatic 97, 3), (24, .ifCond .eq 18, 3), (27, .iconst 1, 1)]),
  (38, [(28, .aload_n 0, 1), (29, .getfield 51, 3), (32, .getfield 101, 3), (35, .iload 4, 2), (37, .iaload, 1)]),
  (45, [(38, .ishl, 1), (39, .goto 4, 3), (42, .iconst 0, 1), (43, .ior, 1), (44, .istore_n 3, 1)]),
  (100000, [(45, .iinc 4 1, 3), (48, .goto (-43), 3), (51, .iload_n 3, 1), (52, .ireturn, 1)])]
set_option maxRecDepth 100000 in
theorem xd_X2_packsWith : xchk cX2_packsWith xk_X2_packsWith = true := xchk_of (by decide +kernel)
set_option maxRecDepth 100000 in
def xk_X2_reach : XT (Instr × Nat) := [(16, [(0, .aload_n 0, 1), (1, .getfield 29, 3), (4, .iconst (-1), 1), (5, .invokestatic 112, 3), (8, .aload_n 0, 1), (9, .getfield 32, 3), (12, .iconst (-1), 1), (13, .invokestatic 112, 3)]),
  (30, [(16, .iconst 0, 1), (17, .istore_n 3, 1), (18, .iload_n 3, 1), (19, .aload_n 0, 1), (20, .getfield 51, 3), (23, .getfield 56, 3), (26, .if_icmp .ge 48, 3), (29, .aload_n 0, 1)]),
  (46, [(30, .aload_n 0, 1), (31, .getfield 51, 3), (34, .lload_n 1, 1), (35, .iload_n 3, 1), (36, .invokevirtual 65, 3), (39, .invokevirtual 118, 3), (42, .istore 4, 2), (44, .iload 4, 2)]),
  (60, [(46, .iconst (-1), 1), (47, .if_icmp .eq 21, 3), (50, .aload_n 0, 1), (51, .getfield 29, 3), (54, .iload_n 3, 1), (55, .bipush 100, 2), (57, .iload 4, 2), (59, .iadd, 1)]),
  (74, [(60, .iastore, 1), (61, .aload_n 0, 1), (62, .getfield 32, 3), (65, .iload_n 3, 1), (66, .iconst 1, 1), (67, .iastore, 1), (68, .iinc 3 1, 3), (71, .goto (-53), 3)]),
  (87, [(74, .iconst 1, 1), (75, .istore_n 3, 1), (76, .iload_n 3, 1), (77, .bipush 12, 2), (79, .if_icmp .gt 49, 3), (82, .iconst 0, 1), (83, .istore 4, 2), (85, .iload 4, 2)]),
  (104, [(87, .aload_n 0, 1), (88, .getfield 51, 3), (91, .getfield 56, 3), (94, .if_icmp .ge 28, 3), (97, .aload_n 0, 1), (98, .getfield 32, 3), (101, .iload 4, 2), (103, .iaload, 1)]),
  (119, [(104, .iload_n 3, 1), (105, .if_icmp .ne 11, 3), (108, .aload_n 0, 1), (109, .iload 4, 2), (111, .lload_n 1, 1), (112, .iload_n 3, 1), (113, .invokevirtual 121, 3), (116, .iinc 4 1, 3)]),
  (100000, [(119, .goto (-34), 3), (122, .iinc 3 1, 3), (125, .goto (-49), 3), (128, .return_, 1)])]
set_option maxRecDepth 100000 in
theorem xd_X2_reach : xchk cX2_reach xk_X2_reach = true := xchk_of (by decide +kernel)
set_option maxRecDepth 100000 in
def xk_X2_reachFrom_0 : List (Nat × Instr × Nat) := [(0, .aload_n 0, 1), (1, .getfield 51, 3), (4, .lload_n 2, 1), (5, .iload_n 1, 1), (6, .invokevirtual 65, 3), (9, .istore 5, 2), (11, .iload 5, 2), (13, .iconst (-1), 1), (14, .if_icmp .ne 4, 3)]
set_option maxRecDepth 100000 in
theorem xd_X2_reachFrom_0 : xchk1 cX2_reachFrom xk_X2_reachFrom_0 = true := xwalk_of 0 (by decide +kernel)
set_option maxRecDepth 100000 in
def xk_X2_reachFrom_1 : List (Nat × Instr × Nat) := [(17, .return_, 1), (18, .aload_n 0, 1), (19, .getfield 52, 3), (22, .iload 5, 2), (24, .lload_n 2, 1), (25, .invokevirtual 140, 3), (28, .ifCond .eq 16, 3), (31, .aload_n 0, 1), (32, .getfield 52, 3)]
set_option maxRecDepth 100000 in
theorem xd_X2_reachFrom_1 : xchk1 cX2_reachFrom xk_X2_reachFrom_1 = true := xwalk_of 17 (by decide +kernel)
set_option maxRecDepth 100000 in
def xk_X2_reachFrom_2 : List (Nat × Instr × Nat) := [(35, .getfield 144, 3), (38, .iload 5, 2), (40, .laload, 1), (41, .goto 4, 3), (44, .lconst 0, 1), (45, .lstore 6, 2), (47, .iconst 0, 1), (48, .istore 8, 2), (50, .iload 8, 2)]
set_option maxRecDepth 100000 in
theorem xd_X2_reachFrom_2 : xchk1 cX2_reachFrom xk_X2_reachFrom_2 = true := xwalk_of 35 (by decide +kernel)
set_option maxRecDepth 100000 in
def xk_X2_reachFrom_3 : List (Nat × Instr × Nat) := [(52, .aload_n 0, 1), (53, .getfield 51, 3), (56, .getfield 77, 3), (59, .iload 5, 2), (61, .iaload, 1), (62, .if_icmp .ge 29, 3), (65, .lload 6, 2), (67, .aload_n 0, 1), (68, .getfield 52, 3)]
set_option maxRecDepth 100000 in
theorem xd_X2_reachFrom_3 : xchk1 cX2_reachFrom xk_X2_reachFrom_3 = true := xwalk_of 52 (by decide +kernel)
set_option maxRecDepth 100000 in
def xk_X2_reachFrom_4 : List (Nat × Instr × Nat) := [(71, .getfield 84, 3), (74, .iload 5, 2), (76, .iconst 3, 1), (77, .imul, 1), (78, .iload 8, 2), (80, .iadd, 1), (81, .laload, 1), (82, .lor, 1), (83, .lstore 6, 2)]
set_option maxRecDepth 100000 in
theorem xd_X2_reachFrom_4 : xchk1 cX2_reachFrom xk_X2_reachFrom_4 = true := xwalk_of 71 (by decide +kernel)
set_option maxRecDepth 100000 in
def xk_X2_reachFrom_5 : List (Nat × Instr × Nat) := [(85, .iinc 8 1, 3), (88, .goto (-38), 3), (91, .aload_n 0, 1), (92, .lload 6, 2), (94, .lload_n 2, 1), (95, .land, 1), (96, .invokevirtual 90, 3), (99, .istore 8, 2), (101, .iconst 0, 1)]
set_option maxRecDepth 100000 in
theorem xd_X2_reachFrom_5 : xchk1 cX2_reachFrom xk_X2_reachFrom_5 = true := xwalk_of 85 (by decide +kernel)
set_option maxRecDepth 100000 in
def xk_X2_reachFrom_6 : List (Nat × Instr × Nat) := [(102, .istore 9, 2), (104, .iload 9, 2), (106, .aload_n 0, 1), (107, .getfield 51, 3), (110, .getfield 56, 3), (113, .if_icmp .ge 49, 3), (116, .iload 8, 2), (118, .iload 9, 2), (120, .ishr, 1)]
set_option maxRecDepth 100000 in
theorem xd_X2_reachFrom_6 : xchk1 cX2_reachFrom xk_X2_reachFrom_6 = true := xwalk_of 102 (by decide +kernel)
set_option maxRecDepth 100000 in
def xk_X2_reachFrom_7 : List (Nat × Instr × Nat) := [(121, .iconst 1, 1), (122, .iand, 1), (123, .ifCond .eq 33, 3), (126, .aload_n 0, 1), (127, .getfield 32, 3), (130, .iload 9, 2), (132, .iaload, 1), (133, .iconst (-1), 1), (134, .if_icmp .ne 22, 3)]
set_option maxRecDepth 100000 in
theorem xd_X2_reachFrom_7 : xchk1 cX2_reachFrom xk_X2_reachFrom_7 = true := xwalk_of 121 (by decide +kernel)
set_option maxRecDepth 100000 in
def xk_X2_reachFrom_8 : List (Nat × Instr × Nat) := [(137, .aload_n 0, 1), (138, .getfield 29, 3), (141, .iload 9, 2), (143, .iload_n 1, 1), (144, .iastore, 1), (145, .aload_n 0, 1), (146, .getfield 32, 3), (149, .iload 9, 2), (151, .iload 4, 2)]
set_option maxRecDepth 100000 in
theorem xd_X2_reachFrom_8 : xchk1 cX2_reachFrom xk_X2_reachFrom_8 = true := xwalk_of 137 (by decide +kernel)
set_option maxRecDepth 100000 in
def xk_X2_reachFrom_9 : List (Nat × Instr × Nat) := [(153, .iconst 1, 1), (154, .iadd, 1), (155, .iastore, 1), (156, .iinc 9 1, 3), (159, .goto (-55), 3), (162, .return_, 1)]
set_option maxRecDepth 100000 in
theorem xd_X2_reachFrom_9 : xchk1 cX2_reachFrom xk_X2_reachFrom_9 = true := xwalk_of 153 (by decide +kernel)
set_option maxRecDepth 100000 in
def xk_X2_reachFrom : XT (Instr × Nat) := [(17, xk_X2_reachFrom_0),
  (35, xk_X2_reachFrom_1),
  (52, xk_X2_reachFrom_2),
  (71, xk_X2_reachFrom_3),
  (85, xk_X2_reachFrom_4),
  (102, xk_X2_reachFrom_5),
  (121, xk_X2_reachFrom_6),
  (137, xk_X2_reachFrom_7),
  (153, xk_X2_reachFrom_8),
  (100000, xk_X2_reachFrom_9)]
set_option maxRecDepth 100000 in
theorem xd_X2_reachFrom : xchk cX2_reachFrom xk_X2_reachFrom = true := (xchk_cons xd_X2_reachFrom_0 (xchk_cons xd_X2_reachFrom_1 (xchk_cons xd_X2_reachFrom_2 (xchk_cons xd_X2_reachFrom_3 (xchk_cons xd_X2_reachFrom_4 (xchk_cons xd_X2_reachFrom_5 (xchk_cons xd_X2_reachFrom_6 (xchk_cons xd_X2_reachFrom_7 (xchk_cons xd_X2_reachFrom_8 (xchk_cons xd_X2_reachFrom_9 xchk_nil))))))))))
set_option maxRecDepth 100000 in
def xk_X2_run : XT (Instr × Nat) := [(12, [(0, .aload_n 0, 1), (1, .getfield 41, 3), (4, .invokevirtual 125, 3), (7, .astore_n 1, 1), (8, .aload_n 1, 1), (9, .iconst (-1), 1), (10, .iconst (-1), 1), (11, .iconst (-1), 1)]),
  (30, [(12, .invokevirtual 192, 3), (15, .aload_n 0, 1), (16, .aload_n 1, 1), (17, .getfield 151, 3), (20, .invokevirtual 196, 3), (23, .aload_n 0, 1), (24, .getfield 25, 3), (27, .ifCond .eq 17, 3)]),
  (42, [(30, .aload_n 1, 1), (31, .iconst 0, 1), (32, .aload_n 0, 1), (33, .getfield 18, 3), (36, .iconst 0, 1), (37, .iaload, 1), (38, .iconst (-1), 1), (39, .invokevirtual 192, 3)]),
  (54, [(42, .iconst (-1), 1), (43, .ireturn, 1), (44, .aload_n 0, 1), (45, .invokevirtual 200, 3), (48, .ifCond .ne 5, 3), (51, .iconst (-1), 1), (52, .ireturn, 1), (53, .aload_n 0, 1)]),
  (68, [(54, .invokevirtual 204, 3), (57, .aload_n 1, 1), (58, .getfield 147, 3), (61, .lstore_n 2, 1), (62, .iconst 0, 1), (63, .istore 4, 2), (65, .iload 4, 2), (67, .aload_n 0, 1)]),
  (84, [(68, .getfield 38, 3), (71, .if_icmp .ge 25, 3), (74, .lload_n 2, 1), (75, .ldc2_w 207, 3), (78, .lcmp, 1), (79, .ifCond .eq 17, 3), (82, .aload_n 0, 1), (83, .lload_n 2, 1)]),
  (101, [(84, .iload 4, 2), (86, .invokevirtual 209, 3), (89, .lstore_n 2, 1), (90, .iinc 4 1, 3), (93, .goto (-28), 3), (96, .lload_n 2, 1), (97, .ldc2_w 207, 3), (100, .lcmp, 1)]),
  (115, [(101, .ifCond .ne 5, 3), (104, .iconst (-1), 1), (105, .ireturn, 1), (106, .aload_n 1, 1), (107, .aload_n 1, 1), (108, .getfield 151, 3), (111, .putfield 147, 3), (114, .aload_n 1, 1)]),
  (100000, [(115, .invokevirtual 213, 3), (118, .aload_n 0, 1), (119, .getfield 38, 3), (122, .ireturn, 1)])]
set_option maxRecDepth 100000 in
theorem xd_X2_run : xchk cX2_run xk_X2_run = true := xchk_of (by decide +kernel)
set_option maxRecDepth 100000 in
def xk_X2_walkRing : XT (Instr × Nat) := [(8, [(0, .aload_n 0, 1), (1, .getfield 18, 3), (4, .iconst 0, 1), (5, .iload_n 1, 1), (6, .iastore, 1), (7, .aload_n 0, 1)]),
  (16, [(8, .iload_n 2, 1), (9, .putfield 21, 3), (12, .iconst 1, 1), (13, .istore_n 3, 1), (14, .iload_n 3, 1), (15, .iload_n 2, 1)]),
  (29, [(16, .if_icmp .ge 41, 3), (19, .iload_n 3, 1), (20, .bipush 12, 2), (22, .if_icmp .ge 35, 3), (25, .aload_n 0, 1), (26, .getfield 18, 3)]),
  (37, [(29, .iload_n 3, 1), (30, .aload_n 0, 1), (31, .aload_n 0, 1), (32, .getfield 18, 3), (35, .iload_n 3, 1), (36, .iconst 1, 1)]),
  (45, [(37, .isub, 1), (38, .iaload, 1), (39, .aload_n 0, 1), (40, .getfield 15, 3), (43, .iload_n 2, 1), (44, .iload_n 3, 1)]),
  (57, [(45, .isub, 1), (46, .iaload, 1), (47, .invokevirtual 108, 3), (50, .iastore, 1), (51, .iinc 3 1, 3), (54, .goto (-40), 3)]),
  (100000, [(57, .return_, 1)])]
set_option maxRecDepth 100000 in
theorem xd_X2_walkRing : xchk cX2_walkRing xk_X2_walkRing = true := xchk_of (by decide +kernel)
set_option maxRecDepth 100000 in
def xk_X2_wholeOf : XT (Instr × Nat) := [(7, [(0, .lconst 0, 1), (1, .lstore_n 2, 1), (2, .iconst 0, 1), (3, .istore 4, 2), (5, .iload 4, 2)]),
  (18, [(7, .aload_n 0, 1), (8, .getfield 51, 3), (11, .getfield 56, 3), (14, .if_icmp .ge 35, 3), (17, .lload_n 2, 1)]),
  (24, [(18, .iload_n 1, 1), (19, .iload 4, 2), (21, .ishr, 1), (22, .iconst 1, 1), (23, .iand, 1)]),
  (36, [(24, .ifCond .eq 16, 3), (27, .aload_n 0, 1), (28, .getfield 51, 3), (31, .getfield 176, 3), (34, .iload 4, 2)]),
  (43, [(36, .laload, 1), (37, .goto 4, 3), (40, .lconst 0, 1), (41, .lor, 1), (42, .lstore_n 2, 1)]),
  (100000, [(43, .iinc 4 1, 3), (46, .goto (-41), 3), (49, .lload_n 2, 1), (50, .lreturn, 1)])]
set_option maxRecDepth 100000 in
theorem xd_X2_wholeOf : xchk cX2_wholeOf xk_X2_wholeOf = true := xchk_of (by decide +kernel)
set_option maxRecDepth 100000 in
def xk_X3_areNeedsMet : XT (Instr × Nat) := [(13, [(0, .iconst 0, 1), (1, .istore 4, 2), (3, .iload 4, 2), (5, .aload_n 0, 1), (6, .getfield 40, 3), (9, .getfield 47, 3), (12, .iload_n 1, 1)]),
  (23, [(13, .iaload, 1), (14, .if_icmp .ge 43, 3), (17, .iload_n 1, 1), (18, .iconst 3, 1), (19, .imul, 1), (20, .iload 4, 2), (22, .iadd, 1)]),
  (36, [(23, .istore 5, 2), (25, .aload_n 0, 1), (26, .getfield 40, 3), (29, .getfield 51, 3), (32, .iload 5, 2), (34, .aaload, 1), (35, .aload_n 0, 1)]),
  (50, [(36, .getfield 9, 3), (39, .iload 5, 2), (41, .laload, 1), (42, .lload_n 2, 1), (43, .invokestatic 152, 3), (46, .ifCond .ne 5, 3), (49, .iconst 0, 1)]),
  (63, [(50, .ireturn, 1), (51, .iinc 4 1, 3), (54, .goto (-51), 3), (57, .aload_n 0, 1), (58, .iload_n 1, 1), (59, .lload_n 2, 1), (60, .invokevirtual 156, 3)]),
  (76, [(63, .ifCond .eq 25, 3), (66, .aload_n 0, 1), (67, .getfield 40, 3), (70, .getfield 63, 3), (73, .iload_n 1, 1), (74, .aaload, 1), (75, .aload_n 0, 1)]),
  (89, [(76, .getfield 18, 3), (79, .iload_n 1, 1), (80, .laload, 1), (81, .lload_n 2, 1), (82, .invokestatic 152, 3), (85, .ifCond .eq 7, 3), (88, .iconst 1, 1)]),
  (100000, [(89, .goto 4, 3), (92, .iconst 0, 1), (93, .ireturn, 1)])]
set_option maxRecDepth 100000 in
theorem xd_X3_areNeedsMet : xchk cX3_areNeedsMet xk_X3_areNeedsMet = true := xchk_of (by decide +kernel)
set_option maxRecDepth 100000 in
def xk_X3_brokenIn : XT (Instr × Nat) := [(10, [(0, .lload_n 1, 1), (1, .lstore_n 3, 1), (2, .iconst 0, 1), (3, .istore 5, 2), (5, .iconst 0, 1), (6, .istore 6, 2), (8, .iload 6, 2)]),
  (24, [(10, .bipush 12, 2), (12, .if_icmp .gt 91, 3), (15, .iconst 0, 1), (16, .istore 7, 2), (18, .iload 7, 2), (20, .aload_n 0, 1), (21, .getfield 40, 3)]),
  (40, [(24, .getfield 41, 3), (27, .if_icmp .ge 70, 3), (30, .lload_n 3, 1), (31, .iload 7, 2), (33, .invokestatic 141, 3), (36, .ifCond .eq 55, 3), (39, .aload_n 0, 1)]),
  (53, [(40, .iload 7, 2), (42, .lload_n 3, 1), (43, .invokevirtual 145, 3), (46, .ifCond .ne 45, 3), (49, .iload 5, 2), (51, .iconst 1, 1), (52, .aload_n 0, 1)]),
  (66, [(53, .getfield 40, 3), (56, .getfield 106, 3), (59, .iload 7, 2), (61, .iaload, 1), (62, .ishl, 1), (63, .ior, 1), (64, .istore 5, 2)]),
  (81, [(66, .lload_n 3, 1), (67, .aload_n 0, 1), (68, .getfield 40, 3), (71, .getfield 166, 3), (74, .aload_n 0, 1), (75, .getfield 40, 3), (78, .getfield 106, 3)]),
  (91, [(81, .iload 7, 2), (83, .iaload, 1), (84, .laload, 1), (85, .ldc2_w 94, 3), (88, .lxor, 1), (89, .land, 1), (90, .lstore_n 3, 1)]),
  (100000, [(91, .iinc 7 1, 3), (94, .goto (-76), 3), (97, .iinc 6 1, 3), (100, .goto (-92), 3), (103, .iload 5, 2), (105, .ireturn, 1)])]
set_option maxRecDepth 100000 in
theorem xd_X3_brokenIn : xchk cX3_brokenIn xk_X3_brokenIn = true := xchk_of (by decide +kernel)
