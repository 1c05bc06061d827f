/-! printed by gen_tab.py: code tables -/
set_option maxRecDepth 100000 in
def xk_X14_findScripts_0 : List (Nat × Instr × Nat) := [(0, .iconst 0, 1), (1, .istore_n 2, 1), (2, .iload_n 2, 1), (3, .bipush 12, 2), (5, .if_icmp .ge 158, 3), (8, .aload_n 0, 1), (9, .getfield 124, 3), (12, .iload_n 2, 1), (13, .iconst 0, 1), (14, .iastore, 1), (15, .aload_n 1, 1), (16, .iload_n 2, 1)]
set_option maxRecDepth 100000 in
theorem xd_X14_findScripts_0 : xchk1 cX14_findScripts xk_X14_findScripts_0 = true := xwalk_of 0 (by decide +kernel)
set_option maxRecDepth 100000 in
def xk_X14_findScripts_1 : List (Nat × Instr × Nat) := [(17, .iaload, 1), (18, .iconst (-1), 1), (19, .if_icmp .ne 6, 3), (22, .goto 135, 3), (25, .aload_n 0, 1), (26, .aload_n 1, 1), (27, .iload_n 2, 1), (28, .invokevirtual 297, 3), (31, .istore_n 3, 1), (32, .iconst 0, 1), (33, .istore 4, 2), (35, .iload 4, 2)]
set_option maxRecDepth 100000 in
theorem xd_X14_findScripts_1 : xchk1 cX14_findScripts xk_X14_findScripts_1 = true := xwalk_of 17 (by decide +kernel)
set_option maxRecDepth 100000 in
def xk_X14_findScripts_2 : List (Nat × Instr × Nat) := [(37, .aload_n 0, 1), (38, .iload_n 3, 1), (39, .bipush 7, 2), (41, .invokevirtual 163, 3), (44, .if_icmp .ge 113, 3), (47, .iconst 0, 1), (48, .istore 5, 2), (50, .iload 5, 2), (52, .bipush 12, 2), (54, .if_icmp .ge 97, 3), (57, .aload_n 0, 1), (58, .iload_n 3, 1)]
set_option maxRecDepth 100000 in
theorem xd_X14_findScripts_2 : xchk1 cX14_findScripts xk_X14_findScripts_2 = true := xwalk_of 37 (by decide +kernel)
set_option maxRecDepth 100000 in
def xk_X14_findScripts_3 : List (Nat × Instr × Nat) := [(59, .bipush 11, 2), (61, .invokevirtual 163, 3), (64, .iload 4, 2), (66, .ishr, 1), (67, .iconst 1, 1), (68, .iand, 1), (69, .iconst 1, 1), (70, .if_icmp .ne 81, 3), (73, .iload 5, 2), (75, .iload_n 2, 1), (76, .if_icmp .eq 44, 3), (79, .aload_n 1, 1)]
set_option maxRecDepth 100000 in
theorem xd_X14_findScripts_3 : xchk1 cX14_findScripts xk_X14_findScripts_3 = true := xwalk_of 59 (by decide +kernel)
set_option maxRecDepth 100000 in
def xk_X14_findScripts_4 : List (Nat × Instr × Nat) := [(80, .iload 5, 2), (82, .iaload, 1), (83, .iconst (-1), 1), (84, .if_icmp .eq 36, 3), (87, .aload_n 0, 1), (88, .aload_n 0, 1), (89, .getfield 18, 3), (92, .aload_n 0, 1), (93, .iload_n 3, 1), (94, .bipush 8, 2), (96, .iload 4, 2), (98, .iadd, 1)]
set_option maxRecDepth 100000 in
theorem xd_X14_findScripts_4 : xchk1 cX14_findScripts xk_X14_findScripts_4 = true := xwalk_of 80 (by decide +kernel)
set_option maxRecDepth 100000 in
def xk_X14_findScripts_5 : List (Nat × Instr × Nat) := [(99, .invokevirtual 163, 3), (102, .aaload, 1), (103, .aload_n 0, 1), (104, .aload_n 1, 1), (105, .iload 5, 2), (107, .invokevirtual 297, 3), (110, .invokevirtual 301, 3), (113, .ifCond .eq 7, 3), (116, .iconst 1, 1), (117, .goto 4, 3), (120, .iconst 0, 1), (121, .istore 6, 2)]
set_option maxRecDepth 100000 in
theorem xd_X14_findScripts_5 : xchk1 cX14_findScripts xk_X14_findScripts_5 = true := xwalk_of 99 (by decide +kernel)
set_option maxRecDepth 100000 in
def xk_X14_findScripts_6 : List (Nat × Instr × Nat) := [(123, .aload_n 0, 1), (124, .getfield 124, 3), (127, .iload_n 2, 1), (128, .dup2, 1), (129, .iaload, 1), (130, .iload 6, 2), (132, .ifCond .eq 10, 3), (135, .iconst 1, 1), (136, .iload 5, 2), (138, .ishl, 1), (139, .goto 4, 3), (142, .iconst 0, 1)]
set_option maxRecDepth 100000 in
theorem xd_X14_findScripts_6 : xchk1 cX14_findScripts xk_X14_findScripts_6 = true := xwalk_of 123 (by decide +kernel)
set_option maxRecDepth 100000 in
def xk_X14_findScripts_7 : List (Nat × Instr × Nat) := [(143, .ior, 1), (144, .iastore, 1), (145, .iinc 5 1, 3), (148, .goto (-98), 3), (151, .iinc 4 1, 3), (154, .goto (-119), 3), (157, .iinc 2 1, 3), (160, .goto (-158), 3), (163, .iconst 0, 1), (164, .istore_n 2, 1), (165, .iconst 0, 1), (166, .istore_n 3, 1)]
set_option maxRecDepth 100000 in
theorem xd_X14_findScripts_7 : xchk1 cX14_findScripts xk_X14_findScripts_7 = true := xwalk_of 143 (by decide +kernel)
set_option maxRecDepth 100000 in
def xk_X14_findScripts_8 : List (Nat × Instr × Nat) := [(167, .iload_n 3, 1), (168, .bipush 12, 2), (170, .if_icmp .ge 26, 3), (173, .iload_n 2, 1), (174, .aload_n 1, 1), (175, .iload_n 3, 1), (176, .iaload, 1), (177, .iconst (-1), 1), (178, .if_icmp .ne 7, 3), (181, .iconst 0, 1), (182, .goto 6, 3), (185, .iconst 1, 1)]
set_option maxRecDepth 100000 in
theorem xd_X14_findScripts_8 : xchk1 cX14_findScripts xk_X14_findScripts_8 = true := xwalk_of 167 (by decide +kernel)
set_option maxRecDepth 100000 in
def xk_X14_findScripts_9 : List (Nat × Instr × Nat) := [(186, .iload_n 3, 1), (187, .ishl, 1), (188, .ior, 1), (189, .istore_n 2, 1), (190, .iinc 3 1, 3), (193, .goto (-26), 3), (196, .aload_n 0, 1), (197, .iconst 0, 1), (198, .putfield 545, 3), (201, .iload_n 2, 1), (202, .ifCond .eq 78, 3), (205, .iconst 0, 1)]
set_option maxRecDepth 100000 in
theorem xd_X14_findScripts_9 : xchk1 cX14_findScripts xk_X14_findScripts_9 = true := xwalk_of 186 (by decide +kernel)
set_option maxRecDepth 100000 in
def xk_X14_findScripts_10 : List (Nat × Instr × Nat) := [(206, .istore_n 3, 1), (207, .iload_n 3, 1), (208, .bipush 12, 2), (210, .if_icmp .ge 28, 3), (213, .iload_n 2, 1), (214, .iload_n 3, 1), (215, .ishr, 1), (216, .iconst 1, 1), (217, .iand, 1), (218, .ifCond .eq 14, 3), (221, .aload_n 0, 1), (222, .getfield 124, 3)]
set_option maxRecDepth 100000 in
theorem xd_X14_findScripts_10 : xchk1 cX14_findScripts xk_X14_findScripts_10 = true := xwalk_of 206 (by decide +kernel)
set_option maxRecDepth 100000 in
def xk_X14_findScripts_11 : List (Nat × Instr × Nat) := [(225, .iload_n 3, 1), (226, .iaload, 1), (227, .iload_n 2, 1), (228, .iand, 1), (229, .ifCond .eq 9, 3), (232, .iinc 3 1, 3), (235, .goto (-28), 3), (238, .iload_n 3, 1), (239, .bipush 12, 2), (241, .if_icmp .ne 8, 3), (244, .aload_n 0, 1), (245, .invokevirtual 548, 3)]
set_option maxRecDepth 100000 in
theorem xd_X14_findScripts_11 : xchk1 cX14_findScripts xk_X14_findScripts_11 = true := xwalk_of 225 (by decide +kernel)
set_option maxRecDepth 100000 in
def xk_X14_findScripts_12 : List (Nat × Instr × Nat) := [(248, .return_, 1), (249, .aload_n 0, 1), (250, .getfield 127, 3), (253, .aload_n 0, 1), (254, .getfield 545, 3), (257, .iload_n 3, 1), (258, .iastore, 1), (259, .aload_n 0, 1), (260, .dup, 1), (261, .getfield 545, 3), (264, .iconst 1, 1), (265, .iadd, 1)]
set_option maxRecDepth 100000 in
theorem xd_X14_findScripts_12 : xchk1 cX14_findScripts xk_X14_findScripts_12 = true := xwalk_of 248 (by decide +kernel)
set_option maxRecDepth 100000 in
def xk_X14_findScripts_13 : List (Nat × Instr × Nat) := [(266, .putfield 545, 3), (269, .iload_n 2, 1), (270, .iconst 1, 1), (271, .iload_n 3, 1), (272, .ishl, 1), (273, .iconst (-1), 1), (274, .ixor, 1), (275, .iand, 1), (276, .istore_n 2, 1), (277, .goto (-76), 3), (280, .return_, 1)]
set_option maxRecDepth 100000 in
theorem xd_X14_findScripts_13 : xchk1 cX14_findScripts xk_X14_findScripts_13 = true := xwalk_of 266 (by decide +kernel)
set_option maxRecDepth 100000 in
def xk_X14_findScripts : XT (Instr × Nat) := [(17, xk_X14_findScripts_0),
  (37, xk_X14_findScripts_1),
  (59, xk_X14_findScripts_2),
  (80, xk_X14_findScripts_3),
  (99, xk_X14_findScripts_4),
  (123, xk_X14_findScripts_5),
  (143, xk_X14_findScripts_6),
  (167, xk_X14_findScripts_7),
  (186, xk_X14_findScripts_8),
  (206, xk_X14_findScripts_9),
  (225, xk_X14_findScripts_10),
  (248, xk_X14_findScripts_11),
  (266, xk_X14_findScripts_12),
  (100000, xk_X14_findScripts_13)]
set_option maxRecDepth 100000 in
theorem xd_X14_findScripts : xchk cX14_findScripts xk_X14_findScripts = true := (xchk_cons xd_X14_findScripts_0 (xchk_cons xd_X14_findScripts_1 (xchk_cons xd_X14_findScripts_2 (xchk_cons xd_X14_findScripts_3 (xchk_cons xd_X14_findScripts_4 (xchk_cons xd_X14_findScripts_5 (xchk_cons xd_X14_findScripts_6 (xchk_cons xd_X14_findScripts_7 (xchk_cons xd_X14_findScripts_8 (xchk_cons xd_X14_findScripts_9 (xchk_cons xd_X14_findScripts_10 (xchk_cons xd_X14_findScripts_11 (xchk_cons xd_X14_findScripts_12 (xchk_cons xd_X14_findScripts_13 xchk_nil))))))))))))))
set_option maxRecDepth 100000 in
def xk_X14_findSteps_0 : List (Nat × Instr × Nat) := [(0, .bipush 12, 2), (2, .newarray .int, 2), (4, .astore_n 3, 1), (5, .aload_n 1, 1), (6, .iconst 0, 1), (7, .aload_n 3, 1), (8, .iconst 0, 1), (9, .bipush 12, 2), (11, .invokestatic 140, 3), (14, .iconst 0, 1)]
set_option maxRecDepth 100000 in
theorem xd_X14_findSteps_0 : xchk1 cX14_findSteps xk_X14_findSteps_0 = true := xwalk_of 0 (by decide +kernel)
set_option maxRecDepth 100000 in
def xk_X14_findSteps_1 : List (Nat × Instr × Nat) := [(15, .istore 4, 2), (17, .iconst 0, 1), (18, .istore 5, 2), (20, .iload 5, 2), (22, .bipush 12, 2), (24, .if_icmp .ge 33, 3), (27, .iload 4, 2), (29, .aload_n 1, 1), (30, .iload 5, 2), (32, .iaload, 1)]
set_option maxRecDepth 100000 in
theorem xd_X14_findSteps_1 : xchk1 cX14_findSteps xk_X14_findSteps_1 = true := xwalk_of 15 (by decide +kernel)
set_option maxRecDepth 100000 in
def xk_X14_findSteps_2 : List (Nat × Instr × Nat) := [(33, .aload_n 2, 1), (34, .iload 5, 2), (36, .iaload, 1), (37, .if_icmp .ne 7, 3), (40, .iconst 0, 1), (41, .goto 7, 3), (44, .iconst 1, 1), (45, .iload 5, 2), (47, .ishl, 1), (48, .ior, 1)]
set_option maxRecDepth 100000 in
theorem xd_X14_findSteps_2 : xchk1 cX14_findSteps xk_X14_findSteps_2 = true := xwalk_of 33 (by decide +kernel)
set_option maxRecDepth 100000 in
def xk_X14_findSteps_3 : List (Nat × Instr × Nat) := [(49, .istore 4, 2), (51, .iinc 5 1, 3), (54, .goto (-34), 3), (57, .aload_n 0, 1), (58, .iconst 0, 1), (59, .putfield 568, 3), (62, .iload 4, 2), (64, .ifCond .eq 131, 3), (67, .iconst 0, 1), (68, .istore 5, 2)]
set_option maxRecDepth 100000 in
theorem xd_X14_findSteps_3 : xchk1 cX14_findSteps xk_X14_findSteps_3 = true := xwalk_of 49 (by decide +kernel)
set_option maxRecDepth 100000 in
def xk_X14_findSteps_4 : List (Nat × Instr × Nat) := [(70, .iconst 0, 1), (71, .istore 6, 2), (73, .iload 6, 2), (75, .bipush 12, 2), (77, .if_icmp .ge 71, 3), (80, .iload 5, 2), (82, .ifCond .ne 66, 3), (85, .iload 4, 2), (87, .iload 6, 2), (89, .ishr, 1)]
set_option maxRecDepth 100000 in
theorem xd_X14_findSteps_4 : xchk1 cX14_findSteps xk_X14_findSteps_4 = true := xwalk_of 70 (by decide +kernel)
set_option maxRecDepth 100000 in
def xk_X14_findSteps_5 : List (Nat × Instr × Nat) := [(90, .iconst 1, 1), (91, .iand, 1), (92, .iconst 1, 1), (93, .if_icmp .ne 49, 3), (96, .aload_n 3, 1), (97, .iload 6, 2), (99, .aload_n 2, 1), (100, .iload 6, 2), (102, .iaload, 1), (103, .iastore, 1)]
set_option maxRecDepth 100000 in
theorem xd_X14_findSteps_5 : xchk1 cX14_findSteps xk_X14_findSteps_5 = true := xwalk_of 90 (by decide +kernel)
set_option maxRecDepth 100000 in
def xk_X14_findSteps_6 : List (Nat × Instr × Nat) := [(104, .aload_n 0, 1), (105, .aload_n 3, 1), (106, .invokevirtual 326, 3), (109, .ifCond .eq 10, 3), (112, .iconst 1, 1), (113, .iload 6, 2), (115, .ishl, 1), (116, .goto 4, 3), (119, .iconst 0, 1), (120, .istore 5, 2)]
set_option maxRecDepth 100000 in
theorem xd_X14_findSteps_6 : xchk1 cX14_findSteps xk_X14_findSteps_6 = true := xwalk_of 104 (by decide +kernel)
set_option maxRecDepth 100000 in
def xk_X14_findSteps_7 : List (Nat × Instr × Nat) := [(122, .aload_n 3, 1), (123, .iload 6, 2), (125, .iload 5, 2), (127, .ifCond .ne 10, 3), (130, .aload_n 1, 1), (131, .iload 6, 2), (133, .iaload, 1), (134, .goto 7, 3), (137, .aload_n 2, 1), (138, .iload 6, 2)]
set_option maxRecDepth 100000 in
theorem xd_X14_findSteps_7 : xchk1 cX14_findSteps xk_X14_findSteps_7 = true := xwalk_of 122 (by decide +kernel)
set_option maxRecDepth 100000 in
def xk_X14_findSteps_8 : List (Nat × Instr × Nat) := [(140, .iaload, 1), (141, .iastore, 1), (142, .iinc 6 1, 3), (145, .goto (-72), 3), (148, .iload 5, 2), (150, .ifCond .ne 8, 3), (153, .iload 4, 2), (155, .goto 5, 3), (158, .iload 5, 2), (160, .istore 5, 2)]
set_option maxRecDepth 100000 in
theorem xd_X14_findSteps_8 : xchk1 cX14_findSteps xk_X14_findSteps_8 = true := xwalk_of 140 (by decide +kernel)
set_option maxRecDepth 100000 in
def xk_X14_findSteps_9 : List (Nat × Instr × Nat) := [(162, .aload_n 0, 1), (163, .getfield 130, 3), (166, .aload_n 0, 1), (167, .getfield 568, 3), (170, .iload 5, 2), (172, .iastore, 1), (173, .aload_n 0, 1), (174, .dup, 1), (175, .getfield 568, 3), (178, .iconst 1, 1)]
set_option maxRecDepth 100000 in
theorem xd_X14_findSteps_9 : xchk1 cX14_findSteps xk_X14_findSteps_9 = true := xwalk_of 162 (by decide +kernel)
set_option maxRecDepth 100000 in
def xk_X14_findSteps_10 : List (Nat × Instr × Nat) := [(179, .iadd, 1), (180, .putfield 568, 3), (183, .iload 4, 2), (185, .iload 5, 2), (187, .iconst (-1), 1), (188, .ixor, 1), (189, .iand, 1), (190, .istore 4, 2), (192, .goto (-130), 3), (195, .return_, 1)]
set_option maxRecDepth 100000 in
theorem xd_X14_findSteps_10 : xchk1 cX14_findSteps xk_X14_findSteps_10 = true := xwalk_of 179 (by decide +kernel)
set_option maxRecDepth 100000 in
def xk_X14_findSteps : XT (Instr × Nat) := [(15, xk_X14_findSteps_0),
  (33, xk_X14_findSteps_1),
  (49, xk_X14_findSteps_2),
  (70, xk_X14_findSteps_3),
  (90, xk_X14_findSteps_4),
  (104, xk_X14_findSteps_5),
  (122, xk_X14_findSteps_6),
  (140, xk_X14_findSteps_7),
  (162, xk_X14_findSteps_8),
  (179, xk_X14_findSteps_9),
  (100000, xk_X14_findSteps_10)]
set_option maxRecDepth 100000 in
theorem xd_X14_findSteps : xchk cX14_findSteps xk_X14_findSteps = true := (xchk_cons xd_X14_findSteps_0 (xchk_cons xd_X14_findSteps_1 (xchk_cons xd_X14_findSteps_2 (xchk_cons xd_X14_findSteps_3 (xchk_cons xd_X14_findSteps_4 (xchk_cons xd_X14_findSteps_5 (xchk_cons xd_X14_findSteps_6 (xchk_cons xd_X14_findSteps_7 (xchk_cons xd_X14_findSteps_8 (xchk_cons xd_X14_findSteps_9 (xchk_cons xd_X14_findSteps_10 xchk_nil)))))))))))
set_option maxRecDepth 100000 in
def xk_X14_firstSet_0 : List (Nat × Instr × Nat) := [(0, .bipush 12, 2), (2, .newarray .int, 2), (4, .astore_n 1, 1), (5, .lconst 0, 1), (6, .lstore_n 2, 1), (7, .lconst 0, 1), (8, .lstore 4, 2), (10, .iconst 0, 1), (11, .istore 6, 2), (13, .iload 6, 2), (15, .bipush 12, 2), (17, .if_icmp .ge 14, 3), (20, .aload_n 1, 1)]
set_option maxRecDepth 100000 in
theorem xd_X14_firstSet_0 : xchk1 cX14_firstSet xk_X14_firstSet_0 = true := xwalk_of 0 (by decide +kernel)
set_option maxRecDepth 100000 in
def xk_X14_firstSet_1 : List (Nat × Instr × Nat) := [(21, .iload 6, 2), (23, .iconst (-1), 1), (24, .iastore, 1), (25, .iinc 6 1, 3), (28, .goto (-15), 3), (31, .aload_n 0, 1), (32, .invokevirtual 398, 3), (35, .astore 6, 2), (37, .aload 6, 2), (39, .arraylength, 1), (40, .istore 7, 2), (42, .iconst 0, 1), (43, .istore 8, 2)]
set_option maxRecDepth 100000 in
theorem xd_X14_firstSet_1 : xchk1 cX14_firstSet xk_X14_firstSet_1 = true := xwalk_of 21 (by decide +kernel)
set_option maxRecDepth 100000 in
def xk_X14_firstSet_2 : List (Nat × Instr × Nat) := [(45, .iload 8, 2), (47, .iload 7, 2), (49, .if_icmp .ge 224, 3), (52, .aload 6, 2), (54, .iload 8, 2), (56, .iaload, 1), (57, .istore 9, 2), (59, .aload_n 0, 1), (60, .iload 9, 2), (62, .invokevirtual 352, 3), (65, .astore 10, 2), (67, .aload_n 0, 1), (68, .getfield 395, 3)]
set_option maxRecDepth 100000 in
theorem xd_X14_firstSet_2 : xchk1 cX14_firstSet xk_X14_firstSet_2 = true := xwalk_of 45 (by decide +kernel)
set_option maxRecDepth 100000 in
def xk_X14_firstSet_3 : List (Nat × Instr × Nat) := [(71, .iload 9, 2), (73, .ishr, 1), (74, .iconst 1, 1), (75, .iand, 1), (76, .iconst 1, 1), (77, .if_icmp .ne 7, 3), (80, .iconst 1, 1), (81, .goto 4, 3), (84, .iconst 0, 1), (85, .istore 11, 2), (87, .lconst 0, 1), (88, .lstore 12, 2), (90, .aload 10, 2)]
set_option maxRecDepth 100000 in
theorem xd_X14_firstSet_3 : xchk1 cX14_firstSet xk_X14_firstSet_3 = true := xwalk_of 71 (by decide +kernel)
set_option maxRecDepth 100000 in
def xk_X14_firstSet_4 : List (Nat × Instr × Nat) := [(92, .astore 14, 2), (94, .aload 14, 2), (96, .arraylength, 1), (97, .istore 15, 2), (99, .iconst 0, 1), (100, .istore 16, 2), (102, .iload 16, 2), (104, .iload 15, 2), (106, .if_icmp .ge 26, 3), (109, .aload 14, 2), (111, .iload 16, 2), (113, .iaload, 1), (114, .istore 17, 2)]
set_option maxRecDepth 100000 in
theorem xd_X14_firstSet_4 : xchk1 cX14_firstSet xk_X14_firstSet_4 = true := xwalk_of 92 (by decide +kernel)
set_option maxRecDepth 100000 in
def xk_X14_firstSet_5 : List (Nat × Instr × Nat) := [(116, .lload 12, 2), (118, .iload 17, 2), (120, .invokestatic 333, 3), (123, .lor, 1), (124, .lstore 12, 2), (126, .iinc 16 1, 3), (129, .goto (-27), 3), (132, .iload 11, 2), (134, .ifCond .ne 20, 3), (137, .aload_n 0, 1), (138, .lload_n 2, 1), (139, .lload 4, 2), (141, .lload 12, 2)]
set_option maxRecDepth 100000 in
theorem xd_X14_firstSet_5 : xchk1 cX14_firstSet xk_X14_firstSet_5 = true := xwalk_of 116 (by decide +kernel)
set_option maxRecDepth 100000 in
def xk_X14_firstSet_6 : List (Nat × Instr × Nat) := [(143, .lor, 1), (144, .invokevirtual 389, 3), (147, .ifCond .eq 7, 3), (150, .iconst 1, 1), (151, .goto 4, 3), (154, .iconst 0, 1), (155, .istore 14, 2), (157, .aload 10, 2), (159, .arraylength, 1), (160, .iconst 1, 1), (161, .isub, 1), (162, .istore 15, 2), (164, .iload 15, 2)]
set_option maxRecDepth 100000 in
theorem xd_X14_firstSet_6 : xchk1 cX14_firstSet xk_X14_firstSet_6 = true := xwalk_of 143 (by decide +kernel)
set_option maxRecDepth 100000 in
def xk_X14_firstSet_7 : List (Nat × Instr × Nat) := [(166, .ifCond .lt 94, 3), (169, .iload 14, 2), (171, .ifCond .ne 89, 3), (174, .aload_n 0, 1), (175, .lload_n 2, 1), (176, .aload 10, 2), (178, .iload 15, 2), (180, .iaload, 1), (181, .invokestatic 333, 3), (184, .lor, 1), (185, .lload 4, 2), (187, .lload 12, 2), (189, .aload 10, 2)]
set_option maxRecDepth 100000 in
theorem xd_X14_firstSet_7 : xchk1 cX14_firstSet xk_X14_firstSet_7 = true := xwalk_of 166 (by decide +kernel)
set_option maxRecDepth 100000 in
def xk_X14_firstSet_8 : List (Nat × Instr × Nat) := [(191, .iload 15, 2), (193, .iaload, 1), (194, .invokestatic 333, 3), (197, .ldc2_w 359, 3), (200, .lxor, 1), (201, .land, 1), (202, .lor, 1), (203, .invokevirtual 389, 3), (206, .ifCond .eq 48, 3), (209, .iconst 1, 1), (210, .istore 14, 2), (212, .aload_n 1, 1), (213, .iload 9, 2)]
set_option maxRecDepth 100000 in
theorem xd_X14_firstSet_8 : xchk1 cX14_firstSet xk_X14_firstSet_8 = true := xwalk_of 191 (by decide +kernel)
set_option maxRecDepth 100000 in
def xk_X14_firstSet_9 : List (Nat × Instr × Nat) := [(215, .aload_n 0, 1), (216, .aload 10, 2), (218, .iload 15, 2), (220, .iaload, 1), (221, .iconst 1, 1), (222, .invokevirtual 163, 3), (225, .iastore, 1), (226, .lload_n 2, 1), (227, .aload 10, 2), (229, .iload 15, 2), (231, .iaload, 1), (232, .invokestatic 333, 3), (235, .lor, 1)]
set_option maxRecDepth 100000 in
theorem xd_X14_firstSet_9 : xchk1 cX14_firstSet xk_X14_firstSet_9 = true := xwalk_of 215 (by decide +kernel)
set_option maxRecDepth 100000 in
def xk_X14_firstSet_10 : List (Nat × Instr × Nat) := [(236, .lstore_n 2, 1), (237, .lload 12, 2), (239, .aload 10, 2), (241, .iload 15, 2), (243, .iaload, 1), (244, .invokestatic 333, 3), (247, .ldc2_w 359, 3), (250, .lxor, 1), (251, .land, 1), (252, .lstore 12, 2), (254, .iinc 15 (-1), 3), (257, .goto (-93), 3), (260, .lload 4, 2)]
set_option maxRecDepth 100000 in
theorem xd_X14_firstSet_10 : xchk1 cX14_firstSet xk_X14_firstSet_10 = true := xwalk_of 236 (by decide +kernel)
set_option maxRecDepth 100000 in
def xk_X14_firstSet_11 : List (Nat × Instr × Nat) := [(262, .lload 12, 2), (264, .lor, 1), (265, .lstore 4, 2), (267, .iinc 8 1, 3), (270, .goto (-225), 3), (273, .iconst 0, 1), (274, .istore 6, 2), (276, .iload 6, 2), (278, .aload_n 0, 1), (279, .getfield 9, 3), (282, .iconst 0, 1), (283, .iaload, 1), (284, .if_icmp .ge 56, 3)]
set_option maxRecDepth 100000 in
theorem xd_X14_firstSet_11 : xchk1 cX14_firstSet xk_X14_firstSet_11 = true := xwalk_of 262 (by decide +kernel)
set_option maxRecDepth 100000 in
def xk_X14_firstSet_12 : List (Nat × Instr × Nat) := [(287, .aload_n 0, 1), (288, .lload_n 2, 1), (289, .lload 4, 2), (291, .iload 6, 2), (293, .invokestatic 341, 3), (296, .lor, 1), (297, .invokevirtual 389, 3), (300, .ifCond .eq 16, 3), (303, .lload 4, 2), (305, .iload 6, 2), (307, .invokestatic 341, 3), (310, .lor, 1), (311, .lstore 4, 2)]
set_option maxRecDepth 100000 in
theorem xd_X14_firstSet_12 : xchk1 cX14_firstSet xk_X14_firstSet_12 = true := xwalk_of 287 (by decide +kernel)
set_option maxRecDepth 100000 in
def xk_X14_firstSet_13 : List (Nat × Instr × Nat) := [(313, .goto 21, 3), (316, .lload_n 2, 1), (317, .iload 6, 2), (319, .invokestatic 341, 3), (322, .lor, 1), (323, .lstore_n 2, 1), (324, .aload_n 1, 1), (325, .iload 6, 2), (327, .dup2, 1), (328, .iaload, 1), (329, .ldc_w 289, 3), (332, .iadd, 1), (333, .iastore, 1)]
set_option maxRecDepth 100000 in
theorem xd_X14_firstSet_13 : xchk1 cX14_firstSet xk_X14_firstSet_13 = true := xwalk_of 313 (by decide +kernel)
set_option maxRecDepth 100000 in
def xk_X14_firstSet_14 : List (Nat × Instr × Nat) := [(334, .iinc 6 1, 3), (337, .goto (-61), 3), (340, .aload_n 1, 1), (341, .areturn, 1)]
set_option maxRecDepth 100000 in
theorem xd_X14_firstSet_14 : xchk1 cX14_firstSet xk_X14_firstSet_14 = true := xwalk_of 334 (by decide +kernel)
set_option maxRecDepth 100000 in
def xk_X14_firstSet : XT (Instr × Nat) := [(21, xk_X14_firstSet_0),
  (45, xk_X14_firstSet_1),
  (71, xk_X14_firstSet_2),
  (92, xk_X14_firstSet_3),
  (116, xk_X14_firstSet_4),
  (143, xk_X14_firstSet_5),
  (166, xk_X14_firstSet_6),
  (191, xk_X14_firstSet_7),
  (215, xk_X14_firstSet_8),
  (236, xk_X14_firstSet_9),
  (262, xk_X14_firstSet_10),
  (287, xk_X14_firstSet_11),
  (313, xk_X14_firstSet_12),
  (334, xk_X14_firstSet_13),
  (100000, xk_X14_firstSet_14)]
set_option maxRecDepth 100000 in
theorem xd_X14_firstSet : xchk cX14_firstSet xk_X14_firstSet = true := (xchk_cons xd_X14_firstSet_0 (xchk_cons xd_X14_firstSet_1 (xchk_cons xd_X14_firstSet_2 (xchk_cons xd_X14_firstSet_3 (xchk_cons xd_X14_firstSet_4 (xchk_cons xd_X14_firstSet_5 (xchk_cons xd_X14_firstSet_6 (xchk_cons xd_X14_firstSet_7 (xchk_cons xd_X14_firstSet_8 (xchk_cons xd_X14_firstSet_9 (xchk_cons xd_X14_firstSet_10 (xchk_cons xd_X14_firstSet_11 (xchk_cons xd_X14_firstSet_12 (xchk_cons xd_X14_firstSet_13 (xchk_cons xd_X14_firstSet_14 xchk_nil)))))))))))))))
set_option maxRecDepth 100000 in
def xk_X14_fitsAny : XT (Instr × Nat) := [(6, [(0, .aload_n 0, 1), (1, .invokevirtual 386, 3), (4, .aload_n 0, 1), (5, .iconst (-1), 1)]),
  (12, [(6, .putfield 73, 3), (9, .aload_n 0, 1), (10, .lconst 0, 1), (11, .lconst 0, 1)]),
  (100000, [(12, .invokevirtual 389, 3), (15, .ireturn, 1)])]
set_option maxRecDepth 100000 in
theorem xd_X14_fitsAny : xchk cX14_fitsAny xk_X14_fitsAny = true := xchk_of (by decide +kernel)
set_option maxRecDepth 100000 in
def xk_X14_fitsHere : XT (Instr × Nat) := [(13, [(0, .iconst 0, 1), (1, .istore_n 2, 1), (2, .iload_n 2, 1), (3, .bipush 12, 2), (5, .if_icmp .ge 75, 3), (8, .aload_n 0, 1), (9, .iload_n 2, 1), (10, .invokevirtual 316, 3)]),
  (24, [(13, .ifCond .eq 19, 3), (16, .aload_n 1, 1), (17, .iload_n 2, 1), (18, .iaload, 1), (19, .aload_n 0, 1), (20, .bipush 23, 2), (22, .iload_n 2, 1), (23, .iadd, 1)]),
  (37, [(24, .invokevirtual 312, 3), (27, .if_icmp .eq 5, 3), (30, .iconst 0, 1), (31, .ireturn, 1), (32, .aload_n 0, 1), (33, .bipush 10, 2), (35, .iload_n 2, 1), (36, .iadd, 1)]),
  (49, [(37, .invokevirtual 312, 3), (40, .istore_n 3, 1), (41, .iload_n 3, 1), (42, .ifCond .le 32, 3), (45, .aload_n 1, 1), (46, .iload_n 2, 1), (47, .iaload, 1), (48, .iconst (-1), 1)]),
  (61, [(49, .if_icmp .eq 25, 3), (52, .aload_n 0, 1), (53, .getfield 18, 3), (56, .iload_n 3, 1), (57, .iconst 1, 1), (58, .isub, 1), (59, .aaload, 1), (60, .iconst 0, 1)]),
  (77, [(61, .aload_n 1, 1), (62, .iload_n 2, 1), (63, .invokestatic 319, 3), (66, .invokestatic 279, 3), (69, .ifCond .ne 5, 3), (72, .iconst 0, 1), (73, .ireturn, 1), (74, .iinc 2 1, 3)]),
  (91, [(77, .goto (-75), 3), (80, .iconst 0, 1), (81, .istore_n 2, 1), (82, .iload_n 2, 1), (83, .aload_n 0, 1), (84, .iconst 0, 1), (85, .invokevirtual 312, 3), (88, .if_icmp .ge 32, 3)]),
  (105, [(91, .aload_n 0, 1), (92, .iload_n 2, 1), (93, .invokevirtual 322, 3), (96, .ifnull 18, 3), (99, .aload_n 0, 1), (100, .aload_n 0, 1), (101, .iload_n 2, 1), (102, .invokevirtual 322, 3)]),
  (121, [(105, .aload_n 1, 1), (106, .invokevirtual 305, 3), (109, .ifCond .ne 5, 3), (112, .iconst 0, 1), (113, .ireturn, 1), (114, .iinc 2 1, 3), (117, .goto (-35), 3), (120, .aload_n 0, 1)]),
  (100000, [(121, .aload_n 1, 1), (122, .invokevirtual 326, 3), (125, .ireturn, 1)])]
set_option maxRecDepth 100000 in
theorem xd_X14_fitsHere : xchk cX14_fitsHere xk_X14_fitsHere = true := xchk_of (by decide +kernel)
set_option maxRecDepth 100000 in
def xk_X14_fitting : XT (Instr × Nat) := [(6, [(0, .aload_n 0, 1), (1, .iconst 0, 1), (2, .putfield 134, 3), (5, .aload_n 0, 1)]),
  (16, [(6, .getfield 82, 3), (9, .aload_n 0, 1), (10, .getfield 155, 3), (13, .if_icmp .eq 21, 3)]),
  (20, [(16, .aload_n 0, 1), (17, .aload_n 0, 1), (18, .aconst_null, 1), (19, .aconst_null, 1)]),
  (28, [(20, .invokevirtual 450, 3), (23, .putfield 453, 3), (26, .aload_n 0, 1), (27, .aload_n 0, 1)]),
  (38, [(28, .getfield 155, 3), (31, .putfield 82, 3), (34, .aload_n 0, 1), (35, .getfield 453, 3)]),
  (100000, [(38, .ireturn, 1)])]
set_option maxRecDepth 100000 in
theorem xd_X14_fitting : xchk cX14_fitting xk_X14_fitting = true := xchk_of (by decide +kernel)
set_option maxRecDepth 100000 in
def xk_X14_found : XT (Instr × Nat) := [(9, [(0, .aload_n 0, 1), (1, .invokevirtual 401, 3), (4, .ifCond .ne 5, 3), (7, .aconst_null, 1), (8, .areturn, 1)]),
  (18, [(9, .iload_n 1, 1), (10, .ifCond .eq 38, 3), (13, .aload_n 0, 1), (14, .aload_n 0, 1), (15, .invokevirtual 344, 3)]),
  (27, [(18, .putfield 76, 3), (21, .aload_n 0, 1), (22, .iconst 0, 1), (23, .putfield 73, 3), (26, .aload_n 0, 1)]),
  (36, [(27, .lconst 0, 1), (28, .lconst 0, 1), (29, .invokevirtual 389, 3), (32, .ifCond .ne 16, 3), (35, .aload_n 0, 1)]),
  (45, [(36, .dup, 1), (37, .getfield 73, 3), (40, .iconst 1, 1), (41, .iadd, 1), (42, .putfield 73, 3)]),
  (54, [(45, .goto (-19), 3), (48, .aload_n 0, 1), (49, .invokevirtual 404, 3), (52, .astore_n 2, 1), (53, .aload_n 0, 1)]),
  (100000, [(54, .iconst (-1), 1), (55, .putfield 73, 3), (58, .aload_n 2, 1), (59, .areturn, 1)])]
set_option maxRecDepth 100000 in
theorem xd_X14_found : xchk cX14_found xk_X14_found = true := xchk_of (by decide +kernel)
set_option maxRecDepth 100000 in
def xk_X14_goThrough : XT (Instr × Nat) := [(12, [(0, .aload_n 0, 1), (1, .invokevirtual 425, 3), (4, .istore_n 3, 1), (5, .aload_n 0, 1), (6, .iconst 0, 1), (7, .putfield 429, 3), (10, .aload_n 0, 1), (11, .iconst 0, 1)]),
  (27, [(12, .putfield 432, 3), (15, .iload_n 3, 1), (16, .sipush 5000, 3), (19, .if_icmp .le 5, 3), (22, .iconst (-1), 1), (23, .ireturn, 1), (24, .iconst 0, 1), (25, .istore 4, 2)]),
  (42, [(27, .aload_n 0, 1), (28, .invokevirtual 344, 3), (31, .astore 5, 2), (33, .bipush 12, 2), (35, .newarray .int, 2), (37, .astore 6, 2), (39, .iconst 0, 1), (40, .istore 7, 2)]),
  (59, [(42, .iload 7, 2), (44, .iload_n 3, 1), (45, .if_icmp .ge 101, 3), (48, .aload_n 0, 1), (49, .iload 7, 2), (51, .aload 6, 2), (53, .invokevirtual 435, 3), (56, .ifCond .eq 84, 3)]),
  (76, [(59, .aload_n 0, 1), (60, .aload 6, 2), (62, .invokevirtual 439, 3), (65, .ifCond .ne 6, 3), (68, .goto 72, 3), (71, .iinc 4 1, 3), (74, .aload_n 0, 1), (75, .aload_n 0, 1)]),
  (93, [(76, .getfield 429, 3), (79, .ifCond .ne 17, 3), (82, .aload_n 1, 1), (83, .ifnull 17, 3), (86, .aload_n 0, 1), (87, .aload 6, 2), (89, .aload_n 1, 1), (90, .invokevirtual 442, 3)]),
  (109, [(93, .ifCond .eq 7, 3), (96, .iconst 1, 1), (97, .goto 4, 3), (100, .iconst 0, 1), (101, .putfield 429, 3), (104, .aload_n 0, 1), (105, .aload_n 0, 1), (106, .getfield 432, 3)]),
  (126, [(109, .ifCond .ne 23, 3), (112, .aload_n 2, 1), (113, .ifnull 23, 3), (116, .aload 6, 2), (118, .aload 5, 2), (120, .invokestatic 446, 3), (123, .aload_n 2, 1), (124, .aload 5, 2)]),
  (146, [(126, .invokestatic 446, 3), (129, .if_icmp .ge 7, 3), (132, .iconst 1, 1), (133, .goto 4, 3), (136, .iconst 0, 1), (137, .putfield 432, 3), (140, .iinc 7 1, 3), (143, .goto (-101), 3)]),
  (100000, [(146, .iload 4, 2), (148, .ireturn, 1)])]
set_option maxRecDepth 100000 in
theorem xd_X14_goThrough : xchk cX14_goThrough xk_X14_goThrough = true := xchk_of (by decide +kernel)
set_option maxRecDepth 100000 in
def xk_X14_goalSet : XT (Instr × Nat) := [(8, [(0, .aload_n 0, 1), (1, .sipush 805, 3), (4, .aload_n 0, 1), (5, .getfield 9, 3)]),
  (14, [(8, .iconst 1, 1), (9, .iaload, 1), (10, .sipush 291, 3), (13, .imul, 1)]),
  (21, [(14, .iadd, 1), (15, .bipush 35, 2), (17, .iadd, 1), (18, .invokevirtual 286, 3)]),
  (100000, [(21, .areturn, 1)])]
set_option maxRecDepth 100000 in
theorem xd_X14_goalSet : xchk cX14_goalSet xk_X14_goalSet = true := xchk_of (by decide +kernel)
set_option maxRecDepth 100000 in
def xk_X14_goesWrong : XT (Instr × Nat) := [(8, [(0, .aload_n 0, 1), (1, .sipush 288, 3), (4, .iload_n 1, 1), (5, .invokevirtual 516, 3)]),
  (16, [(8, .aload_n 0, 1), (9, .sipush 289, 3), (12, .iload_n 2, 1), (13, .invokevirtual 516, 3)]),
  (24, [(16, .aload_n 0, 1), (17, .sipush 290, 3), (20, .iload_n 3, 1), (21, .invokevirtual 516, 3)]),
  (100000, [(24, .iconst (-1), 1), (25, .ireturn, 1)])]
set_option maxRecDepth 100000 in
theorem xd_X14_goesWrong : xchk cX14_goesWrong xk_X14_goesWrong = true := xchk_of (by decide +kernel)
set_option maxRecDepth 100000 in
def xk_X14_hasAll : XT (Instr × Nat) := [(7, [(0, .lload 4, 2), (2, .lload_n 0, 1), (3, .ldc2_w 359, 3), (6, .lxor, 1)]),
  (13, [(7, .land, 1), (8, .lconst 0, 1), (9, .lcmp, 1), (10, .ifCond .ne 20, 3)]),
  (20, [(13, .lload 6, 2), (15, .lload_n 2, 1), (16, .ldc2_w 359, 3), (19, .lxor, 1)]),
  (26, [(20, .land, 1), (21, .lconst 0, 1), (22, .lcmp, 1), (23, .ifCond .ne 7, 3)]),
  (100000, [(26, .iconst 1, 1), (27, .goto 4, 3), (30, .iconst 0, 1), (31, .ireturn, 1)])]
set_option maxRecDepth 100000 in
theorem xd_X14_hasAll : xchk cX14_hasAll xk_X14_hasAll = true := xchk_of (by decide +kernel)
set_option maxRecDepth 100000 in
def xk_X14_hasNeeds : XT (Instr × Nat) := [(11, [(0, .aload_n 0, 1), (1, .aload_n 1, 1), (2, .iload_n 2, 1), (3, .invokevirtual 297, 3), (6, .istore_n 3, 1), (7, .iconst 1, 1), (8, .istore 4, 2), (10, .iconst 0, 1)]),
  (27, [(11, .istore 5, 2), (13, .iload 5, 2), (15, .aload_n 0, 1), (16, .iload_n 3, 1), (17, .bipush 7, 2), (19, .invokevirtual 163, 3), (22, .if_icmp .ge 44, 3), (25, .iload 4, 2)]),
  (41, [(27, .ifCond .eq 30, 3), (30, .aload_n 0, 1), (31, .aload_n 0, 1), (32, .getfield 18, 3), (35, .aload_n 0, 1), (36, .iload_n 3, 1), (37, .bipush 8, 2), (39, .iload 5, 2)]),
  (57, [(41, .iadd, 1), (42, .invokevirtual 163, 3), (45, .aaload, 1), (46, .aload_n 1, 1), (47, .invokevirtual 305, 3), (50, .ifCond .eq 7, 3), (53, .iconst 1, 1), (54, .goto 4, 3)]),
  (73, [(57, .iconst 0, 1), (58, .istore 4, 2), (60, .iinc 5 1, 3), (63, .goto (-50), 3), (66, .iload 4, 2), (68, .ifCond .eq 47, 3), (71, .aload_n 1, 1), (72, .iload_n 2, 1)]),
  (90, [(73, .invokestatic 293, 3), (76, .ifCond .eq 35, 3), (79, .aload_n 0, 1), (80, .iload_n 3, 1), (81, .bipush 6, 2), (83, .invokevirtual 163, 3), (86, .ifCond .eq 25, 3), (89, .aload_n 0, 1)]),
  (103, [(90, .aload_n 0, 1), (91, .getfield 18, 3), (94, .aload_n 0, 1), (95, .iload_n 3, 1), (96, .bipush 6, 2), (98, .invokevirtual 163, 3), (101, .iconst 1, 1), (102, .isub, 1)]),
  (100000, [(103, .aaload, 1), (104, .aload_n 1, 1), (105, .invokevirtual 305, 3), (108, .ifCond .eq 7, 3), (111, .iconst 1, 1), (112, .goto 4, 3), (115, .iconst 0, 1), (116, .ireturn, 1)])]
set_option maxRecDepth 100000 in
theorem xd_X14_hasNeeds : xchk cX14_hasNeeds xk_X14_hasNeeds = true := xchk_of (by decide +kernel)
set_option maxRecDepth 100000 in
def xk_X14_hasOption : XT (Instr × Nat) := [(5, [(0, .iconst 0, 1), (1, .istore_n 2, 1), (2, .iconst 0, 1), (3, .istore_n 3, 1), (4, .iload_n 3, 1)]),
  (14, [(5, .aload_n 0, 1), (6, .getfield 9, 3), (9, .iconst 4, 1), (10, .iaload, 1), (11, .if_icmp .ge 39, 3)]),
  (21, [(14, .iload_n 2, 1), (15, .ifCond .ne 23, 3), (18, .aload_n 0, 1), (19, .iload_n 3, 1), (20, .iconst 0, 1)]),
  (30, [(21, .invokevirtual 163, 3), (24, .iload_n 1, 1), (25, .if_icmp .ne 17, 3), (28, .aload_n 0, 1), (29, .iload_n 3, 1)]),
  (42, [(30, .bipush 6, 2), (32, .invokevirtual 163, 3), (35, .ifCond .le 7, 3), (38, .iconst 1, 1), (39, .goto 4, 3)]),
  (51, [(42, .iconst 0, 1), (43, .istore_n 2, 1), (44, .iinc 3 1, 3), (47, .goto (-43), 3), (50, .iload_n 2, 1)]),
  (100000, [(51, .ireturn, 1)])]
set_option maxRecDepth 100000 in
theorem xd_X14_hasOption : xchk cX14_hasOption xk_X14_hasOption = true := xchk_of (by decide +kernel)
set_option maxRecDepth 100000 in
def xk_X14_hold : XT (Instr × Nat) := [(8, [(0, .aload_n 0, 1), (1, .iconst 0, 1), (2, .putfield 134, 3), (5, .aload_n 0, 1), (6, .aload_n 0, 1), (7, .iload_n 1, 1)]),
  (20, [(8, .invokevirtual 200, 3), (11, .iconst 1, 1), (12, .invokevirtual 180, 3), (15, .ifCond .eq 5, 3), (18, .iconst 0, 1), (19, .ireturn, 1)]),
  (31, [(20, .aload_n 0, 1), (21, .invokevirtual 411, 3), (24, .aload_n 0, 1), (25, .bipush 9, 2), (27, .iload_n 2, 1), (28, .ifCond .eq 16, 3)]),
  (40, [(31, .aload_n 0, 1), (32, .bipush 9, 2), (34, .invokevirtual 312, 3), (37, .iconst 1, 1), (38, .iload_n 1, 1), (39, .ishl, 1)]),
  (51, [(40, .ior, 1), (41, .goto 15, 3), (44, .aload_n 0, 1), (45, .bipush 9, 2), (47, .invokevirtual 312, 3), (50, .iconst 1, 1)]),
  (59, [(51, .iload_n 1, 1), (52, .ishl, 1), (53, .iconst (-1), 1), (54, .ixor, 1), (55, .iand, 1), (56, .invokevirtual 516, 3)]),
  (100000, [(59, .aload_n 0, 1), (60, .bipush 9, 2), (62, .invokevirtual 312, 3), (65, .invokestatic 519, 3), (68, .ireturn, 1)])]
set_option maxRecDepth 100000 in
theorem xd_X14_hold : xchk cX14_hold xk_X14_hold = true := xchk_of (by decide +kernel)
set_option maxRecDepth 100000 in
def xk_X14_inRange : XT (Instr × Nat) := [(11, [(0, .aload_n 0, 1), (1, .iconst 0, 1), (2, .putfield 134, 3), (5, .aload_n 0, 1), (6, .aload_n 0, 1), (7, .iload_n 1, 1), (8, .invokevirtual 200, 3)]),
  (22, [(11, .iconst 1, 1), (12, .invokevirtual 180, 3), (15, .ifCond .eq 5, 3), (18, .iconst 0, 1), (19, .ireturn, 1), (20, .aload_n 0, 1), (21, .iload_n 1, 1)]),
  (35, [(22, .invokevirtual 513, 3), (25, .astore_n 2, 1), (26, .aload_n 0, 1), (27, .aload_n 2, 1), (28, .ifnull 7, 3), (31, .iconst 1, 1), (32, .goto 4, 3)]),
  (46, [(35, .iconst 0, 1), (36, .iconst 2, 1), (37, .invokevirtual 180, 3), (40, .ifCond .eq 5, 3), (43, .iconst 0, 1), (44, .ireturn, 1), (45, .iconst 0, 1)]),
  (57, [(46, .istore_n 3, 1), (47, .aload_n 0, 1), (48, .iload_n 1, 1), (49, .invokevirtual 352, 3), (52, .astore 4, 2), (54, .aload 4, 2), (56, .arraylength, 1)]),
  (71, [(57, .istore 5, 2), (59, .iconst 0, 1), (60, .istore 6, 2), (62, .iload 6, 2), (64, .iload 5, 2), (66, .if_icmp .ge 39, 3), (69, .aload 4, 2)]),
  (80, [(71, .iload 6, 2), (73, .iaload, 1), (74, .istore 7, 2), (76, .iload_n 3, 1), (77, .aload_n 2, 1), (78, .iconst 0, 1), (79, .aload_n 0, 1)]),
  (96, [(80, .iload 7, 2), (82, .iconst 1, 1), (83, .invokevirtual 163, 3), (86, .invokestatic 279, 3), (89, .ifCond .eq 7, 3), (92, .iconst 1, 1), (93, .goto 4, 3)]),
  (100000, [(96, .iconst 0, 1), (97, .iadd, 1), (98, .istore_n 3, 1), (99, .iinc 6 1, 3), (102, .goto (-40), 3), (105, .iload_n 3, 1), (106, .ireturn, 1)])]
set_option maxRecDepth 100000 in
theorem xd_X14_inRange : xchk cX14_inRange xk_X14_inRange = true := xchk_of (by decide +kernel)
set_option maxRecDepth 100000 in
def xk_X14_init_0 : List (Nat × Instr × Nat) := [(0, .aload_n 0, 1), (1, .invokespecial 1, 3), (4, .aload_n 0, 1), (5, .sipush 1957, 3), (8, .newarray .int, 2), (10, .putfield 9, 3), (13, .aload_n 0, 1), (14, .sipush 19570, 3), (17, .newarray .int, 2), (19, .putfield 13, 3), (22, .aload_n 0, 1), (23, .bipush 16, 2), (25, .anewarray 16, 3), (28, .putfield 18, 3)]
set_option maxRecDepth 100000 in
theorem xd_X14_init_0 : xchk1 cX14_init xk_X14_init_0 = true := xwalk_of 0 (by decide +kernel)
set_option maxRecDepth 100000 in
def xk_X14_init_1 : List (Nat × Instr × Nat) := [(31, .aload_n 0, 1), (32, .sipush 200, 3), (35, .newarray .int, 2), (37, .putfield 22, 3), (40, .aload_n 0, 1), (41, .iconst (-1), 1), (42, .putfield 25, 3), (45, .aload_n 0, 1), (46, .bipush 12, 2), (48, .anewarray 29, 3), (51, .putfield 30, 3), (54, .aload_n 0, 1), (55, .iconst (-1), 1), (56, .putfield 34, 3)]
set_option maxRecDepth 100000 in
theorem xd_X14_init_1 : xchk1 cX14_init xk_X14_init_1 = true := xwalk_of 31 (by decide +kernel)
set_option maxRecDepth 100000 in
def xk_X14_init_2 : List (Nat × Instr × Nat) := [(59, .aload_n 0, 1), (60, .sipush 200, 3), (63, .newarray .int, 2), (65, .putfield 37, 3), (68, .aload_n 0, 1), (69, .sipush 201, 3), (72, .newarray .int, 2), (74, .putfield 40, 3), (77, .aload_n 0, 1), (78, .sipush 600, 3), (81, .newarray .int, 2), (83, .putfield 43, 3), (86, .aload_n 0, 1), (87, .bipush 64, 2)]
set_option maxRecDepth 100000 in
theorem xd_X14_init_2 : xchk1 cX14_init xk_X14_init_2 = true := xwalk_of 59 (by decide +kernel)
set_option maxRecDepth 100000 in
def xk_X14_init_3 : List (Nat × Instr × Nat) := [(89, .newarray .long, 2), (91, .putfield 46, 3), (94, .aload_n 0, 1), (95, .bipush 64, 2), (97, .newarray .long, 2), (99, .putfield 50, 3), (102, .aload_n 0, 1), (103, .bipush 64, 2), (105, .newarray .int, 2), (107, .putfield 53, 3), (110, .aload_n 0, 1), (111, .bipush 64, 2), (113, .newarray .int, 2), (115, .putfield 56, 3)]
set_option maxRecDepth 100000 in
theorem xd_X14_init_3 : xchk1 cX14_init xk_X14_init_3 = true := xwalk_of 89 (by decide +kernel)
set_option maxRecDepth 100000 in
def xk_X14_init_4 : List (Nat × Instr × Nat) := [(118, .aload_n 0, 1), (119, .bipush 64, 2), (121, .newarray .int, 2), (123, .putfield 59, 3), (126, .aload_n 0, 1), (127, .iconst (-1), 1), (128, .putfield 62, 3), (131, .aload_n 0, 1), (132, .bipush 64, 2), (134, .newarray .boolean, 2), (136, .putfield 65, 3), (139, .aload_n 0, 1), (140, .iconst 1, 1), (141, .putfield 69, 3)]
set_option maxRecDepth 100000 in
theorem xd_X14_init_4 : xchk1 cX14_init xk_X14_init_4 = true := xwalk_of 118 (by decide +kernel)
set_option maxRecDepth 100000 in
def xk_X14_init_5 : List (Nat × Instr × Nat) := [(144, .aload_n 0, 1), (145, .iconst (-1), 1), (146, .putfield 73, 3), (149, .aload_n 0, 1), (150, .bipush 12, 2), (152, .newarray .int, 2), (154, .putfield 76, 3), (157, .aload_n 0, 1), (158, .iconst (-1), 1), (159, .putfield 79, 3), (162, .aload_n 0, 1), (163, .iconst (-1), 1), (164, .putfield 82, 3), (167, .aload_n 0, 1)]
set_option maxRecDepth 100000 in
theorem xd_X14_init_5 : xchk1 cX14_init xk_X14_init_5 = true := xwalk_of 144 (by decide +kernel)
set_option maxRecDepth 100000 in
def xk_X14_init_6 : List (Nat × Instr × Nat) := [(168, .iconst (-1), 1), (169, .putfield 85, 3), (172, .aload_n 0, 1), (173, .iconst 0, 1), (174, .newarray .int, 2), (176, .putfield 88, 3), (179, .aload_n 0, 1), (180, .iconst (-1), 1), (181, .putfield 91, 3), (184, .aload_n 0, 1), (185, .sipush 200, 3), (188, .newarray .long, 2), (190, .putfield 94, 3), (193, .aload_n 0, 1)]
set_option maxRecDepth 100000 in
theorem xd_X14_init_6 : xchk1 cX14_init xk_X14_init_6 = true := xwalk_of 168 (by decide +kernel)
set_option maxRecDepth 100000 in
def xk_X14_init_7 : List (Nat × Instr × Nat) := [(194, .sipush 200, 3), (197, .newarray .long, 2), (199, .putfield 97, 3), (202, .aload_n 0, 1), (203, .sipush 200, 3), (206, .newarray .int, 2), (208, .putfield 100, 3), (211, .aload_n 0, 1), (212, .sipush 200, 3), (215, .newarray .int, 2), (217, .putfield 103, 3), (220, .aload_n 0, 1), (221, .bipush 64, 2), (223, .newarray .long, 2)]
set_option maxRecDepth 100000 in
theorem xd_X14_init_7 : xchk1 cX14_init xk_X14_init_7 = true := xwalk_of 194 (by decide +kernel)
set_option maxRecDepth 100000 in
def xk_X14_init_8 : List (Nat × Instr × Nat) := [(225, .putfield 106, 3), (228, .aload_n 0, 1), (229, .bipush 64, 2), (231, .newarray .long, 2), (233, .putfield 109, 3), (236, .aload_n 0, 1), (237, .bipush 64, 2), (239, .newarray .int, 2), (241, .putfield 112, 3), (244, .aload_n 0, 1), (245, .bipush 64, 2), (247, .newarray .int, 2), (249, .putfield 115, 3), (252, .aload_n 0, 1)]
set_option maxRecDepth 100000 in
theorem xd_X14_init_8 : xchk1 cX14_init xk_X14_init_8 = true := xwalk_of 225 (by decide +kernel)
set_option maxRecDepth 100000 in
def xk_X14_init_9 : List (Nat × Instr × Nat) := [(253, .bipush 12, 2), (255, .newarray .int, 2), (257, .putfield 118, 3), (260, .aload_n 0, 1), (261, .bipush 12, 2), (263, .newarray .int, 2), (265, .putfield 121, 3), (268, .aload_n 0, 1), (269, .bipush 12, 2), (271, .newarray .int, 2), (273, .putfield 124, 3), (276, .aload_n 0, 1), (277, .bipush 12, 2), (279, .newarray .int, 2)]
set_option maxRecDepth 100000 in
theorem xd_X14_init_9 : xchk1 cX14_init xk_X14_init_9 = true := xwalk_of 253 (by decide +kernel)
set_option maxRecDepth 100000 in
def xk_X14_init_10 : List (Nat × Instr × Nat) := [(281, .putfield 127, 3), (284, .aload_n 0, 1), (285, .bipush 12, 2), (287, .newarray .int, 2), (289, .putfield 130, 3), (292, .iconst 0, 1), (293, .istore_n 1, 1), (294, .iload_n 1, 1), (295, .iconst 3, 1), (296, .if_icmp .ge 94, 3), (299, .sipush 805, 3), (302, .iload_n 1, 1), (303, .sipush 291, 3), (306, .imul, 1)]
set_option maxRecDepth 100000 in
theorem xd_X14_init_10 : xchk1 cX14_init xk_X14_init_10 = true := xwalk_of 281 (by decide +kernel)
set_option maxRecDepth 100000 in
def xk_X14_init_11 : List (Nat × Instr × Nat) := [(307, .iadd, 1), (308, .istore_n 2, 1), (309, .aload_n 0, 1), (310, .getfield 9, 3), (313, .iload_n 2, 1), (314, .bipush 22, 2), (316, .iadd, 1), (317, .ldc 133, 2), (319, .iastore, 1), (320, .iconst 0, 1), (321, .istore_n 3, 1), (322, .iload_n 3, 1), (323, .bipush 12, 2), (325, .if_icmp .ge 33, 3)]
set_option maxRecDepth 100000 in
theorem xd_X14_init_11 : xchk1 cX14_init xk_X14_init_11 = true := xwalk_of 307 (by decide +kernel)
set_option maxRecDepth 100000 in
def xk_X14_init_12 : List (Nat × Instr × Nat) := [(328, .aload_n 0, 1), (329, .getfield 9, 3), (332, .iload_n 2, 1), (333, .bipush 23, 2), (335, .iadd, 1), (336, .iload_n 3, 1), (337, .iadd, 1), (338, .iconst (-1), 1), (339, .iastore, 1), (340, .aload_n 0, 1), (341, .getfield 9, 3), (344, .iload_n 2, 1), (345, .bipush 35, 2), (347, .iadd, 1)]
set_option maxRecDepth 100000 in
theorem xd_X14_init_12 : xchk1 cX14_init xk_X14_init_12 = true := xwalk_of 328 (by decide +kernel)
set_option maxRecDepth 100000 in
def xk_X14_init_13 : List (Nat × Instr × Nat) := [(348, .iload_n 3, 1), (349, .iadd, 1), (350, .iconst (-1), 1), (351, .iastore, 1), (352, .iinc 3 1, 3), (355, .goto (-33), 3), (358, .iconst 0, 1), (359, .istore_n 3, 1), (360, .iload_n 3, 1), (361, .iconst 3, 1), (362, .if_icmp .ge 22, 3), (365, .aload_n 0, 1), (366, .getfield 9, 3), (369, .iload_n 2, 1)]
set_option maxRecDepth 100000 in
theorem xd_X14_init_13 : xchk1 cX14_init xk_X14_init_13 = true := xwalk_of 348 (by decide +kernel)
set_option maxRecDepth 100000 in
def xk_X14_init_14 : List (Nat × Instr × Nat) := [(370, .sipush 288, 3), (373, .iadd, 1), (374, .iload_n 3, 1), (375, .iadd, 1), (376, .iconst (-1), 1), (377, .iastore, 1), (378, .iinc 3 1, 3), (381, .goto (-21), 3), (384, .iinc 1 1, 3), (387, .goto (-93), 3), (390, .iconst 0, 1), (391, .istore_n 1, 1), (392, .iload_n 1, 1), (393, .bipush 36, 2)]
set_option maxRecDepth 100000 in
theorem xd_X14_init_14 : xchk1 cX14_init xk_X14_init_14 = true := xwalk_of 370 (by decide +kernel)
set_option maxRecDepth 100000 in
def xk_X14_init_15 : List (Nat × Instr × Nat) := [(395, .if_icmp .ge 20, 3), (398, .aload_n 0, 1), (399, .getfield 9, 3), (402, .sipush 1678, 3), (405, .iload_n 1, 1), (406, .iadd, 1), (407, .iconst (-1), 1), (408, .iastore, 1), (409, .iinc 1 1, 3), (412, .goto (-20), 3), (415, .return_, 1)]
set_option maxRecDepth 100000 in
theorem xd_X14_init_15 : xchk1 cX14_init xk_X14_init_15 = true := xwalk_of 395 (by decide +kernel)
set_option maxRecDepth 100000 in
def xk_X14_init : XT (Instr × Nat) := [(31, xk_X14_init_0),
  (59, xk_X14_init_1),
  (89, xk_X14_init_2),
  (118, xk_X14_init_3),
  (144, xk_X14_init_4),
  (168, xk_X14_init_5),
  (194, xk_X14_init_6),
  (225, xk_X14_init_7),
  (253, xk_X14_init_8),
  (281, xk_X14_init_9),
  (307, xk_X14_init_10),
  (328, xk_X14_init_11),
  (348, xk_X14_init_12),
  (370, xk_X14_init_13),
  (395, xk_X14_init_14),
  (100000, xk_X14_init_15)]
set_option maxRecDepth 100000 in
theorem xd_X14_init : xchk cX14_init xk_X14_init = true := (xchk_cons xd_X14_init_0 (xchk_cons xd_X14_init_1 (xchk_cons xd_X14_init_2 (xchk_cons xd_X14_init_3 (xchk_cons xd_X14_init_4 (xchk_cons xd_X14_init_5 (xchk_cons xd_X14_init_6 (xchk_cons xd_X14_init_7 (xchk_cons xd_X14_init_8 (xchk_cons xd_X14_init_9 (xchk_cons xd_X14_init_10 (xchk_cons xd_X14_init_11 (xchk_cons xd_X14_init_12 (xchk_cons xd_X14_init_13 (xchk_cons xd_X14_init_14 (xchk_cons xd_X14_init_15 xchk_nil))))))))))))))))
set_option maxRecDepth 100000 in
def xk_X14_install_0 : List (Nat × Instr × Nat) := [(0, .aload_n 0, 1), (1, .iconst 0, 1), (2, .putfield 134, 3), (5, .aload_n 0, 1), (6, .invokevirtual 523, 3), (9, .astore_n 1, 1), (10, .aload_n 0, 1), (11, .aload_n 0, 1), (12, .aload_n 1, 1), (13, .invokevirtual 326, 3), (16, .iconst 1, 1), (17, .invokevirtual 180, 3)]
set_option maxRecDepth 100000 in
theorem xd_X14_install_0 : xchk1 cX14_install xk_X14_install_0 = true := xwalk_of 0 (by decide +kernel)
set_option maxRecDepth 100000 in
def xk_X14_install_1 : List (Nat × Instr × Nat) := [(20, .ifCond .eq 5, 3), (23, .iconst 0, 1), (24, .ireturn, 1), (25, .aload_n 0, 1), (26, .invokevirtual 411, 3), (29, .aload_n 0, 1), (30, .invokevirtual 344, 3), (33, .astore_n 2, 1), (34, .aload_n 0, 1), (35, .aload_n 1, 1), (36, .invokevirtual 554, 3), (39, .aload_n 0, 1)]
set_option maxRecDepth 100000 in
theorem xd_X14_install_1 : xchk1 cX14_install xk_X14_install_1 = true := xwalk_of 20 (by decide +kernel)
set_option maxRecDepth 100000 in
def xk_X14_install_2 : List (Nat × Instr × Nat) := [(40, .getfield 545, 3), (43, .ifCond .ge 16, 3), (46, .aload_n 0, 1), (47, .iconst 0, 1), (48, .aload_n 0, 1), (49, .getfield 127, 3), (52, .iconst 0, 1), (53, .iaload, 1), (54, .iconst (-1), 1), (55, .invokevirtual 575, 3), (58, .ireturn, 1), (59, .aload_n 0, 1)]
set_option maxRecDepth 100000 in
theorem xd_X14_install_2 : xchk1 cX14_install xk_X14_install_2 = true := xwalk_of 40 (by decide +kernel)
set_option maxRecDepth 100000 in
def xk_X14_install_3 : List (Nat × Instr × Nat) := [(60, .aload_n 1, 1), (61, .aload_n 2, 1), (62, .invokevirtual 560, 3), (65, .astore_n 3, 1), (66, .iconst 0, 1), (67, .istore 4, 2), (69, .iload 4, 2), (71, .aload_n 3, 1), (72, .arraylength, 1), (73, .if_icmp .ge 63, 3), (76, .aload_n 0, 1), (77, .getfield 9, 3)]
set_option maxRecDepth 100000 in
theorem xd_X14_install_3 : xchk1 cX14_install xk_X14_install_3 = true := xwalk_of 60 (by decide +kernel)
set_option maxRecDepth 100000 in
def xk_X14_install_4 : List (Nat × Instr × Nat) := [(80, .iconst 3, 1), (81, .iaload, 1), (82, .ifCond .le 54, 3), (85, .aload_n 0, 1), (86, .aload_n 0, 1), (87, .aload_n 1, 1), (88, .aload_n 3, 1), (89, .iload 4, 2), (91, .iaload, 1), (92, .invokevirtual 297, 3), (95, .aload_n 0, 1), (96, .getfield 9, 3)]
set_option maxRecDepth 100000 in
theorem xd_X14_install_4 : xchk1 cX14_install xk_X14_install_4 = true := xwalk_of 80 (by decide +kernel)
set_option maxRecDepth 100000 in
def xk_X14_install_5 : List (Nat × Instr × Nat) := [(99, .iconst 2, 1), (100, .iaload, 1), (101, .iconst 1, 1), (102, .invokevirtual 564, 3), (105, .iconst (-1), 1), (106, .if_icmp .ne 14, 3), (109, .aload_n 0, 1), (110, .iconst 1, 1), (111, .aload_n 3, 1), (112, .iload 4, 2), (114, .iaload, 1), (115, .iconst (-1), 1)]
set_option maxRecDepth 100000 in
theorem xd_X14_install_5 : xchk1 cX14_install xk_X14_install_5 = true := xwalk_of 99 (by decide +kernel)
set_option maxRecDepth 100000 in
def xk_X14_install_6 : List (Nat × Instr × Nat) := [(116, .invokevirtual 575, 3), (119, .ireturn, 1), (120, .aload_n 0, 1), (121, .getfield 9, 3), (124, .iconst 2, 1), (125, .dup2, 1), (126, .iaload, 1), (127, .iconst 1, 1), (128, .iadd, 1), (129, .iastore, 1), (130, .iinc 4 1, 3), (133, .goto (-64), 3)]
set_option maxRecDepth 100000 in
theorem xd_X14_install_6 : xchk1 cX14_install xk_X14_install_6 = true := xwalk_of 116 (by decide +kernel)
set_option maxRecDepth 100000 in
def xk_X14_install_7 : List (Nat × Instr × Nat) := [(136, .aload_n 0, 1), (137, .aload_n 2, 1), (138, .aload_n 1, 1), (139, .invokevirtual 571, 3), (142, .iconst 0, 1), (143, .istore 4, 2), (145, .iload 4, 2), (147, .aload_n 0, 1), (148, .getfield 568, 3), (151, .if_icmp .ge 28, 3), (154, .aload_n 0, 1), (155, .iload 4, 2)]
set_option maxRecDepth 100000 in
theorem xd_X14_install_7 : xchk1 cX14_install xk_X14_install_7 = true := xwalk_of 136 (by decide +kernel)
set_option maxRecDepth 100000 in
def xk_X14_install_8 : List (Nat × Instr × Nat) := [(157, .aload_n 2, 1), (158, .aload_n 1, 1), (159, .aload_n 3, 1), (160, .invokevirtual 579, 3), (163, .istore 5, 2), (165, .iload 5, 2), (167, .iconst (-1), 1), (168, .if_icmp .ne 5, 3), (171, .iconst (-1), 1), (172, .ireturn, 1), (173, .iinc 4 1, 3), (176, .goto (-31), 3)]
set_option maxRecDepth 100000 in
theorem xd_X14_install_8 : xchk1 cX14_install xk_X14_install_8 = true := xwalk_of 157 (by decide +kernel)
set_option maxRecDepth 100000 in
def xk_X14_install_9 : List (Nat × Instr × Nat) := [(179, .aload_n 1, 1), (180, .iconst 0, 1), (181, .aload_n 0, 1), (182, .getfield 9, 3), (185, .sipush 805, 3), (188, .aload_n 0, 1), (189, .getfield 9, 3), (192, .iconst 1, 1), (193, .iaload, 1), (194, .sipush 291, 3), (197, .imul, 1), (198, .iadd, 1)]
set_option maxRecDepth 100000 in
theorem xd_X14_install_9 : xchk1 cX14_install xk_X14_install_9 = true := xwalk_of 179 (by decide +kernel)
set_option maxRecDepth 100000 in
def xk_X14_install_10 : List (Nat × Instr × Nat) := [(199, .bipush 23, 2), (201, .iadd, 1), (202, .bipush 12, 2), (204, .invokestatic 140, 3), (207, .aload_n 1, 1), (208, .iconst 0, 1), (209, .aload_n 0, 1), (210, .getfield 9, 3), (213, .sipush 805, 3), (216, .aload_n 0, 1), (217, .getfield 9, 3), (220, .iconst 1, 1)]
set_option maxRecDepth 100000 in
theorem xd_X14_install_10 : xchk1 cX14_install xk_X14_install_10 = true := xwalk_of 199 (by decide +kernel)
set_option maxRecDepth 100000 in
def xk_X14_install_11 : List (Nat × Instr × Nat) := [(221, .iaload, 1), (222, .sipush 291, 3), (225, .imul, 1), (226, .iadd, 1), (227, .bipush 48, 2), (229, .iadd, 1), (230, .aload_n 0, 1), (231, .bipush 47, 2), (233, .invokevirtual 312, 3), (236, .bipush 20, 2), (238, .irem, 1), (239, .bipush 12, 2)]
set_option maxRecDepth 100000 in
theorem xd_X14_install_11 : xchk1 cX14_install xk_X14_install_11 = true := xwalk_of 221 (by decide +kernel)
set_option maxRecDepth 100000 in
def xk_X14_install_12 : List (Nat × Instr × Nat) := [(241, .imul, 1), (242, .iadd, 1), (243, .bipush 12, 2), (245, .invokestatic 140, 3), (248, .aload_n 0, 1), (249, .bipush 47, 2), (251, .aload_n 0, 1), (252, .bipush 47, 2), (254, .invokevirtual 312, 3), (257, .iconst 1, 1), (258, .iadd, 1), (259, .invokevirtual 516, 3)]
set_option maxRecDepth 100000 in
theorem xd_X14_install_12 : xchk1 cX14_install xk_X14_install_12 = true := xwalk_of 241 (by decide +kernel)
set_option maxRecDepth 100000 in
def xk_X14_install_13 : List (Nat × Instr × Nat) := [(262, .aload_n 0, 1), (263, .iconst (-1), 1), (264, .iconst (-1), 1), (265, .iconst (-1), 1), (266, .invokevirtual 575, 3), (269, .istore 4, 2), (271, .aload_n 0, 1), (272, .getfield 568, 3), (275, .ireturn, 1)]
set_option maxRecDepth 100000 in
theorem xd_X14_install_13 : xchk1 cX14_install xk_X14_install_13 = true := xwalk_of 262 (by decide +kernel)
set_option maxRecDepth 100000 in
def xk_X14_install : XT (Instr × Nat) := [(20, xk_X14_install_0),
  (40, xk_X14_install_1),
  (60, xk_X14_install_2),
  (80, xk_X14_install_3),
  (99, xk_X14_install_4),
  (116, xk_X14_install_5),
  (136, xk_X14_install_6),
  (157, xk_X14_install_7),
  (179, xk_X14_install_8),
  (199, xk_X14_install_9),
  (221, xk_X14_install_10),
  (241, xk_X14_install_11),
  (262, xk_X14_install_12),
  (100000, xk_X14_install_13)]
set_option maxRecDepth 100000 in
theorem xd_X14_install : xchk cX14_install xk_X14_install = true := (xchk_cons xd_X14_install_0 (xchk_cons xd_X14_install_1 (xchk_cons xd_X14_install_2 (xchk_cons xd_X14_install_3 (xchk_cons xd_X14_install_4 (xchk_cons xd_X14_install_5 (xchk_cons xd_X14_install_6 (xchk_cons xd_X14_install_7 (xchk_cons xd_X14_install_8 (xchk_cons xd_X14_install_9 (xchk_cons xd_X14_install_10 (xchk_cons xd_X14_install_11 (xchk_cons xd_X14_install_12 (xchk_cons xd_X14_install_13 xchk_nil))))))))))))))
set_option maxRecDepth 100000 in
def xk_X14_installed : XT (Instr × Nat) := [(6, [(0, .aload_n 0, 1), (1, .iconst 0, 1), (2, .putfield 134, 3), (5, .aload_n 0, 1)]),
  (12, [(6, .aload_n 0, 1), (7, .iload_n 1, 1), (8, .invokevirtual 200, 3), (11, .iconst 1, 1)]),
  (22, [(12, .invokevirtual 180, 3), (15, .ifCond .eq 7, 3), (18, .iconst 0, 1), (19, .goto 11, 3)]),
  (27, [(22, .aload_n 0, 1), (23, .bipush 23, 2), (25, .iload_n 1, 1), (26, .iadd, 1)]),
  (100000, [(27, .invokevirtual 312, 3), (30, .ireturn, 1)])]
set_option maxRecDepth 100000 in
theorem xd_X14_installed : xchk cX14_installed xk_X14_installed = true := xchk_of (by decide +kernel)
set_option maxRecDepth 100000 in
def xk_X14_installedSet : XT (Instr × Nat) := [(8, [(0, .aload_n 0, 1), (1, .sipush 805, 3), (4, .aload_n 0, 1), (5, .getfield 9, 3)]),
  (14, [(8, .iconst 1, 1), (9, .iaload, 1), (10, .sipush 291, 3), (13, .imul, 1)]),
  (21, [(14, .iadd, 1), (15, .bipush 23, 2), (17, .iadd, 1), (18, .invokevirtual 286, 3)]),
  (100000, [(21, .areturn, 1)])]
set_option maxRecDepth 100000 in
theorem xd_X14_installedSet : xchk cX14_installedSet xk_X14_installedSet = true := xchk_of (by decide +kernel)
set_option maxRecDepth 100000 in
def xk_X14_isAhead_0 : List (Nat × Instr × Nat) := [(0, .aload_n 0, 1), (1, .invokevirtual 398, 3), (4, .astore_n 3, 1), (5, .aload_n 3, 1), (6, .arraylength, 1), (7, .istore 4, 2), (9, .iconst 0, 1), (10, .istore 5, 2), (12, .iload 5, 2)]
set_option maxRecDepth 100000 in
theorem xd_X14_isAhead_0 : xchk1 cX14_isAhead xk_X14_isAhead_0 = true := xwalk_of 0 (by decide +kernel)
set_option maxRecDepth 100000 in
def xk_X14_isAhead_1 : List (Nat × Instr × Nat) := [(14, .iload 4, 2), (16, .if_icmp .ge 102, 3), (19, .aload_n 3, 1), (20, .iload 5, 2), (22, .iaload, 1), (23, .istore 6, 2), (25, .aload_n 1, 1), (26, .iload 6, 2), (28, .invokestatic 319, 3)]
set_option maxRecDepth 100000 in
theorem xd_X14_isAhead_1 : xchk1 cX14_isAhead xk_X14_isAhead_1 = true := xwalk_of 14 (by decide +kernel)
set_option maxRecDepth 100000 in
def xk_X14_isAhead_2 : List (Nat × Instr × Nat) := [(31, .istore 7, 2), (33, .aload_n 2, 1), (34, .iload 6, 2), (36, .invokestatic 319, 3), (39, .istore 8, 2), (41, .iload 7, 2), (43, .iload 8, 2), (45, .if_icmp .eq 67, 3), (48, .aload_n 0, 1)]
set_option maxRecDepth 100000 in
theorem xd_X14_isAhead_2 : xchk1 cX14_isAhead xk_X14_isAhead_2 = true := xwalk_of 31 (by decide +kernel)
set_option maxRecDepth 100000 in
def xk_X14_isAhead_3 : List (Nat × Instr × Nat) := [(49, .getfield 395, 3), (52, .iload 6, 2), (54, .ishr, 1), (55, .iconst 1, 1), (56, .iand, 1), (57, .iconst 1, 1), (58, .if_icmp .ne 7, 3), (61, .iconst 1, 1), (62, .goto 4, 3)]
set_option maxRecDepth 100000 in
theorem xd_X14_isAhead_3 : xchk1 cX14_isAhead xk_X14_isAhead_3 = true := xwalk_of 49 (by decide +kernel)
set_option maxRecDepth 100000 in
def xk_X14_isAhead_4 : List (Nat × Instr × Nat) := [(65, .iconst 0, 1), (66, .istore 9, 2), (68, .iload 9, 2), (70, .ifCond .ne 29, 3), (73, .iload 7, 2), (75, .iconst (-1), 1), (76, .if_icmp .eq 9, 3), (79, .iload 8, 2), (81, .iconst (-1), 1)]
set_option maxRecDepth 100000 in
theorem xd_X14_isAhead_4 : xchk1 cX14_isAhead xk_X14_isAhead_4 = true := xwalk_of 65 (by decide +kernel)
set_option maxRecDepth 100000 in
def xk_X14_isAhead_5 : List (Nat × Instr × Nat) := [(82, .if_icmp .ne 17, 3), (85, .iload 7, 2), (87, .iconst (-1), 1), (88, .if_icmp .ne 7, 3), (91, .iconst 1, 1), (92, .goto 19, 3), (95, .iconst 0, 1), (96, .goto 15, 3), (99, .iload 7, 2)]
set_option maxRecDepth 100000 in
theorem xd_X14_isAhead_5 : xchk1 cX14_isAhead xk_X14_isAhead_5 = true := xwalk_of 82 (by decide +kernel)
set_option maxRecDepth 100000 in
def xk_X14_isAhead_6 : List (Nat × Instr × Nat) := [(101, .iload 8, 2), (103, .if_icmp .le 7, 3), (106, .iconst 1, 1), (107, .goto 4, 3), (110, .iconst 0, 1), (111, .ireturn, 1), (112, .iinc 5 1, 3), (115, .goto (-103), 3), (118, .iconst 0, 1)]
set_option maxRecDepth 100000 in
theorem xd_X14_isAhead_6 : xchk1 cX14_isAhead xk_X14_isAhead_6 = true := xwalk_of 101 (by decide +kernel)
set_option maxRecDepth 100000 in
def xk_X14_isAhead_7 : List (Nat × Instr × Nat) := [(119, .istore_n 3, 1), (120, .iload_n 3, 1), (121, .bipush 12, 2), (123, .if_icmp .ge 32, 3), (126, .aload_n 1, 1), (127, .iload_n 3, 1), (128, .iaload, 1), (129, .aload_n 2, 1), (130, .iload_n 3, 1)]
set_option maxRecDepth 100000 in
theorem xd_X14_isAhead_7 : xchk1 cX14_isAhead xk_X14_isAhead_7 = true := xwalk_of 119 (by decide +kernel)
set_option maxRecDepth 100000 in
def xk_X14_isAhead_8 : List (Nat × Instr × Nat) := [(131, .iaload, 1), (132, .if_icmp .eq 17, 3), (135, .aload_n 1, 1), (136, .iload_n 3, 1), (137, .invokestatic 293, 3), (140, .ifCond .ne 7, 3), (143, .iconst 1, 1), (144, .goto 4, 3), (147, .iconst 0, 1)]
set_option maxRecDepth 100000 in
theorem xd_X14_isAhead_8 : xchk1 cX14_isAhead xk_X14_isAhead_8 = true := xwalk_of 131 (by decide +kernel)
set_option maxRecDepth 100000 in
def xk_X14_isAhead_9 : List (Nat × Instr × Nat) := [(148, .ireturn, 1), (149, .iinc 3 1, 3), (152, .goto (-32), 3), (155, .iconst 0, 1), (156, .ireturn, 1)]
set_option maxRecDepth 100000 in
theorem xd_X14_isAhead_9 : xchk1 cX14_isAhead xk_X14_isAhead_9 = true := xwalk_of 148 (by decide +kernel)
set_option maxRecDepth 100000 in
def xk_X14_isAhead : XT (Instr × Nat) := [(14, xk_X14_isAhead_0),
  (31, xk_X14_isAhead_1),
  (49, xk_X14_isAhead_2),
  (65, xk_X14_isAhead_3),
  (82, xk_X14_isAhead_4),
  (101, xk_X14_isAhead_5),
  (119, xk_X14_isAhead_6),
  (131, xk_X14_isAhead_7),
  (148, xk_X14_isAhead_8),
  (100000, xk_X14_isAhead_9)]
set_option maxRecDepth 100000 in
theorem xd_X14_isAhead : xchk cX14_isAhead xk_X14_isAhead = true := (xchk_cons xd_X14_isAhead_0 (xchk_cons xd_X14_isAhead_1 (xchk_cons xd_X14_isAhead_2 (xchk_cons xd_X14_isAhead_3 (xchk_cons xd_X14_isAhead_4 (xchk_cons xd_X14_isAhead_5 (xchk_cons xd_X14_isAhead_6 (xchk_cons xd_X14_isAhead_7 (xchk_cons xd_X14_isAhead_8 (xchk_cons xd_X14_isAhead_9 xchk_nil))))))))))
set_option maxRecDepth 100000 in
def xk_X14_isAheadOf : XT (Instr × Nat) := [(6, [(0, .aload_n 0, 1), (1, .getfield 124, 3), (4, .iload_n 2, 1), (5, .iaload, 1)]),
  (10, [(6, .iload_n 1, 1), (7, .ishr, 1), (8, .iconst 1, 1), (9, .iand, 1)]),
  (18, [(10, .iconst 1, 1), (11, .if_icmp .ne 7, 3), (14, .iconst 1, 1), (15, .goto 4, 3)]),
  (100000, [(18, .iconst 0, 1), (19, .ireturn, 1)])]
set_option maxRecDepth 100000 in
theorem xd_X14_isAheadOf : xchk cX14_isAheadOf xk_X14_isAheadOf = true := xchk_of (by decide +kernel)
set_option maxRecDepth 100000 in
def xk_X14_isCode : XT (Instr × Nat) := [(7, [(0, .iload_n 0, 1), (1, .iconst 0, 1), (2, .ldc 162, 2), (4, .invokestatic 158, 3)]),
  (14, [(7, .ifCond .eq 14, 3), (10, .iload_n 0, 1), (11, .bipush 100, 2), (13, .irem, 1)]),
  (22, [(14, .ifCond .eq 7, 3), (17, .iconst 1, 1), (18, .goto 4, 3), (21, .iconst 0, 1)]),
  (100000, [(22, .ireturn, 1)])]
set_option maxRecDepth 100000 in
theorem xd_X14_isCode : xchk cX14_isCode xk_X14_isCode = true := xchk_of (by decide +kernel)
set_option maxRecDepth 100000 in
def xk_X14_isDigitAt : XT (Instr × Nat) := [(8, [(0, .iload_n 1, 1), (1, .aload_n 0, 1), (2, .getfield 177, 3), (5, .if_icmp .ge 23, 3)]),
  (14, [(8, .aload_n 0, 1), (9, .getfield 22, 3), (12, .iload_n 1, 1), (13, .iaload, 1)]),
  (24, [(14, .bipush 48, 2), (16, .bipush 57, 2), (18, .invokestatic 158, 3), (21, .ifCond .eq 7, 3)]),
  (100000, [(24, .iconst 1, 1), (25, .goto 4, 3), (28, .iconst 0, 1), (29, .ireturn, 1)])]
set_option maxRecDepth 100000 in
theorem xd_X14_isDigitAt : xchk cX14_isDigitAt xk_X14_isDigitAt = true := xchk_of (by decide +kernel)
set_option maxRecDepth 100000 in
def xk_X14_isEnd : XT (Instr × Nat) := [(8, [(0, .aload_n 0, 1), (1, .getfield 190, 3), (4, .iconst 5, 1), (5, .if_icmp .eq 10, 3)]),
  (16, [(8, .aload_n 0, 1), (9, .invokevirtual 206, 3), (12, .ifCond .eq 7, 3), (15, .iconst 1, 1)]),
  (100000, [(16, .goto 4, 3), (19, .iconst 0, 1), (20, .ireturn, 1)])]
set_option maxRecDepth 100000 in
theorem xd_X14_isEnd : xchk cX14_isEnd xk_X14_isEnd = true := xchk_of (by decide +kernel)
set_option maxRecDepth 100000 in
def xk_X14_isHeld : XT (Instr × Nat) := [(7, [(0, .aload_n 0, 1), (1, .bipush 9, 2), (3, .invokevirtual 312, 3), (6, .iload_n 1, 1)]),
  (11, [(7, .ishr, 1), (8, .iconst 1, 1), (9, .iand, 1), (10, .iconst 1, 1)]),
  (19, [(11, .if_icmp .ne 7, 3), (14, .iconst 1, 1), (15, .goto 4, 3), (18, .iconst 0, 1)]),
  (100000, [(19, .ireturn, 1)])]
set_option maxRecDepth 100000 in
theorem xd_X14_isHeld : xchk cX14_isHeld xk_X14_isHeld = true := xchk_of (by decide +kernel)
set_option maxRecDepth 100000 in
def xk_X14_isInstalled : XT (Instr × Nat) := [(6, [(0, .iconst 0, 1), (1, .istore_n 2, 1), (2, .iconst 0, 1), (3, .istore_n 3, 1), (4, .iload_n 3, 1), (5, .iconst 3, 1)]),
  (20, [(6, .if_icmp .ge 66, 3), (9, .aload_n 0, 1), (10, .getfield 9, 3), (13, .sipush 805, 3), (16, .iload_n 3, 1), (17, .sipush 291, 3)]),
  (27, [(20, .imul, 1), (21, .iadd, 1), (22, .bipush 23, 2), (24, .iadd, 1), (25, .aload_n 0, 1), (26, .iload_n 1, 1)]),
  (36, [(27, .iconst 0, 1), (28, .invokevirtual 163, 3), (31, .iadd, 1), (32, .iaload, 1), (33, .istore 4, 2), (35, .iload_n 2, 1)]),
  (50, [(36, .ifCond .ne 24, 3), (39, .iload 4, 2), (41, .iconst (-1), 1), (42, .if_icmp .eq 22, 3), (45, .iload 4, 2), (47, .ldc_w 289, 3)]),
  (60, [(50, .irem, 1), (51, .aload_n 0, 1), (52, .iload_n 1, 1), (53, .iconst 1, 1), (54, .invokevirtual 163, 3), (57, .if_icmp .ne 7, 3)]),
  (72, [(60, .iconst 1, 1), (61, .goto 4, 3), (64, .iconst 0, 1), (65, .istore_n 2, 1), (66, .iinc 3 1, 3), (69, .goto (-65), 3)]),
  (100000, [(72, .iload_n 2, 1), (73, .ireturn, 1)])]
set_option maxRecDepth 100000 in
theorem xd_X14_isInstalled : xchk cX14_isInstalled xk_X14_isInstalled = true := xchk_of (by decide +kernel)
set_option maxRecDepth 100000 in
def xk_X14_isKept : XT (Instr × Nat) := [(5, [(0, .iload_n 1, 1), (1, .iconst 0, 1), (2, .aload_n 0, 1), (3, .bipush 47, 2)]),
  (14, [(5, .invokevirtual 312, 3), (8, .bipush 20, 2), (10, .isub, 1), (11, .invokestatic 536, 3)]),
  (21, [(14, .aload_n 0, 1), (15, .bipush 47, 2), (17, .invokevirtual 312, 3), (20, .iconst 1, 1)]),
  (100000, [(21, .isub, 1), (22, .invokestatic 158, 3), (25, .ireturn, 1)])]
set_option maxRecDepth 100000 in
theorem xd_X14_isKept : xchk cX14_isKept xk_X14_isKept = true := xchk_of (by decide +kernel)
set_option maxRecDepth 100000 in
def xk_X14_isLike : XT (Instr × Nat) := [(5, [(0, .iload_n 0, 1), (1, .bipush 100, 2), (3, .idiv, 1), (4, .iload_n 1, 1)]),
  (12, [(5, .bipush 100, 2), (7, .idiv, 1), (8, .if_icmp .ne 7, 3), (11, .iconst 1, 1)]),
  (100000, [(12, .goto 4, 3), (15, .iconst 0, 1), (16, .ireturn, 1)])]
set_option maxRecDepth 100000 in
theorem xd_X14_isLike : xchk cX14_isLike xk_X14_isLike = true := xchk_of (by decide +kernel)
set_option maxRecDepth 100000 in
def xk_X14_isLock : XT (Instr × Nat) := [(6, [(0, .iload_n 0, 1), (1, .iconst 0, 1), (2, .iconst 2, 1), (3, .invokestatic 158, 3)]),
  (100000, [(6, .ireturn, 1)])]
set_option maxRecDepth 100000 in
theorem xd_X14_isLock : xchk cX14_isLock xk_X14_isLock = true := xchk_of (by decide +kernel)
set_option maxRecDepth 100000 in
def xk_X14_isMet : XT (Instr × Nat) := [(9, [(0, .iconst 0, 1), (1, .istore_n 3, 1), (2, .iconst 0, 1), (3, .istore 4, 2), (5, .iload 4, 2), (7, .bipush 12, 2)]),
  (20, [(9, .if_icmp .ge 58, 3), (12, .iload_n 3, 1), (13, .ifCond .ne 54, 3), (16, .aload_n 2, 1), (17, .iload 4, 2), (19, .iaload, 1)]),
  (32, [(20, .iconst (-1), 1), (21, .if_icmp .eq 38, 3), (24, .aload_n 1, 1), (25, .getfield 283, 3), (28, .ifCond .eq 12, 3), (31, .aload_n 2, 1)]),
  (43, [(32, .iload 4, 2), (34, .invokestatic 293, 3), (37, .ifCond .eq 22, 3), (40, .aload_n 0, 1), (41, .aload_n 1, 1), (42, .aload_n 0, 1)]),
  (56, [(43, .aload_n 2, 1), (44, .iload 4, 2), (46, .invokevirtual 297, 3), (49, .invokevirtual 301, 3), (52, .ifCond .eq 7, 3), (55, .iconst 1, 1)]),
  (68, [(56, .goto 4, 3), (59, .iconst 0, 1), (60, .istore_n 3, 1), (61, .iinc 4 1, 3), (64, .goto (-59), 3), (67, .iload_n 3, 1)]),
  (100000, [(68, .ireturn, 1)])]
set_option maxRecDepth 100000 in
theorem xd_X14_isMet : xchk cX14_isMet xk_X14_isMet = true := xchk_of (by decide +kernel)
set_option maxRecDepth 100000 in
def xk_X14_isMirror : XT (Instr × Nat) := [(6, [(0, .iload_n 1, 1), (1, .iconst 0, 1), (2, .aload_n 0, 1), (3, .getfield 9, 3)]),
  (10, [(6, .iconst 3, 1), (7, .iaload, 1), (8, .iconst 1, 1), (9, .isub, 1)]),
  (100000, [(10, .invokestatic 158, 3), (13, .ireturn, 1)])]
set_option maxRecDepth 100000 in
theorem xd_X14_isMirror : xchk cX14_isMirror xk_X14_isMirror = true := xchk_of (by decide +kernel)
set_option maxRecDepth 100000 in
def xk_X14_isOn : XT (Instr × Nat) := [(6, [(0, .aload_n 0, 1), (1, .iconst 0, 1), (2, .putfield 134, 3), (5, .aload_n 0, 1)]),
  (12, [(6, .aload_n 0, 1), (7, .iload_n 1, 1), (8, .invokevirtual 200, 3), (11, .iconst 1, 1)]),
  (22, [(12, .invokevirtual 180, 3), (15, .ifCond .ne 18, 3), (18, .aload_n 0, 1), (19, .invokevirtual 523, 3)]),
  (30, [(22, .iload_n 1, 1), (23, .invokestatic 293, 3), (26, .ifCond .eq 7, 3), (29, .iconst 1, 1)]),
  (100000, [(30, .goto 4, 3), (33, .iconst 0, 1), (34, .ireturn, 1)])]
set_option maxRecDepth 100000 in
theorem xd_X14_isOn : xchk cX14_isOn xk_X14_isOn = true := xchk_of (by decide +kernel)
set_option maxRecDepth 100000 in
def xk_X14_isOnIn : XT (Instr × Nat) := [(6, [(0, .aload_n 0, 1), (1, .iload_n 1, 1), (2, .iaload, 1), (3, .ldc_w 289, 3)]),
  (14, [(6, .if_icmp .lt 7, 3), (9, .iconst 1, 1), (10, .goto 4, 3), (13, .iconst 0, 1)]),
  (100000, [(14, .ireturn, 1)])]
set_option maxRecDepth 100000 in
theorem xd_X14_isOnIn : xchk cX14_isOnIn xk_X14_isOnIn = true := xchk_of (by decide +kernel)
set_option maxRecDepth 100000 in
def xk_X14_isPack : XT (Instr × Nat) := [(6, [(0, .iload_n 1, 1), (1, .iconst 0, 1), (2, .aload_n 0, 1), (3, .getfield 9, 3)]),
  (10, [(6, .iconst 0, 1), (7, .iaload, 1), (8, .iconst 1, 1), (9, .isub, 1)]),
  (100000, [(10, .invokestatic 158, 3), (13, .ireturn, 1)])]
set_option maxRecDepth 100000 in
theorem xd_X14_isPack : xchk cX14_isPack xk_X14_isPack = true := xchk_of (by decide +kernel)
set_option maxRecDepth 100000 in
def xk_X14_isSign : XT (Instr × Nat) := [(8, [(0, .aload_n 0, 1), (1, .getfield 190, 3), (4, .iconst 2, 1), (5, .if_icmp .ne 15, 3)]),
  (16, [(8, .aload_n 0, 1), (9, .getfield 197, 3), (12, .iload_n 1, 1), (13, .if_icmp .ne 7, 3)]),
  (100000, [(16, .iconst 1, 1), (17, .goto 4, 3), (20, .iconst 0, 1), (21, .ireturn, 1)])]
set_option maxRecDepth 100000 in
theorem xd_X14_isSign : xchk cX14_isSign xk_X14_isSign = true := xchk_of (by decide +kernel)
set_option maxRecDepth 100000 in
def xk_X14_isSound : XT (Instr × Nat) := [(7, [(0, .aload_n 0, 1), (1, .iconst 0, 1), (2, .putfield 134, 3), (5, .iconst 1, 1), (6, .istore_n 1, 1)]),
  (14, [(7, .iconst 0, 1), (8, .istore_n 2, 1), (9, .iload_n 2, 1), (10, .iconst 3, 1), (11, .if_icmp .ge 42, 3)]),
  (23, [(14, .iload_n 1, 1), (15, .ifCond .eq 30, 3), (18, .aload_n 0, 1), (19, .aload_n 0, 1), (20, .sipush 805, 3)]),
  (31, [(23, .iload_n 2, 1), (24, .sipush 291, 3), (27, .imul, 1), (28, .iadd, 1), (29, .bipush 23, 2)]),
  (42, [(31, .iadd, 1), (32, .invokevirtual 286, 3), (35, .invokevirtual 326, 3), (38, .ifCond .eq 7, 3), (41, .iconst 1, 1)]),
  (53, [(42, .goto 4, 3), (45, .iconst 0, 1), (46, .istore_n 1, 1), (47, .iinc 2 1, 3), (50, .goto (-41), 3)]),
  (100000, [(53, .iload_n 1, 1), (54, .ireturn, 1)])]
set_option maxRecDepth 100000 in
theorem xd_X14_isSound : xchk cX14_isSound xk_X14_isSound = true := xchk_of (by decide +kernel)
set_option maxRecDepth 100000 in
def xk_X14_isSoundSet : XT (Instr × Nat) := [(11, [(0, .iconst 0, 1), (1, .istore_n 2, 1), (2, .iload_n 2, 1), (3, .bipush 12, 2), (5, .if_icmp .ge 137, 3), (8, .aload_n 1, 1), (9, .iload_n 2, 1), (10, .iaload, 1)]),
  (25, [(11, .iconst (-1), 1), (12, .if_icmp .ne 6, 3), (15, .goto 121, 3), (18, .aload_n 0, 1), (19, .aload_n 1, 1), (20, .iload_n 2, 1), (21, .invokevirtual 297, 3), (24, .istore_n 3, 1)]),
  (39, [(25, .aload_n 0, 1), (26, .aload_n 1, 1), (27, .iload_n 2, 1), (28, .invokevirtual 309, 3), (31, .ifCond .eq 21, 3), (34, .aload_n 1, 1), (35, .iload_n 2, 1), (36, .invokestatic 293, 3)]),
  (54, [(39, .ifCond .eq 15, 3), (42, .aload_n 0, 1), (43, .iload_n 3, 1), (44, .bipush 6, 2), (46, .invokevirtual 163, 3), (49, .ifCond .ne 5, 3), (52, .iconst 0, 1), (53, .ireturn, 1)]),
  (69, [(54, .iconst 0, 1), (55, .istore 4, 2), (57, .iload 4, 2), (59, .aload_n 0, 1), (60, .iload_n 3, 1), (61, .bipush 12, 2), (63, .invokevirtual 163, 3), (66, .if_icmp .ge 70, 3)]),
  (85, [(69, .iconst 0, 1), (70, .istore 5, 2), (72, .iload 5, 2), (74, .bipush 12, 2), (76, .if_icmp .ge 54, 3), (79, .iload 5, 2), (81, .iload_n 2, 1), (82, .if_icmp .eq 42, 3)]),
  (98, [(85, .aload_n 1, 1), (86, .iload 5, 2), (88, .iaload, 1), (89, .iconst (-1), 1), (90, .if_icmp .eq 34, 3), (93, .aload_n 0, 1), (94, .aload_n 0, 1), (95, .getfield 18, 3)]),
  (110, [(98, .aload_n 0, 1), (99, .iload_n 3, 1), (100, .bipush 13, 2), (102, .iload 4, 2), (104, .iadd, 1), (105, .invokevirtual 163, 3), (108, .aaload, 1), (109, .aload_n 0, 1)]),
  (127, [(110, .aload_n 1, 1), (111, .iload 5, 2), (113, .invokevirtual 297, 3), (116, .invokevirtual 301, 3), (119, .ifCond .eq 5, 3), (122, .iconst 0, 1), (123, .ireturn, 1), (124, .iinc 5 1, 3)]),
  (100000, [(127, .goto (-55), 3), (130, .iinc 4 1, 3), (133, .goto (-76), 3), (136, .iinc 2 1, 3), (139, .goto (-137), 3), (142, .iconst 1, 1), (143, .ireturn, 1)])]
set_option maxRecDepth 100000 in
theorem xd_X14_isSoundSet : xchk cX14_isSoundSet xk_X14_isSoundSet = true := xchk_of (by decide +kernel)
set_option maxRecDepth 100000 in
def xk_X14_isSpanHere : XT (Instr × Nat) := [(9, [(0, .aload_n 0, 1), (1, .getfield 190, 3), (4, .iconst 1, 1), (5, .if_icmp .eq 57, 3), (8, .aload_n 0, 1)]),
  (20, [(9, .bipush 42, 2), (11, .invokevirtual 213, 3), (14, .ifCond .ne 48, 3), (17, .aload_n 0, 1), (18, .bipush 61, 2)]),
  (32, [(20, .invokevirtual 213, 3), (23, .ifCond .ne 39, 3), (26, .aload_n 0, 1), (27, .bipush 62, 2), (29, .invokevirtual 213, 3)]),
  (44, [(32, .ifCond .ne 30, 3), (35, .aload_n 0, 1), (36, .bipush 60, 2), (38, .invokevirtual 213, 3), (41, .ifCond .ne 21, 3)]),
  (54, [(44, .aload_n 0, 1), (45, .bipush 94, 2), (47, .invokevirtual 213, 3), (50, .ifCond .ne 12, 3), (53, .aload_n 0, 1)]),
  (66, [(54, .bipush 126, 2), (56, .invokevirtual 213, 3), (59, .ifCond .eq 7, 3), (62, .iconst 1, 1), (63, .goto 4, 3)]),
  (100000, [(66, .iconst 0, 1), (67, .ireturn, 1)])]
set_option maxRecDepth 100000 in
theorem xd_X14_isSpanHere : xchk cX14_isSpanHere xk_X14_isSpanHere = true := xchk_of (by decide +kernel)
set_option maxRecDepth 100000 in
def xk_X14_isTrial : XT (Instr × Nat) := [(6, [(0, .iload_n 0, 1), (1, .bipush 100, 2), (3, .irem, 1), (4, .bipush 99, 2)]),
  (14, [(6, .if_icmp .eq 7, 3), (9, .iconst 1, 1), (10, .goto 4, 3), (13, .iconst 0, 1)]),
  (100000, [(14, .ireturn, 1)])]
set_option maxRecDepth 100000 in
theorem xd_X14_isTrial : xchk cX14_isTrial xk_X14_isTrial = true := xchk_of (by decide +kernel)
set_option maxRecDepth 100000 in
def xk_X14_isVersion : XT (Instr × Nat) := [(8, [(0, .aload_n 0, 1), (1, .iload_n 1, 1), (2, .invokevirtual 200, 3), (5, .ifCond .eq 17, 3)]),
  (14, [(8, .aload_n 0, 1), (9, .iload_n 1, 1), (10, .iload_n 2, 1), (11, .invokevirtual 290, 3)]),
  (22, [(14, .iconst (-1), 1), (15, .if_icmp .eq 7, 3), (18, .iconst 1, 1), (19, .goto 4, 3)]),
  (100000, [(22, .iconst 0, 1), (23, .ireturn, 1)])]
set_option maxRecDepth 100000 in
theorem xd_X14_isVersion : xchk cX14_isVersion xk_X14_isVersion = true := xchk_of (by decide +kernel)
set_option maxRecDepth 100000 in
def xk_X14_isWanted : XT (Instr × Nat) := [(10, [(0, .aload_n 0, 1), (1, .aload_n 1, 1), (2, .iload_n 2, 1), (3, .invokevirtual 297, 3), (6, .istore 4, 2), (8, .aload_n 1, 1), (9, .iload_n 2, 1)]),
  (27, [(10, .invokestatic 293, 3), (13, .ifCond .eq 41, 3), (16, .aload_n 0, 1), (17, .iload 4, 2), (19, .bipush 6, 2), (21, .invokevirtual 163, 3), (24, .ifCond .le 30, 3)]),
  (40, [(27, .aload_n 0, 1), (28, .aload_n 0, 1), (29, .getfield 18, 3), (32, .aload_n 0, 1), (33, .iload 4, 2), (35, .bipush 6, 2), (37, .invokevirtual 163, 3)]),
  (51, [(40, .iconst 1, 1), (41, .isub, 1), (42, .aaload, 1), (43, .iload_n 3, 1), (44, .invokevirtual 301, 3), (47, .ifCond .eq 7, 3), (50, .iconst 1, 1)]),
  (63, [(51, .goto 4, 3), (54, .iconst 0, 1), (55, .istore 5, 2), (57, .iconst 0, 1), (58, .istore 6, 2), (60, .iload 6, 2), (62, .aload_n 0, 1)]),
  (79, [(63, .iload 4, 2), (65, .bipush 7, 2), (67, .invokevirtual 163, 3), (70, .if_icmp .ge 45, 3), (73, .iload 5, 2), (75, .ifCond .ne 27, 3), (78, .aload_n 0, 1)]),
  (91, [(79, .aload_n 0, 1), (80, .getfield 18, 3), (83, .aload_n 0, 1), (84, .iload 4, 2), (86, .bipush 8, 2), (88, .iload 6, 2), (90, .iadd, 1)]),
  (106, [(91, .invokevirtual 163, 3), (94, .aaload, 1), (95, .iload_n 3, 1), (96, .invokevirtual 301, 3), (99, .ifCond .eq 7, 3), (102, .iconst 1, 1), (103, .goto 4, 3)]),
  (100000, [(106, .iconst 0, 1), (107, .istore 5, 2), (109, .iinc 6 1, 3), (112, .goto (-52), 3), (115, .iload 5, 2), (117, .ireturn, 1)])]
set_option maxRecDepth 100000 in
theorem xd_X14_isWanted : xchk cX14_isWanted xk_X14_isWanted = true := xchk_of (by decide +kernel)
set_option maxRecDepth 100000 in
def xk_X14_keep : XT (Instr × Nat) := [(12, [(0, .aload_n 0, 1), (1, .getfield 170, 3), (4, .aload_n 0, 1), (5, .getfield 18, 3), (8, .arraylength, 1), (9, .if_icmp .ne 32, 3)]),
  (22, [(12, .iconst 2, 1), (13, .aload_n 0, 1), (14, .getfield 170, 3), (17, .imul, 1), (18, .anewarray 16, 3), (21, .astore_n 2, 1)]),
  (30, [(22, .aload_n 0, 1), (23, .getfield 18, 3), (26, .iconst 0, 1), (27, .aload_n 2, 1), (28, .iconst 0, 1), (29, .aload_n 0, 1)]),
  (42, [(30, .getfield 170, 3), (33, .invokestatic 140, 3), (36, .aload_n 0, 1), (37, .aload_n 2, 1), (38, .putfield 18, 3), (41, .aload_n 0, 1)]),
  (52, [(42, .getfield 18, 3), (45, .aload_n 0, 1), (46, .getfield 170, 3), (49, .aload_n 1, 1), (50, .aastore, 1), (51, .aload_n 0, 1)]),
  (62, [(52, .dup, 1), (53, .getfield 170, 3), (56, .iconst 1, 1), (57, .iadd, 1), (58, .putfield 170, 3), (61, .aload_n 0, 1)]),
  (100000, [(62, .getfield 170, 3), (65, .iconst 1, 1), (66, .isub, 1), (67, .ireturn, 1)])]
set_option maxRecDepth 100000 in
theorem xd_X14_keep : xchk cX14_keep xk_X14_keep = true := xchk_of (by decide +kernel)
set_option maxRecDepth 100000 in
def xk_X14_laySet_0 : List (Nat × Instr × Nat) := [(0, .iload_n 1, 1), (1, .istore_n 3, 1), (2, .iconst 1, 1), (3, .istore 4, 2), (5, .iconst 0, 1), (6, .istore 5, 2), (8, .iload 5, 2), (10, .bipush 12, 2), (12, .if_icmp .ge 153, 3)]
set_option maxRecDepth 100000 in
theorem xd_X14_laySet_0 : xchk1 cX14_laySet xk_X14_laySet_0 = true := xwalk_of 0 (by decide +kernel)
set_option maxRecDepth 100000 in
def xk_X14_laySet_1 : List (Nat × Instr × Nat) := [(15, .aload_n 2, 1), (16, .iload 5, 2), (18, .iconst (-1), 1), (19, .iastore, 1), (20, .iload 5, 2), (22, .aload_n 0, 1), (23, .getfield 9, 3), (26, .iconst 0, 1), (27, .iaload, 1)]
set_option maxRecDepth 100000 in
theorem xd_X14_laySet_1 : xchk1 cX14_laySet xk_X14_laySet_1 = true := xwalk_of 15 (by decide +kernel)
set_option maxRecDepth 100000 in
def xk_X14_laySet_2 : List (Nat × Instr × Nat) := [(28, .if_icmp .lt 6, 3), (31, .goto 128, 3), (34, .aload_n 0, 1), (35, .iload 5, 2), (37, .invokevirtual 352, 3), (40, .astore 6, 2), (42, .iload_n 3, 1), (43, .aload 6, 2), (45, .arraylength, 1)]
set_option maxRecDepth 100000 in
theorem xd_X14_laySet_2 : xchk1 cX14_laySet xk_X14_laySet_2 = true := xwalk_of 28 (by decide +kernel)
set_option maxRecDepth 100000 in
def xk_X14_laySet_3 : List (Nat × Instr × Nat) := [(46, .iconst 1, 1), (47, .iadd, 1), (48, .irem, 1), (49, .istore 7, 2), (51, .iload_n 3, 1), (52, .aload 6, 2), (54, .arraylength, 1), (55, .iconst 1, 1), (56, .iadd, 1)]
set_option maxRecDepth 100000 in
theorem xd_X14_laySet_3 : xchk1 cX14_laySet xk_X14_laySet_3 = true := xwalk_of 46 (by decide +kernel)
set_option maxRecDepth 100000 in
def xk_X14_laySet_4 : List (Nat × Instr × Nat) := [(57, .idiv, 1), (58, .istore_n 3, 1), (59, .aload_n 0, 1), (60, .iload 5, 2), (62, .invokevirtual 422, 3), (65, .ifCond .eq 14, 3), (68, .iload_n 3, 1), (69, .iconst 2, 1), (70, .irem, 1)]
set_option maxRecDepth 100000 in
theorem xd_X14_laySet_4 : xchk1 cX14_laySet xk_X14_laySet_4 = true := xwalk_of 57 (by decide +kernel)
set_option maxRecDepth 100000 in
def xk_X14_laySet_5 : List (Nat × Instr × Nat) := [(71, .iconst 1, 1), (72, .if_icmp .ne 7, 3), (75, .iconst 1, 1), (76, .goto 4, 3), (79, .iconst 0, 1), (80, .istore 8, 2), (82, .iload_n 3, 1), (83, .aload_n 0, 1), (84, .iload 5, 2)]
set_option maxRecDepth 100000 in
theorem xd_X14_laySet_5 : xchk1 cX14_laySet xk_X14_laySet_5 = true := xwalk_of 71 (by decide +kernel)
set_option maxRecDepth 100000 in
def xk_X14_laySet_6 : List (Nat × Instr × Nat) := [(86, .invokevirtual 422, 3), (89, .ifCond .eq 7, 3), (92, .iconst 2, 1), (93, .goto 4, 3), (96, .iconst 1, 1), (97, .idiv, 1), (98, .istore_n 3, 1), (99, .aload_n 2, 1), (100, .iload 5, 2)]
set_option maxRecDepth 100000 in
theorem xd_X14_laySet_6 : xchk1 cX14_laySet xk_X14_laySet_6 = true := xwalk_of 86 (by decide +kernel)
set_option maxRecDepth 100000 in
def xk_X14_laySet_7 : List (Nat × Instr × Nat) := [(102, .iload 7, 2), (104, .ifCond .ne 7, 3), (107, .iconst (-1), 1), (108, .goto 28, 3), (111, .aload_n 0, 1), (112, .aload 6, 2), (114, .iload 7, 2), (116, .iconst 1, 1), (117, .isub, 1)]
set_option maxRecDepth 100000 in
theorem xd_X14_laySet_7 : xchk1 cX14_laySet xk_X14_laySet_7 = true := xwalk_of 102 (by decide +kernel)
set_option maxRecDepth 100000 in
def xk_X14_laySet_8 : List (Nat × Instr × Nat) := [(118, .iaload, 1), (119, .iconst 1, 1), (120, .invokevirtual 163, 3), (123, .iload 8, 2), (125, .ifCond .eq 9, 3), (128, .ldc_w 289, 3), (131, .goto 4, 3), (134, .iconst 0, 1), (135, .iadd, 1)]
set_option maxRecDepth 100000 in
theorem xd_X14_laySet_8 : xchk1 cX14_laySet xk_X14_laySet_8 = true := xwalk_of 118 (by decide +kernel)
set_option maxRecDepth 100000 in
def xk_X14_laySet_9 : List (Nat × Instr × Nat) := [(136, .iastore, 1), (137, .iload 4, 2), (139, .ifCond .eq 17, 3), (142, .iload 7, 2), (144, .ifCond .gt 8, 3), (147, .iload 8, 2), (149, .ifCond .ne 7, 3), (152, .iconst 1, 1), (153, .goto 4, 3)]
set_option maxRecDepth 100000 in
theorem xd_X14_laySet_9 : xchk1 cX14_laySet xk_X14_laySet_9 = true := xwalk_of 136 (by decide +kernel)
set_option maxRecDepth 100000 in
def xk_X14_laySet_10 : List (Nat × Instr × Nat) := [(156, .iconst 0, 1), (157, .istore 4, 2), (159, .iinc 5 1, 3), (162, .goto (-154), 3), (165, .iload 4, 2), (167, .ireturn, 1)]
set_option maxRecDepth 100000 in
theorem xd_X14_laySet_10 : xchk1 cX14_laySet xk_X14_laySet_10 = true := xwalk_of 156 (by decide +kernel)
set_option maxRecDepth 100000 in
def xk_X14_laySet : XT (Instr × Nat) := [(15, xk_X14_laySet_0),
  (28, xk_X14_laySet_1),
  (46, xk_X14_laySet_2),
  (57, xk_X14_laySet_3),
  (71, xk_X14_laySet_4),
  (86, xk_X14_laySet_5),
  (102, xk_X14_laySet_6),
  (118, xk_X14_laySet_7),
  (136, xk_X14_laySet_8),
  (156, xk_X14_laySet_9),
  (100000, xk_X14_laySet_10)]
set_option maxRecDepth 100000 in
theorem xd_X14_laySet : xchk cX14_laySet xk_X14_laySet = true := (xchk_cons xd_X14_laySet_0 (xchk_cons xd_X14_laySet_1 (xchk_cons xd_X14_laySet_2 (xchk_cons xd_X14_laySet_3 (xchk_cons xd_X14_laySet_4 (xchk_cons xd_X14_laySet_5 (xchk_cons xd_X14_laySet_6 (xchk_cons xd_X14_laySet_7 (xchk_cons xd_X14_laySet_8 (xchk_cons xd_X14_laySet_9 (xchk_cons xd_X14_laySet_10 xchk_nil)))))))))))
set_option maxRecDepth 100000 in
def xk_X14_leaveOut_0 : List (Nat × Instr × Nat) := [(0, .aload_n 0, 1), (1, .getfield 459, 3), (4, .newarray .boolean, 2), (6, .astore_n 1, 1), (7, .aload_n 1, 1), (8, .aload_n 0, 1), (9, .getfield 459, 3), (12, .iconst 1, 1), (13, .isub, 1), (14, .iconst 1, 1), (15, .bastore, 1)]
set_option maxRecDepth 100000 in
theorem xd_X14_leaveOut_0 : xchk1 cX14_leaveOut xk_X14_leaveOut_0 = true := xwalk_of 0 (by decide +kernel)
set_option maxRecDepth 100000 in
def xk_X14_leaveOut_1 : List (Nat × Instr × Nat) := [(16, .aload_n 0, 1), (17, .getfield 459, 3), (20, .iconst 1, 1), (21, .isub, 1), (22, .istore_n 2, 1), (23, .iload_n 2, 1), (24, .ifCond .lt 43, 3), (27, .aload_n 1, 1), (28, .iload_n 2, 1), (29, .baload, 1), (30, .ifCond .eq 31, 3)]
set_option maxRecDepth 100000 in
theorem xd_X14_leaveOut_1 : xchk1 cX14_leaveOut xk_X14_leaveOut_1 = true := xwalk_of 16 (by decide +kernel)
set_option maxRecDepth 100000 in
def xk_X14_leaveOut_2 : List (Nat × Instr × Nat) := [(33, .aload_n 0, 1), (34, .getfield 100, 3), (37, .iload_n 2, 1), (38, .iaload, 1), (39, .iconst (-1), 1), (40, .if_icmp .eq 21, 3), (43, .aload_n 1, 1), (44, .aload_n 0, 1), (45, .getfield 100, 3), (48, .iload_n 2, 1), (49, .iaload, 1)]
set_option maxRecDepth 100000 in
theorem xd_X14_leaveOut_2 : xchk1 cX14_leaveOut xk_X14_leaveOut_2 = true := xwalk_of 33 (by decide +kernel)
set_option maxRecDepth 100000 in
def xk_X14_leaveOut_3 : List (Nat × Instr × Nat) := [(50, .iconst 1, 1), (51, .bastore, 1), (52, .aload_n 1, 1), (53, .aload_n 0, 1), (54, .getfield 103, 3), (57, .iload_n 2, 1), (58, .iaload, 1), (59, .iconst 1, 1), (60, .bastore, 1), (61, .iinc 2 (-1), 3), (64, .goto (-41), 3)]
set_option maxRecDepth 100000 in
theorem xd_X14_leaveOut_3 : xchk1 cX14_leaveOut xk_X14_leaveOut_3 = true := xwalk_of 50 (by decide +kernel)
set_option maxRecDepth 100000 in
def xk_X14_leaveOut_4 : List (Nat × Instr × Nat) := [(67, .aload_n 0, 1), (68, .getfield 459, 3), (71, .newarray .int, 2), (73, .astore_n 2, 1), (74, .iconst 0, 1), (75, .istore_n 3, 1), (76, .iconst 0, 1), (77, .istore 4, 2), (79, .iload 4, 2), (81, .aload_n 0, 1), (82, .getfield 459, 3)]
set_option maxRecDepth 100000 in
theorem xd_X14_leaveOut_4 : xchk1 cX14_leaveOut xk_X14_leaveOut_4 = true := xwalk_of 67 (by decide +kernel)
set_option maxRecDepth 100000 in
def xk_X14_leaveOut_5 : List (Nat × Instr × Nat) := [(85, .if_icmp .ge 110, 3), (88, .aload_n 2, 1), (89, .iload 4, 2), (91, .iload_n 3, 1), (92, .iastore, 1), (93, .aload_n 1, 1), (94, .iload 4, 2), (96, .baload, 1), (97, .ifCond .eq 92, 3), (100, .aload_n 0, 1), (101, .getfield 94, 3)]
set_option maxRecDepth 100000 in
theorem xd_X14_leaveOut_5 : xchk1 cX14_leaveOut xk_X14_leaveOut_5 = true := xwalk_of 85 (by decide +kernel)
set_option maxRecDepth 100000 in
def xk_X14_leaveOut_6 : List (Nat × Instr × Nat) := [(104, .iload_n 3, 1), (105, .aload_n 0, 1), (106, .getfield 94, 3), (109, .iload 4, 2), (111, .laload, 1), (112, .lastore, 1), (113, .aload_n 0, 1), (114, .getfield 97, 3), (117, .iload_n 3, 1), (118, .aload_n 0, 1), (119, .getfield 97, 3)]
set_option maxRecDepth 100000 in
theorem xd_X14_leaveOut_6 : xchk1 cX14_leaveOut xk_X14_leaveOut_6 = true := xwalk_of 104 (by decide +kernel)
set_option maxRecDepth 100000 in
def xk_X14_leaveOut_7 : List (Nat × Instr × Nat) := [(122, .iload 4, 2), (124, .laload, 1), (125, .lastore, 1), (126, .aload_n 0, 1), (127, .getfield 100, 3), (130, .iload_n 3, 1), (131, .aload_n 0, 1), (132, .getfield 100, 3), (135, .iload 4, 2), (137, .iaload, 1), (138, .iconst (-1), 1)]
set_option maxRecDepth 100000 in
theorem xd_X14_leaveOut_7 : xchk1 cX14_leaveOut xk_X14_leaveOut_7 = true := xwalk_of 122 (by decide +kernel)
set_option maxRecDepth 100000 in
def xk_X14_leaveOut_8 : List (Nat × Instr × Nat) := [(139, .if_icmp .ne 7, 3), (142, .iconst (-1), 1), (143, .goto 12, 3), (146, .aload_n 2, 1), (147, .aload_n 0, 1), (148, .getfield 100, 3), (151, .iload 4, 2), (153, .iaload, 1), (154, .iaload, 1), (155, .iastore, 1), (156, .aload_n 0, 1)]
set_option maxRecDepth 100000 in
theorem xd_X14_leaveOut_8 : xchk1 cX14_leaveOut xk_X14_leaveOut_8 = true := xwalk_of 139 (by decide +kernel)
set_option maxRecDepth 100000 in
def xk_X14_leaveOut_9 : List (Nat × Instr × Nat) := [(157, .getfield 103, 3), (160, .iload_n 3, 1), (161, .aload_n 0, 1), (162, .getfield 103, 3), (165, .iload 4, 2), (167, .iaload, 1), (168, .iconst (-1), 1), (169, .if_icmp .ne 7, 3), (172, .iconst (-1), 1), (173, .goto 12, 3), (176, .aload_n 2, 1)]
set_option maxRecDepth 100000 in
theorem xd_X14_leaveOut_9 : xchk1 cX14_leaveOut xk_X14_leaveOut_9 = true := xwalk_of 157 (by decide +kernel)
set_option maxRecDepth 100000 in
def xk_X14_leaveOut_10 : List (Nat × Instr × Nat) := [(177, .aload_n 0, 1), (178, .getfield 103, 3), (181, .iload 4, 2), (183, .iaload, 1), (184, .iaload, 1), (185, .iastore, 1), (186, .iinc 3 1, 3), (189, .iinc 4 1, 3), (192, .goto (-113), 3), (195, .aload_n 0, 1), (196, .iload_n 3, 1)]
set_option maxRecDepth 100000 in
theorem xd_X14_leaveOut_10 : xchk1 cX14_leaveOut xk_X14_leaveOut_10 = true := xwalk_of 177 (by decide +kernel)
set_option maxRecDepth 100000 in
def xk_X14_leaveOut_11 : List (Nat × Instr × Nat) := [(197, .putfield 459, 3), (200, .return_, 1)]
set_option maxRecDepth 100000 in
theorem xd_X14_leaveOut_11 : xchk1 cX14_leaveOut xk_X14_leaveOut_11 = true := xwalk_of 197 (by decide +kernel)
set_option maxRecDepth 100000 in
def xk_X14_leaveOut : XT (Instr × Nat) := [(16, xk_X14_leaveOut_0),
  (33, xk_X14_leaveOut_1),
  (50, xk_X14_leaveOut_2),
  (67, xk_X14_leaveOut_3),
  (85, xk_X14_leaveOut_4),
  (104, xk_X14_leaveOut_5),
  (122, xk_X14_leaveOut_6),
  (139, xk_X14_leaveOut_7),
  (157, xk_X14_leaveOut_8),
  (177, xk_X14_leaveOut_9),
  (197, xk_X14_leaveOut_10),
  (100000, xk_X14_leaveOut_11)]
set_option maxRecDepth 100000 in
theorem xd_X14_leaveOut : xchk cX14_leaveOut xk_X14_leaveOut = true := (xchk_cons xd_X14_leaveOut_0 (xchk_cons xd_X14_leaveOut_1 (xchk_cons xd_X14_leaveOut_2 (xchk_cons xd_X14_leaveOut_3 (xchk_cons xd_X14_leaveOut_4 (xchk_cons xd_X14_leaveOut_5 (xchk_cons xd_X14_leaveOut_6 (xchk_cons xd_X14_leaveOut_7 (xchk_cons xd_X14_leaveOut_8 (xchk_cons xd_X14_leaveOut_9 (xchk_cons xd_X14_leaveOut_10 (xchk_cons xd_X14_leaveOut_11 xchk_nil))))))))))))
set_option maxRecDepth 100000 in
def xk_X14_literalAt_0 : List (Nat × Instr × Nat) := [(0, .aload_n 0, 1), (1, .iconst 0, 1), (2, .putfield 134, 3), (5, .aload_n 0, 1), (6, .invokevirtual 483, 3), (9, .iload_n 1, 1), (10, .iconst 0, 1), (11, .aload_n 0, 1), (12, .getfield 459, 3), (15, .iconst 1, 1)]
set_option maxRecDepth 100000 in
theorem xd_X14_literalAt_0 : xchk1 cX14_literalAt xk_X14_literalAt_0 = true := xwalk_of 0 (by decide +kernel)
set_option maxRecDepth 100000 in
def xk_X14_literalAt_1 : List (Nat × Instr × Nat) := [(16, .isub, 1), (17, .invokestatic 158, 3), (20, .ifCond .eq 177, 3), (23, .iload_n 2, 1), (24, .istore_n 3, 1), (25, .iconst 0, 1), (26, .istore 4, 2), (28, .iload 4, 2), (30, .aload_n 0, 1), (31, .getfield 9, 3)]
set_option maxRecDepth 100000 in
theorem xd_X14_literalAt_1 : xchk1 cX14_literalAt xk_X14_literalAt_1 = true := xwalk_of 16 (by decide +kernel)
set_option maxRecDepth 100000 in
def xk_X14_literalAt_2 : List (Nat × Instr × Nat) := [(34, .iconst 0, 1), (35, .iaload, 1), (36, .if_icmp .ge 161, 3), (39, .iload_n 3, 1), (40, .ifCond .lt 157, 3), (43, .aload_n 0, 1), (44, .iload 4, 2), (46, .invokevirtual 352, 3), (49, .astore 5, 2), (51, .iconst 0, 1)]
set_option maxRecDepth 100000 in
theorem xd_X14_literalAt_2 : xchk1 cX14_literalAt xk_X14_literalAt_2 = true := xwalk_of 34 (by decide +kernel)
set_option maxRecDepth 100000 in
def xk_X14_literalAt_3 : List (Nat × Instr × Nat) := [(52, .istore 6, 2), (54, .iload 6, 2), (56, .aload 5, 2), (58, .arraylength, 1), (59, .if_icmp .gt 132, 3), (62, .iload 6, 2), (64, .aload 5, 2), (66, .arraylength, 1), (67, .if_icmp .ne 11, 3), (70, .iload 4, 2)]
set_option maxRecDepth 100000 in
theorem xd_X14_literalAt_3 : xchk1 cX14_literalAt xk_X14_literalAt_3 = true := xwalk_of 52 (by decide +kernel)
set_option maxRecDepth 100000 in
def xk_X14_literalAt_4 : List (Nat × Instr × Nat) := [(72, .invokestatic 341, 3), (75, .goto 11, 3), (78, .aload 5, 2), (80, .iload 6, 2), (82, .iaload, 1), (83, .invokestatic 333, 3), (86, .lstore 7, 2), (88, .ldc_w 289, 3), (91, .iload 4, 2), (93, .imul, 1)]
set_option maxRecDepth 100000 in
theorem xd_X14_literalAt_4 : xchk1 cX14_literalAt xk_X14_literalAt_4 = true := xwalk_of 72 (by decide +kernel)
set_option maxRecDepth 100000 in
def xk_X14_literalAt_5 : List (Nat × Instr × Nat) := [(94, .iload 6, 2), (96, .aload 5, 2), (98, .arraylength, 1), (99, .if_icmp .ne 7, 3), (102, .iconst 0, 1), (103, .goto 13, 3), (106, .aload_n 0, 1), (107, .aload 5, 2), (109, .iload 6, 2), (111, .iaload, 1)]
set_option maxRecDepth 100000 in
theorem xd_X14_literalAt_5 : xchk1 cX14_literalAt xk_X14_literalAt_5 = true := xwalk_of 94 (by decide +kernel)
set_option maxRecDepth 100000 in
def xk_X14_literalAt_6 : List (Nat × Instr × Nat) := [(112, .iconst 1, 1), (113, .invokevirtual 163, 3), (116, .iadd, 1), (117, .istore 9, 2), (119, .aload_n 0, 1), (120, .getfield 94, 3), (123, .iload_n 1, 1), (124, .laload, 1), (125, .lload 7, 2), (127, .land, 1)]
set_option maxRecDepth 100000 in
theorem xd_X14_literalAt_6 : xchk1 cX14_literalAt xk_X14_literalAt_6 = true := xwalk_of 112 (by decide +kernel)
set_option maxRecDepth 100000 in
def xk_X14_literalAt_7 : List (Nat × Instr × Nat) := [(128, .lconst 0, 1), (129, .lcmp, 1), (130, .ifCond .eq 7, 3), (133, .iconst 1, 1), (134, .goto 4, 3), (137, .iconst 0, 1), (138, .istore 10, 2), (140, .iload 10, 2), (142, .ifCond .ne 20, 3), (145, .aload_n 0, 1)]
set_option maxRecDepth 100000 in
theorem xd_X14_literalAt_7 : xchk1 cX14_literalAt xk_X14_literalAt_7 = true := xwalk_of 128 (by decide +kernel)
set_option maxRecDepth 100000 in
def xk_X14_literalAt_8 : List (Nat × Instr × Nat) := [(146, .getfield 97, 3), (149, .iload_n 1, 1), (150, .laload, 1), (151, .lload 7, 2), (153, .land, 1), (154, .lconst 0, 1), (155, .lcmp, 1), (156, .ifCond .ne 6, 3), (159, .goto 26, 3), (162, .iload_n 3, 1)]
set_option maxRecDepth 100000 in
theorem xd_X14_literalAt_8 : xchk1 cX14_literalAt xk_X14_literalAt_8 = true := xwalk_of 146 (by decide +kernel)
set_option maxRecDepth 100000 in
def xk_X14_literalAt_9 : List (Nat × Instr × Nat) := [(163, .ifCond .ne 19, 3), (166, .iload 10, 2), (168, .ifCond .eq 8, 3), (171, .iload 9, 2), (173, .goto 8, 3), (176, .iload 9, 2), (178, .ineg, 1), (179, .iconst 1, 1), (180, .isub, 1), (181, .ireturn, 1)]
set_option maxRecDepth 100000 in
theorem xd_X14_literalAt_9 : xchk1 cX14_literalAt xk_X14_literalAt_9 = true := xwalk_of 163 (by decide +kernel)
set_option maxRecDepth 100000 in
def xk_X14_literalAt_10 : List (Nat × Instr × Nat) := [(182, .iinc 3 (-1), 3), (185, .iinc 6 1, 3), (188, .goto (-134), 3), (191, .iinc 4 1, 3), (194, .goto (-166), 3), (197, .aload_n 0, 1), (198, .iconst 1, 1), (199, .putfield 134, 3), (202, .iconst 0, 1), (203, .ireturn, 1)]
set_option maxRecDepth 100000 in
theorem xd_X14_literalAt_10 : xchk1 cX14_literalAt xk_X14_literalAt_10 = true := xwalk_of 182 (by decide +kernel)
set_option maxRecDepth 100000 in
def xk_X14_literalAt : XT (Instr × Nat) := [(16, xk_X14_literalAt_0),
  (34, xk_X14_literalAt_1),
  (52, xk_X14_literalAt_2),
  (72, xk_X14_literalAt_3),
  (94, xk_X14_literalAt_4),
  (112, xk_X14_literalAt_5),
  (128, xk_X14_literalAt_6),
  (146, xk_X14_literalAt_7),
  (163, xk_X14_literalAt_8),
  (182, xk_X14_literalAt_9),
  (100000, xk_X14_literalAt_10)]
set_option maxRecDepth 100000 in
theorem xd_X14_literalAt : xchk cX14_literalAt xk_X14_literalAt = true := (xchk_cons xd_X14_literalAt_0 (xchk_cons xd_X14_literalAt_1 (xchk_cons xd_X14_literalAt_2 (xchk_cons xd_X14_literalAt_3 (xchk_cons xd_X14_literalAt_4 (xchk_cons xd_X14_literalAt_5 (xchk_cons xd_X14_literalAt_6 (xchk_cons xd_X14_literalAt_7 (xchk_cons xd_X14_literalAt_8 (xchk_cons xd_X14_literalAt_9 (xchk_cons xd_X14_literalAt_10 xchk_nil)))))))))))
set_option maxRecDepth 100000 in
def xk_X14_lock : XT (Instr × Nat) := [(7, [(0, .aload_n 0, 1), (1, .iconst 0, 1), (2, .putfield 134, 3), (5, .aload_n 0, 1), (6, .iload_n 1, 1)]),
  (18, [(7, .invokestatic 533, 3), (10, .iconst 1, 1), (11, .invokevirtual 180, 3), (14, .ifCond .eq 5, 3), (17, .iconst 0, 1)]),
  (27, [(18, .ireturn, 1), (19, .aload_n 0, 1), (20, .invokevirtual 411, 3), (23, .aload_n 0, 1), (24, .invokevirtual 523, 3)]),
  (34, [(27, .astore_n 2, 1), (28, .aload_n 2, 1), (29, .iconst 0, 1), (30, .aload_n 0, 1), (31, .getfield 9, 3)]),
  (42, [(34, .sipush 1678, 3), (37, .bipush 12, 2), (39, .iload_n 1, 1), (40, .imul, 1), (41, .iadd, 1)]),
  (100000, [(42, .bipush 12, 2), (44, .invokestatic 140, 3), (47, .aload_n 2, 1), (48, .invokestatic 418, 3), (51, .ireturn, 1)])]
set_option maxRecDepth 100000 in
theorem xd_X14_lock : xchk cX14_lock xk_X14_lock = true := xchk_of (by decide +kernel)
set_option maxRecDepth 100000 in
def xk_X14_lockDiffers : XT (Instr × Nat) := [(7, [(0, .aload_n 0, 1), (1, .iconst 0, 1), (2, .putfield 134, 3), (5, .aload_n 0, 1), (6, .iload_n 1, 1)]),
  (20, [(7, .invokestatic 533, 3), (10, .ifCond .eq 14, 3), (13, .iload_n 2, 1), (14, .invokestatic 533, 3), (17, .ifCond .eq 7, 3)]),
  (29, [(20, .iconst 1, 1), (21, .goto 4, 3), (24, .iconst 0, 1), (25, .iconst 1, 1), (26, .invokevirtual 180, 3)]),
  (40, [(29, .ifCond .eq 7, 3), (32, .iconst 0, 1), (33, .goto 30, 3), (36, .aload_n 0, 1), (37, .sipush 1678, 3)]),
  (48, [(40, .bipush 12, 2), (42, .iload_n 1, 1), (43, .imul, 1), (44, .iadd, 1), (45, .invokevirtual 286, 3)]),
  (56, [(48, .aload_n 0, 1), (49, .sipush 1678, 3), (52, .bipush 12, 2), (54, .iload_n 2, 1), (55, .imul, 1)]),
  (100000, [(56, .iadd, 1), (57, .invokevirtual 286, 3), (60, .invokestatic 446, 3), (63, .ireturn, 1)])]
set_option maxRecDepth 100000 in
theorem xd_X14_lockDiffers : xchk cX14_lockDiffers xk_X14_lockDiffers = true := xchk_of (by decide +kernel)
set_option maxRecDepth 100000 in
def xk_X14_manyIn : XT (Instr × Nat) := [(4, [(0, .iconst 0, 1), (1, .istore_n 1, 1), (2, .iconst 0, 1), (3, .istore_n 2, 1)]),
  (11, [(4, .iload_n 2, 1), (5, .bipush 12, 2), (7, .if_icmp .ge 24, 3), (10, .iload_n 1, 1)]),
  (15, [(11, .aload_n 0, 1), (12, .iload_n 2, 1), (13, .iaload, 1), (14, .iconst (-1), 1)]),
  (23, [(15, .if_icmp .ne 7, 3), (18, .iconst 0, 1), (19, .goto 4, 3), (22, .iconst 1, 1)]),
  (31, [(23, .iadd, 1), (24, .istore_n 1, 1), (25, .iinc 2 1, 3), (28, .goto (-24), 3)]),
  (100000, [(31, .iload_n 1, 1), (32, .ireturn, 1)])]
set_option maxRecDepth 100000 in
theorem xd_X14_manyIn : xchk cX14_manyIn xk_X14_manyIn = true := xchk_of (by decide +kernel)
set_option maxRecDepth 100000 in
def xk_X14_meanSize : XT (Instr × Nat) := [(6, [(0, .aload_n 0, 1), (1, .iconst 0, 1), (2, .putfield 134, 3), (5, .aload_n 0, 1)]),
  (14, [(6, .invokevirtual 344, 3), (9, .astore_n 1, 1), (10, .aload_n 1, 1), (11, .invokestatic 418, 3)]),
  (20, [(14, .istore_n 2, 1), (15, .iload_n 2, 1), (16, .ifCond .ne 7, 3), (19, .dconst 0, 1)]),
  (28, [(20, .goto 12, 3), (23, .aload_n 0, 1), (24, .aload_n 1, 1), (25, .invokevirtual 583, 3)]),
  (32, [(28, .i2d, 1), (29, .iload_n 2, 1), (30, .i2d, 1), (31, .ddiv, 1)]),
  (100000, [(32, .dreturn, 1)])]
set_option maxRecDepth 100000 in
theorem xd_X14_meanSize : xchk cX14_meanSize xk_X14_meanSize = true := xchk_of (by decide +kernel)
set_option maxRecDepth 100000 in
def xk_X14_meets_0 : List (Nat × Instr × Nat) := [(0, .iconst 0, 1), (1, .istore_n 3, 1), (2, .iconst 0, 1), (3, .istore 4, 2), (5, .iload 4, 2), (7, .aload_n 1, 1), (8, .getfield 276, 3), (11, .arraylength, 1), (12, .if_icmp .ge 133, 3)]
set_option maxRecDepth 100000 in
theorem xd_X14_meets_0 : xchk1 cX14_meets xk_X14_meets_0 = true := xwalk_of 0 (by decide +kernel)
set_option maxRecDepth 100000 in
def xk_X14_meets_1 : List (Nat × Instr × Nat) := [(15, .iload_n 3, 1), (16, .ifCond .ne 129, 3), (19, .aload_n 0, 1), (20, .iload_n 2, 1), (21, .iconst 0, 1), (22, .invokevirtual 163, 3), (25, .aload_n 1, 1), (26, .getfield 276, 3), (29, .iload 4, 2)]
set_option maxRecDepth 100000 in
theorem xd_X14_meets_1 : xchk1 cX14_meets xk_X14_meets_1 = true := xwalk_of 15 (by decide +kernel)
set_option maxRecDepth 100000 in
def xk_X14_meets_2 : List (Nat × Instr × Nat) := [(31, .iaload, 1), (32, .if_icmp .ne 22, 3), (35, .aload_n 1, 1), (36, .iload 4, 2), (38, .aload_n 0, 1), (39, .iload_n 2, 1), (40, .iconst 1, 1), (41, .invokevirtual 163, 3), (44, .invokestatic 279, 3)]
set_option maxRecDepth 100000 in
theorem xd_X14_meets_2 : xchk1 cX14_meets xk_X14_meets_2 = true := xwalk_of 31 (by decide +kernel)
set_option maxRecDepth 100000 in
def xk_X14_meets_3 : List (Nat × Instr × Nat) := [(47, .ifCond .eq 7, 3), (50, .iconst 1, 1), (51, .goto 4, 3), (54, .iconst 0, 1), (55, .istore_n 3, 1), (56, .iconst 0, 1), (57, .istore 5, 2), (59, .iload 5, 2), (61, .aload_n 0, 1)]
set_option maxRecDepth 100000 in
theorem xd_X14_meets_3 : xchk1 cX14_meets xk_X14_meets_3 = true := xwalk_of 47 (by decide +kernel)
set_option maxRecDepth 100000 in
def xk_X14_meets_4 : List (Nat × Instr × Nat) := [(62, .iload_n 2, 1), (63, .bipush 15, 2), (65, .invokevirtual 163, 3), (68, .if_icmp .ge 71, 3), (71, .aload_n 1, 1), (72, .getfield 283, 3), (75, .ifCond .ne 64, 3), (78, .iload_n 3, 1), (79, .ifCond .ne 60, 3)]
set_option maxRecDepth 100000 in
theorem xd_X14_meets_4 : xchk1 cX14_meets xk_X14_meets_4 = true := xwalk_of 62 (by decide +kernel)
set_option maxRecDepth 100000 in
def xk_X14_meets_5 : List (Nat × Instr × Nat) := [(82, .aload_n 0, 1), (83, .iload_n 2, 1), (84, .bipush 16, 2), (86, .iconst 2, 1), (87, .iload 5, 2), (89, .imul, 1), (90, .iadd, 1), (91, .invokevirtual 163, 3), (94, .aload_n 1, 1)]
set_option maxRecDepth 100000 in
theorem xd_X14_meets_5 : xchk1 cX14_meets xk_X14_meets_5 = true := xwalk_of 82 (by decide +kernel)
set_option maxRecDepth 100000 in
def xk_X14_meets_6 : List (Nat × Instr × Nat) := [(95, .getfield 276, 3), (98, .iload 4, 2), (100, .iaload, 1), (101, .if_icmp .ne 30, 3), (104, .aload_n 1, 1), (105, .iload 4, 2), (107, .aload_n 0, 1), (108, .iload_n 2, 1), (109, .bipush 16, 2)]
set_option maxRecDepth 100000 in
theorem xd_X14_meets_6 : xchk1 cX14_meets xk_X14_meets_6 = true := xwalk_of 95 (by decide +kernel)
set_option maxRecDepth 100000 in
def xk_X14_meets_7 : List (Nat × Instr × Nat) := [(111, .iconst 2, 1), (112, .iload 5, 2), (114, .imul, 1), (115, .iadd, 1), (116, .iconst 1, 1), (117, .iadd, 1), (118, .invokevirtual 163, 3), (121, .invokestatic 279, 3), (124, .ifCond .eq 7, 3)]
set_option maxRecDepth 100000 in
theorem xd_X14_meets_7 : xchk1 cX14_meets xk_X14_meets_7 = true := xwalk_of 111 (by decide +kernel)
set_option maxRecDepth 100000 in
def xk_X14_meets_8 : List (Nat × Instr × Nat) := [(127, .iconst 1, 1), (128, .goto 4, 3), (131, .iconst 0, 1), (132, .istore_n 3, 1), (133, .iinc 5 1, 3), (136, .goto (-77), 3), (139, .iinc 4 1, 3), (142, .goto (-137), 3), (145, .iload_n 3, 1)]
set_option maxRecDepth 100000 in
theorem xd_X14_meets_8 : xchk1 cX14_meets xk_X14_meets_8 = true := xwalk_of 127 (by decide +kernel)
set_option maxRecDepth 100000 in
def xk_X14_meets_9 : List (Nat × Instr × Nat) := [(146, .ireturn, 1)]
set_option maxRecDepth 100000 in
theorem xd_X14_meets_9 : xchk1 cX14_meets xk_X14_meets_9 = true := xwalk_of 146 (by decide +kernel)
set_option maxRecDepth 100000 in
def xk_X14_meets : XT (Instr × Nat) := [(15, xk_X14_meets_0),
  (31, xk_X14_meets_1),
  (47, xk_X14_meets_2),
  (62, xk_X14_meets_3),
  (82, xk_X14_meets_4),
  (95, xk_X14_meets_5),
  (111, xk_X14_meets_6),
  (127, xk_X14_meets_7),
  (146, xk_X14_meets_8),
  (100000, xk_X14_meets_9)]
set_option maxRecDepth 100000 in
theorem xd_X14_meets : xchk cX14_meets xk_X14_meets = true := (xchk_cons xd_X14_meets_0 (xchk_cons xd_X14_meets_1 (xchk_cons xd_X14_meets_2 (xchk_cons xd_X14_meets_3 (xchk_cons xd_X14_meets_4 (xchk_cons xd_X14_meets_5 (xchk_cons xd_X14_meets_6 (xchk_cons xd_X14_meets_7 (xchk_cons xd_X14_meets_8 (xchk_cons xd_X14_meets_9 xchk_nil))))))))))
set_option maxRecDepth 100000 in
def xk_X14_meetsRange : XT (Instr × Nat) := [(12, [(0, .aload_n 0, 1), (1, .getfield 266, 3), (4, .iload_n 1, 1), (5, .iaload, 1), (6, .aload_n 0, 1), (7, .getfield 266, 3), (10, .iload_n 1, 1), (11, .iconst 1, 1)]),
  (24, [(12, .iadd, 1), (13, .iaload, 1), (14, .if_icmp .ne 17, 3), (17, .iload_n 2, 1), (18, .iconst 0, 1), (19, .iconst 0, 1), (20, .iconst 0, 1), (21, .invokestatic 269, 3)]),
  (38, [(24, .ifCond .eq 7, 3), (27, .iconst 1, 1), (28, .goto 4, 3), (31, .iconst 0, 1), (32, .istore_n 3, 1), (33, .aload_n 0, 1), (34, .getfield 266, 3), (37, .iload_n 1, 1)]),
  (50, [(38, .iaload, 1), (39, .istore 4, 2), (41, .iload 4, 2), (43, .aload_n 0, 1), (44, .getfield 266, 3), (47, .iload_n 1, 1), (48, .iconst 1, 1), (49, .iadd, 1)]),
  (64, [(50, .iaload, 1), (51, .if_icmp .ge 57, 3), (54, .iload_n 3, 1), (55, .ifCond .ne 41, 3), (58, .iload_n 2, 1), (59, .aload_n 0, 1), (60, .getfield 273, 3), (63, .iconst 3, 1)]),
  (76, [(64, .iload 4, 2), (66, .imul, 1), (67, .iaload, 1), (68, .aload_n 0, 1), (69, .getfield 273, 3), (72, .iconst 3, 1), (73, .iload 4, 2), (75, .imul, 1)]),
  (87, [(76, .iconst 1, 1), (77, .iadd, 1), (78, .iaload, 1), (79, .aload_n 0, 1), (80, .getfield 273, 3), (83, .iconst 3, 1), (84, .iload 4, 2), (86, .imul, 1)]),
  (101, [(87, .iconst 2, 1), (88, .iadd, 1), (89, .iaload, 1), (90, .invokestatic 269, 3), (93, .ifCond .eq 7, 3), (96, .iconst 1, 1), (97, .goto 4, 3), (100, .iconst 0, 1)]),
  (100000, [(101, .istore_n 3, 1), (102, .iinc 4 1, 3), (105, .goto (-64), 3), (108, .iload_n 3, 1), (109, .ireturn, 1)])]
set_option maxRecDepth 100000 in
theorem xd_X14_meetsRange : xchk cX14_meetsRange xk_X14_meetsRange = true := xchk_of (by decide +kernel)
set_option maxRecDepth 100000 in
def xk_X14_meetsSpan_0 : List (Nat × Instr × Nat) := [(0, .iload_n 1, 1), (1, .tableswitch 141 0 5 #[39, 45, 60, 75, 90, 118], 39), (40, .iconst 1, 1), (41, .istore 4, 2), (43, .goto 116, 3), (46, .iload_n 0, 1), (47, .iload_n 2, 1), (48, .if_icmp .ne 7, 3), (51, .iconst 1, 1)]
set_option maxRecDepth 100000 in
theorem xd_X14_meetsSpan_0 : xchk1 cX14_meetsSpan xk_X14_meetsSpan_0 = true := xwalk_of 0 (by decide +kernel)
set_option maxRecDepth 100000 in
def xk_X14_meetsSpan_1 : List (Nat × Instr × Nat) := [(52, .goto 4, 3), (55, .iconst 0, 1), (56, .istore 4, 2), (58, .goto 101, 3), (61, .iload_n 0, 1), (62, .iload_n 2, 1), (63, .if_icmp .lt 7, 3), (66, .iconst 1, 1), (67, .goto 4, 3)]
set_option maxRecDepth 100000 in
theorem xd_X14_meetsSpan_1 : xchk1 cX14_meetsSpan xk_X14_meetsSpan_1 = true := xwalk_of 52 (by decide +kernel)
set_option maxRecDepth 100000 in
def xk_X14_meetsSpan_2 : List (Nat × Instr × Nat) := [(70, .iconst 0, 1), (71, .istore 4, 2), (73, .goto 86, 3), (76, .iload_n 0, 1), (77, .iload_n 2, 1), (78, .if_icmp .ge 7, 3), (81, .iconst 1, 1), (82, .goto 4, 3), (85, .iconst 0, 1)]
set_option maxRecDepth 100000 in
theorem xd_X14_meetsSpan_2 : xchk1 cX14_meetsSpan xk_X14_meetsSpan_2 = true := xwalk_of 70 (by decide +kernel)
set_option maxRecDepth 100000 in
def xk_X14_meetsSpan_3 : List (Nat × Instr × Nat) := [(86, .istore 4, 2), (88, .goto 71, 3), (91, .iload_n 0, 1), (92, .iload_n 2, 1), (93, .if_icmp .lt 20, 3), (96, .iload_n 0, 1), (97, .sipush 10000, 3), (100, .idiv, 1), (101, .iload_n 2, 1)]
set_option maxRecDepth 100000 in
theorem xd_X14_meetsSpan_3 : xchk1 cX14_meetsSpan xk_X14_meetsSpan_3 = true := xwalk_of 86 (by decide +kernel)
set_option maxRecDepth 100000 in
def xk_X14_meetsSpan_4 : List (Nat × Instr × Nat) := [(102, .sipush 10000, 3), (105, .idiv, 1), (106, .if_icmp .ne 7, 3), (109, .iconst 1, 1), (110, .goto 4, 3), (113, .iconst 0, 1), (114, .istore 4, 2), (116, .goto 43, 3), (119, .iload_n 0, 1)]
set_option maxRecDepth 100000 in
theorem xd_X14_meetsSpan_4 : xchk1 cX14_meetsSpan xk_X14_meetsSpan_4 = true := xwalk_of 102 (by decide +kernel)
set_option maxRecDepth 100000 in
def xk_X14_meetsSpan_5 : List (Nat × Instr × Nat) := [(120, .iload_n 2, 1), (121, .if_icmp .lt 15, 3), (124, .iload_n 0, 1), (125, .iload_n 2, 1), (126, .invokestatic 259, 3), (129, .ifCond .eq 7, 3), (132, .iconst 1, 1), (133, .goto 4, 3), (136, .iconst 0, 1)]
set_option maxRecDepth 100000 in
theorem xd_X14_meetsSpan_5 : xchk1 cX14_meetsSpan xk_X14_meetsSpan_5 = true := xwalk_of 120 (by decide +kernel)
set_option maxRecDepth 100000 in
def xk_X14_meetsSpan_6 : List (Nat × Instr × Nat) := [(137, .istore 4, 2), (139, .goto 20, 3), (142, .iload_n 0, 1), (143, .iload_n 2, 1), (144, .if_icmp .lt 12, 3), (147, .iload_n 0, 1), (148, .iload_n 3, 1), (149, .if_icmp .gt 7, 3), (152, .iconst 1, 1)]
set_option maxRecDepth 100000 in
theorem xd_X14_meetsSpan_6 : xchk1 cX14_meetsSpan xk_X14_meetsSpan_6 = true := xwalk_of 137 (by decide +kernel)
set_option maxRecDepth 100000 in
def xk_X14_meetsSpan_7 : List (Nat × Instr × Nat) := [(153, .goto 4, 3), (156, .iconst 0, 1), (157, .istore 4, 2), (159, .iload 4, 2), (161, .ifCond .eq 15, 3), (164, .iload_n 0, 1), (165, .invokestatic 263, 3), (168, .ifCond .eq 8, 3), (171, .iload_n 1, 1)]
set_option maxRecDepth 100000 in
theorem xd_X14_meetsSpan_7 : xchk1 cX14_meetsSpan xk_X14_meetsSpan_7 = true := xwalk_of 153 (by decide +kernel)
set_option maxRecDepth 100000 in
def xk_X14_meetsSpan_8 : List (Nat × Instr × Nat) := [(172, .iconst 1, 1), (173, .if_icmp .ne 6, 3), (176, .iload 4, 2), (178, .ireturn, 1), (179, .iload_n 1, 1), (180, .ifCond .eq 37, 3), (183, .iload_n 2, 1), (184, .invokestatic 263, 3), (187, .ifCond .eq 11, 3)]
set_option maxRecDepth 100000 in
theorem xd_X14_meetsSpan_8 : xchk1 cX14_meetsSpan xk_X14_meetsSpan_8 = true := xwalk_of 172 (by decide +kernel)
set_option maxRecDepth 100000 in
def xk_X14_meetsSpan_9 : List (Nat × Instr × Nat) := [(190, .iload_n 0, 1), (191, .iload_n 2, 1), (192, .invokestatic 259, 3), (195, .ifCond .ne 18, 3), (198, .iload_n 3, 1), (199, .invokestatic 263, 3), (202, .ifCond .eq 15, 3), (205, .iload_n 0, 1), (206, .iload_n 3, 1)]
set_option maxRecDepth 100000 in
theorem xd_X14_meetsSpan_9 : xchk1 cX14_meetsSpan xk_X14_meetsSpan_9 = true := xwalk_of 190 (by decide +kernel)
set_option maxRecDepth 100000 in
def xk_X14_meetsSpan_10 : List (Nat × Instr × Nat) := [(207, .invokestatic 259, 3), (210, .ifCond .eq 7, 3), (213, .iconst 1, 1), (214, .goto 4, 3), (217, .iconst 0, 1), (218, .ireturn, 1)]
set_option maxRecDepth 100000 in
theorem xd_X14_meetsSpan_10 : xchk1 cX14_meetsSpan xk_X14_meetsSpan_10 = true := xwalk_of 207 (by decide +kernel)
set_option maxRecDepth 100000 in
def xk_X14_meetsSpan : XT (Instr × Nat) := [(52, xk_X14_meetsSpan_0),
  (70, xk_X14_meetsSpan_1),
  (86, xk_X14_meetsSpan_2),
  (102, xk_X14_meetsSpan_3),
  (120, xk_X14_meetsSpan_4),
  (137, xk_X14_meetsSpan_5),
  (153, xk_X14_meetsSpan_6),
  (172, xk_X14_meetsSpan_7),
  (190, xk_X14_meetsSpan_8),
  (207, xk_X14_meetsSpan_9),
  (100000, xk_X14_meetsSpan_10)]
set_option maxRecDepth 100000 in
theorem xd_X14_meetsSpan : xchk cX14_meetsSpan xk_X14_meetsSpan = true := (xchk_cons xd_X14_meetsSpan_0 (xchk_cons xd_X14_meetsSpan_1 (xchk_cons xd_X14_meetsSpan_2 (xchk_cons xd_X14_meetsSpan_3 (xchk_cons xd_X14_meetsSpan_4 (xchk_cons xd_X14_meetsSpan_5 (xchk_cons xd_X14_meetsSpan_6 (xchk_cons xd_X14_meetsSpan_7 (xchk_cons xd_X14_meetsSpan_8 (xchk_cons xd_X14_meetsSpan_9 (xchk_cons xd_X14_meetsSpan_10 xchk_nil)))))))))))
