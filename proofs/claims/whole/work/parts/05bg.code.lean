/-! printed by gen_tab.py: code tables -/
set_option maxRecDepth 100000 in
def xk_X3_init : XT (Instr × Nat) := [(9, [(0, .aload_n 0, 1), (1, .invokespecial 3, 3), (4, .aload_n 0, 1), (5, .bipush 120, 2), (7, .newarray .long, 2)]),
  (20, [(9, .putfield 9, 3), (12, .aload_n 0, 1), (13, .bipush 80, 2), (15, .newarray .long, 2), (17, .putfield 15, 3)]),
  (29, [(20, .aload_n 0, 1), (21, .bipush 40, 2), (23, .newarray .long, 2), (25, .putfield 18, 3), (28, .aload_n 0, 1)]),
  (39, [(29, .bipush 12, 2), (31, .newarray .long, 2), (33, .putfield 21, 3), (36, .aload_n 0, 1), (37, .bipush 8, 2)]),
  (49, [(39, .newarray .long, 2), (41, .putfield 24, 3), (44, .aload_n 0, 1), (45, .bipush 12, 2), (47, .newarray .long, 2)]),
  (58, [(49, .putfield 27, 3), (52, .aload_n 0, 1), (53, .aload_n 1, 1), (54, .putfield 30, 3), (57, .aload_n 0, 1)]),
  (100000, [(58, .aload_n 1, 1), (59, .getfield 34, 3), (62, .putfield 40, 3), (65, .return_, 1)])]
set_option maxRecDepth 100000 in
theorem xd_X3_init : xchk cX3_init xk_X3_init = true := xchk_of (by decide +kernel)
set_option maxRecDepth 100000 in
def xk_X3_isBanMet : XT (Instr × Nat) := [(9, [(0, .iconst 0, 1), (1, .istore 4, 2), (3, .iload 4, 2), (5, .aload_n 0, 1), (6, .getfield 40, 3)]),
  (18, [(9, .getfield 58, 3), (12, .iload_n 1, 1), (13, .iaload, 1), (14, .if_icmp .ge 37, 3), (17, .lload_n 2, 1)]),
  (25, [(18, .aload_n 0, 1), (19, .getfield 15, 3), (22, .iload_n 1, 1), (23, .iconst 2, 1), (24, .imul, 1)]),
  (31, [(25, .iload 4, 2), (27, .iadd, 1), (28, .laload, 1), (29, .land, 1), (30, .lconst 1, 1)]),
  (38, [(31, .iload_n 1, 1), (32, .lshl, 1), (33, .ldc2_w 94, 3), (36, .lxor, 1), (37, .land, 1)]),
  (45, [(38, .lconst 0, 1), (39, .lcmp, 1), (40, .ifCond .eq 5, 3), (43, .iconst 1, 1), (44, .ireturn, 1)]),
  (100000, [(45, .iinc 4 1, 3), (48, .goto (-45), 3), (51, .iconst 0, 1), (52, .ireturn, 1)])]
set_option maxRecDepth 100000 in
theorem xd_X3_isBanMet : xchk cX3_isBanMet xk_X3_isBanMet = true := xchk_of (by decide +kernel)
set_option maxRecDepth 100000 in
def xk_X3_isFitting : XT (Instr × Nat) := [(14, [(0, .aload_n 0, 1), (1, .getfield 30, 3), (4, .invokevirtual 65, 3), (7, .astore_n 3, 1), (8, .iconst 0, 1), (9, .istore 4, 2), (11, .iload 4, 2), (13, .aload_n 3, 1)]),
  (31, [(14, .getfield 69, 3), (17, .if_icmp .ge 42, 3), (20, .aload_n 3, 1), (21, .getfield 74, 3), (24, .iload 4, 2), (26, .aaload, 1), (27, .ifnull 26, 3), (30, .aload_n 3, 1)]),
  (45, [(31, .getfield 74, 3), (34, .iload 4, 2), (36, .aaload, 1), (37, .aload_n 0, 1), (38, .getfield 24, 3), (41, .iload 4, 2), (43, .laload, 1), (44, .lload_n 1, 1)]),
  (62, [(45, .invokestatic 152, 3), (48, .ifCond .ne 5, 3), (51, .iconst 0, 1), (52, .ireturn, 1), (53, .iinc 4 1, 3), (56, .goto (-45), 3), (59, .iconst 0, 1), (60, .istore 4, 2)]),
  (80, [(62, .iload 4, 2), (64, .aload_n 0, 1), (65, .getfield 40, 3), (68, .getfield 76, 3), (71, .if_icmp .ge 71, 3), (74, .aload_n 3, 1), (75, .getfield 159, 3), (78, .iload 4, 2)]),
  (93, [(80, .ishr, 1), (81, .iconst 1, 1), (82, .iand, 1), (83, .ifCond .eq 7, 3), (86, .iconst 1, 1), (87, .goto 4, 3), (90, .iconst 0, 1), (91, .istore 5, 2)]),
  (104, [(93, .lload_n 1, 1), (94, .aload_n 0, 1), (95, .getfield 27, 3), (98, .iload 4, 2), (100, .laload, 1), (101, .land, 1), (102, .lconst 0, 1), (103, .lcmp, 1)]),
  (119, [(104, .ifCond .ne 30, 3), (107, .iload 5, 2), (109, .ifCond .eq 27, 3), (112, .lload_n 1, 1), (113, .aload_n 3, 1), (114, .getfield 162, 3), (117, .lxor, 1), (118, .aload_n 0, 1)]),
  (134, [(119, .getfield 40, 3), (122, .getfield 166, 3), (125, .iload 4, 2), (127, .laload, 1), (128, .land, 1), (129, .lconst 0, 1), (130, .lcmp, 1), (131, .ifCond .eq 5, 3)]),
  (100000, [(134, .iconst 0, 1), (135, .ireturn, 1), (136, .iinc 4 1, 3), (139, .goto (-77), 3), (142, .aload_n 0, 1), (143, .lload_n 1, 1), (144, .invokevirtual 169, 3), (147, .ireturn, 1)])]
set_option maxRecDepth 100000 in
theorem xd_X3_isFitting : xchk cX3_isFitting xk_X3_isFitting = true := xchk_of (by decide +kernel)
set_option maxRecDepth 100000 in
def xk_X3_isMeeting : XT (Instr × Nat) := [(13, [(0, .aload_n 0, 1), (1, .getfield 40, 3), (4, .getfield 106, 3), (7, .iload_n 1, 1), (8, .iaload, 1), (9, .aload_n 2, 1), (10, .getfield 109, 3)]),
  (28, [(13, .if_icmp .ne 20, 3), (16, .aload_n 2, 1), (17, .getfield 112, 3), (20, .aload_n 0, 1), (21, .getfield 40, 3), (24, .getfield 116, 3), (27, .iload_n 1, 1)]),
  (37, [(28, .iaload, 1), (29, .invokestatic 119, 3), (32, .ireturn, 1), (33, .iload_n 1, 1), (34, .iconst 2, 1), (35, .imul, 1), (36, .istore_n 3, 1)]),
  (50, [(37, .iconst 0, 1), (38, .istore 4, 2), (40, .iload 4, 2), (42, .aload_n 0, 1), (43, .getfield 40, 3), (46, .getfield 125, 3), (49, .iload_n 1, 1)]),
  (65, [(50, .iaload, 1), (51, .if_icmp .ge 59, 3), (54, .aload_n 2, 1), (55, .getfield 128, 3), (58, .ifCond .ne 52, 3), (61, .aload_n 0, 1), (62, .getfield 40, 3)]),
  (77, [(65, .getfield 132, 3), (68, .iload_n 3, 1), (69, .iload 4, 2), (71, .iadd, 1), (72, .iaload, 1), (73, .aload_n 2, 1), (74, .getfield 109, 3)]),
  (92, [(77, .if_icmp .ne 27, 3), (80, .aload_n 2, 1), (81, .getfield 112, 3), (84, .aload_n 0, 1), (85, .getfield 40, 3), (88, .getfield 135, 3), (91, .iload_n 3, 1)]),
  (104, [(92, .iload 4, 2), (94, .iadd, 1), (95, .iaload, 1), (96, .invokestatic 119, 3), (99, .ifCond .eq 5, 3), (102, .iconst 1, 1), (103, .ireturn, 1)]),
  (100000, [(104, .iinc 4 1, 3), (107, .goto (-67), 3), (110, .iconst 0, 1), (111, .ireturn, 1)])]
set_option maxRecDepth 100000 in
theorem xd_X3_isMeeting : xchk cX3_isMeeting xk_X3_isMeeting = true := xchk_of (by decide +kernel)
set_option maxRecDepth 100000 in
def xk_X3_isMet : XT (Instr × Nat) := [(11, [(0, .aload_n 0, 1), (1, .ifnull 24, 3), (4, .aload_n 0, 1), (5, .getfield 128, 3), (8, .ifCond .eq 17, 3)]),
  (20, [(11, .lload_n 3, 1), (12, .aload_n 0, 1), (13, .getfield 109, 3), (16, .invokestatic 138, 3), (19, .land, 1)]),
  (29, [(20, .lconst 0, 1), (21, .lcmp, 1), (22, .ifCond .eq 7, 3), (25, .iconst 1, 1), (26, .goto 4, 3)]),
  (35, [(29, .iconst 0, 1), (30, .istore 5, 2), (32, .lload_n 3, 1), (33, .lload_n 1, 1), (34, .land, 1)]),
  (45, [(35, .lconst 0, 1), (36, .lcmp, 1), (37, .ifCond .eq 12, 3), (40, .iload 5, 2), (42, .ifCond .eq 7, 3)]),
  (100000, [(45, .iconst 1, 1), (46, .goto 4, 3), (49, .iconst 0, 1), (50, .ireturn, 1)])]
set_option maxRecDepth 100000 in
theorem xd_X3_isMet : xchk cX3_isMet xk_X3_isMet = true := xchk_of (by decide +kernel)
set_option maxRecDepth 100000 in
def xk_X3_isOptionOn : XT (Instr × Nat) := [(8, [(0, .aload_n 0, 1), (1, .getfield 40, 3), (4, .getfield 63, 3), (7, .iload_n 1, 1)]),
  (14, [(8, .aaload, 1), (9, .ifnull 26, 3), (12, .lload_n 2, 1), (13, .aload_n 0, 1)]),
  (22, [(14, .getfield 40, 3), (17, .getfield 106, 3), (20, .iload_n 1, 1), (21, .iaload, 1)]),
  (28, [(22, .invokestatic 138, 3), (25, .land, 1), (26, .lconst 0, 1), (27, .lcmp, 1)]),
  (36, [(28, .ifCond .eq 7, 3), (31, .iconst 1, 1), (32, .goto 4, 3), (35, .iconst 0, 1)]),
  (100000, [(36, .ireturn, 1)])]
set_option maxRecDepth 100000 in
theorem xd_X3_isOptionOn : xchk cX3_isOptionOn xk_X3_isOptionOn = true := xchk_of (by decide +kernel)
set_option maxRecDepth 100000 in
def xk_X3_isSoundSet : XT (Instr × Nat) := [(13, [(0, .iconst 0, 1), (1, .istore_n 3, 1), (2, .iload_n 3, 1), (3, .aload_n 0, 1), (4, .getfield 40, 3), (7, .getfield 41, 3), (10, .if_icmp .ge 37, 3)]),
  (24, [(13, .lload_n 1, 1), (14, .iload_n 3, 1), (15, .invokestatic 141, 3), (18, .ifCond .eq 23, 3), (21, .aload_n 0, 1), (22, .iload_n 3, 1), (23, .lload_n 1, 1)]),
  (39, [(24, .invokevirtual 145, 3), (27, .ifCond .eq 12, 3), (30, .aload_n 0, 1), (31, .iload_n 3, 1), (32, .lload_n 1, 1), (33, .invokevirtual 149, 3), (36, .ifCond .eq 5, 3)]),
  (50, [(39, .iconst 0, 1), (40, .ireturn, 1), (41, .iinc 3 1, 3), (44, .goto (-42), 3), (47, .iconst 0, 1), (48, .istore_n 3, 1), (49, .iload_n 3, 1)]),
  (65, [(50, .aload_n 0, 1), (51, .getfield 40, 3), (54, .getfield 76, 3), (57, .if_icmp .ge 35, 3), (60, .lload_n 1, 1), (61, .iload_n 3, 1), (62, .invokestatic 138, 3)]),
  (76, [(65, .land, 1), (66, .lconst 0, 1), (67, .lcmp, 1), (68, .ifCond .eq 18, 3), (71, .lload_n 1, 1), (72, .aload_n 0, 1), (73, .getfield 21, 3)]),
  (85, [(76, .iload_n 3, 1), (77, .laload, 1), (78, .land, 1), (79, .lconst 0, 1), (80, .lcmp, 1), (81, .ifCond .ne 5, 3), (84, .iconst 0, 1)]),
  (100000, [(85, .ireturn, 1), (86, .iinc 3 1, 3), (89, .goto (-40), 3), (92, .iconst 1, 1), (93, .ireturn, 1)])]
set_option maxRecDepth 100000 in
theorem xd_X3_isSoundSet : xchk cX3_isSoundSet xk_X3_isSoundSet = true := xchk_of (by decide +kernel)
set_option maxRecDepth 100000 in
def xk_X3_meeting : XT (Instr × Nat) := [(7, [(0, .lconst 0, 1), (1, .lstore_n 2, 1), (2, .aload_n 1, 1), (3, .astore 4, 2), (5, .aload 4, 2)]),
  (16, [(7, .ifnull 56, 3), (10, .iconst 0, 1), (11, .istore 5, 2), (13, .iload 5, 2), (15, .aload_n 0, 1)]),
  (27, [(16, .getfield 40, 3), (19, .getfield 41, 3), (22, .if_icmp .ge 31, 3), (25, .lload_n 2, 1), (26, .aload_n 0, 1)]),
  (38, [(27, .iload 5, 2), (29, .aload 4, 2), (31, .invokevirtual 96, 3), (34, .ifCond .eq 10, 3), (37, .lconst 1, 1)]),
  (46, [(38, .iload 5, 2), (40, .lshl, 1), (41, .goto 4, 3), (44, .lconst 0, 1), (45, .lor, 1)]),
  (58, [(46, .lstore_n 2, 1), (47, .iinc 5 1, 3), (50, .goto (-37), 3), (53, .aload 4, 2), (55, .getfield 100, 3)]),
  (100000, [(58, .astore 4, 2), (60, .goto (-55), 3), (63, .lload_n 2, 1), (64, .lreturn, 1)])]
set_option maxRecDepth 100000 in
theorem xd_X3_meeting : xchk cX3_meeting xk_X3_meeting = true := xchk_of (by decide +kernel)
set_option maxRecDepth 100000 in
def xk_X3_renew_0 : List (Nat × Instr × Nat) := [(0, .iconst 0, 1), (1, .istore_n 1, 1), (2, .iload_n 1, 1), (3, .aload_n 0, 1), (4, .getfield 40, 3), (7, .getfield 41, 3), (10, .if_icmp .ge 124, 3), (13, .iconst 0, 1), (14, .istore_n 2, 1), (15, .iload_n 2, 1), (16, .aload_n 0, 1), (17, .getfield 40, 3)]
set_option maxRecDepth 100000 in
theorem xd_X3_renew_0 : xchk1 cX3_renew xk_X3_renew_0 = true := xwalk_of 0 (by decide +kernel)
set_option maxRecDepth 100000 in
def xk_X3_renew_1 : List (Nat × Instr × Nat) := [(20, .getfield 47, 3), (23, .iload_n 1, 1), (24, .iaload, 1), (25, .if_icmp .ge 36, 3), (28, .aload_n 0, 1), (29, .getfield 9, 3), (32, .iload_n 1, 1), (33, .iconst 3, 1), (34, .imul, 1), (35, .iload_n 2, 1), (36, .iadd, 1), (37, .aload_n 0, 1)]
set_option maxRecDepth 100000 in
theorem xd_X3_renew_1 : xchk1 cX3_renew xk_X3_renew_1 = true := xwalk_of 20 (by decide +kernel)
set_option maxRecDepth 100000 in
def xk_X3_renew_2 : List (Nat × Instr × Nat) := [(38, .aload_n 0, 1), (39, .getfield 40, 3), (42, .getfield 51, 3), (45, .iload_n 1, 1), (46, .iconst 3, 1), (47, .imul, 1), (48, .iload_n 2, 1), (49, .iadd, 1), (50, .aaload, 1), (51, .invokevirtual 54, 3), (54, .lastore, 1), (55, .iinc 2 1, 3)]
set_option maxRecDepth 100000 in
theorem xd_X3_renew_2 : xchk1 cX3_renew xk_X3_renew_2 = true := xwalk_of 38 (by decide +kernel)
set_option maxRecDepth 100000 in
def xk_X3_renew_3 : List (Nat × Instr × Nat) := [(58, .goto (-43), 3), (61, .iconst 0, 1), (62, .istore_n 2, 1), (63, .iload_n 2, 1), (64, .aload_n 0, 1), (65, .getfield 40, 3), (68, .getfield 58, 3), (71, .iload_n 1, 1), (72, .iaload, 1), (73, .if_icmp .ge 36, 3), (76, .aload_n 0, 1), (77, .getfield 15, 3)]
set_option maxRecDepth 100000 in
theorem xd_X3_renew_3 : xchk1 cX3_renew xk_X3_renew_3 = true := xwalk_of 58 (by decide +kernel)
set_option maxRecDepth 100000 in
def xk_X3_renew_4 : List (Nat × Instr × Nat) := [(80, .iload_n 1, 1), (81, .iconst 2, 1), (82, .imul, 1), (83, .iload_n 2, 1), (84, .iadd, 1), (85, .aload_n 0, 1), (86, .aload_n 0, 1), (87, .getfield 40, 3), (90, .getfield 61, 3), (93, .iload_n 1, 1), (94, .iconst 2, 1), (95, .imul, 1)]
set_option maxRecDepth 100000 in
theorem xd_X3_renew_4 : xchk1 cX3_renew xk_X3_renew_4 = true := xwalk_of 80 (by decide +kernel)
set_option maxRecDepth 100000 in
def xk_X3_renew_5 : List (Nat × Instr × Nat) := [(96, .iload_n 2, 1), (97, .iadd, 1), (98, .aaload, 1), (99, .invokevirtual 54, 3), (102, .lastore, 1), (103, .iinc 2 1, 3), (106, .goto (-43), 3), (109, .aload_n 0, 1), (110, .getfield 18, 3), (113, .iload_n 1, 1), (114, .aload_n 0, 1), (115, .aload_n 0, 1)]
set_option maxRecDepth 100000 in
theorem xd_X3_renew_5 : xchk1 cX3_renew xk_X3_renew_5 = true := xwalk_of 96 (by decide +kernel)
set_option maxRecDepth 100000 in
def xk_X3_renew_6 : List (Nat × Instr × Nat) := [(116, .getfield 40, 3), (119, .getfield 63, 3), (122, .iload_n 1, 1), (123, .aaload, 1), (124, .invokevirtual 54, 3), (127, .lastore, 1), (128, .iinc 1 1, 3), (131, .goto (-129), 3), (134, .aload_n 0, 1), (135, .getfield 30, 3), (138, .invokevirtual 65, 3), (141, .astore_n 1, 1)]
set_option maxRecDepth 100000 in
theorem xd_X3_renew_6 : xchk1 cX3_renew xk_X3_renew_6 = true := xwalk_of 116 (by decide +kernel)
set_option maxRecDepth 100000 in
def xk_X3_renew_7 : List (Nat × Instr × Nat) := [(142, .iconst 0, 1), (143, .istore_n 2, 1), (144, .iload_n 2, 1), (145, .aload_n 1, 1), (146, .getfield 69, 3), (149, .if_icmp .ge 25, 3), (152, .aload_n 0, 1), (153, .getfield 24, 3), (156, .iload_n 2, 1), (157, .aload_n 0, 1), (158, .aload_n 1, 1), (159, .getfield 74, 3)]
set_option maxRecDepth 100000 in
theorem xd_X3_renew_7 : xchk1 cX3_renew xk_X3_renew_7 = true := xwalk_of 142 (by decide +kernel)
set_option maxRecDepth 100000 in
def xk_X3_renew_8 : List (Nat × Instr × Nat) := [(162, .iload_n 2, 1), (163, .aaload, 1), (164, .invokevirtual 54, 3), (167, .lastore, 1), (168, .iinc 2 1, 3), (171, .goto (-27), 3), (174, .iconst 0, 1), (175, .istore_n 2, 1), (176, .iload_n 2, 1), (177, .aload_n 0, 1), (178, .getfield 40, 3), (181, .getfield 76, 3)]
set_option maxRecDepth 100000 in
theorem xd_X3_renew_8 : xchk1 cX3_renew xk_X3_renew_8 = true := xwalk_of 162 (by decide +kernel)
set_option maxRecDepth 100000 in
def xk_X3_renew_9 : List (Nat × Instr × Nat) := [(184, .if_icmp .ge 66, 3), (187, .aload_n 0, 1), (188, .getfield 21, 3), (191, .iload_n 2, 1), (192, .aload_n 0, 1), (193, .getfield 40, 3), (196, .iload_n 2, 1), (197, .invokevirtual 79, 3), (200, .lastore, 1), (201, .aload_n 1, 1), (202, .getfield 83, 3), (205, .iload_n 2, 1)]
set_option maxRecDepth 100000 in
theorem xd_X3_renew_9 : xchk1 cX3_renew xk_X3_renew_9 = true := xwalk_of 184 (by decide +kernel)
set_option maxRecDepth 100000 in
def xk_X3_renew_10 : List (Nat × Instr × Nat) := [(206, .aaload, 1), (207, .astore_n 3, 1), (208, .aload_n 0, 1), (209, .getfield 27, 3), (212, .iload_n 2, 1), (213, .aload_n 3, 1), (214, .ifnonnull 7, 3), (217, .lconst 0, 1), (218, .goto 25, 3), (221, .aload_n 0, 1), (222, .getfield 40, 3), (225, .iload_n 2, 1)]
set_option maxRecDepth 100000 in
theorem xd_X3_renew_10 : xchk1 cX3_renew xk_X3_renew_10 = true := xwalk_of 206 (by decide +kernel)
set_option maxRecDepth 100000 in
def xk_X3_renew_11 : List (Nat × Instr × Nat) := [(226, .invokevirtual 87, 3), (229, .aload_n 0, 1), (230, .getfield 40, 3), (233, .iload_n 2, 1), (234, .aload_n 3, 1), (235, .invokevirtual 90, 3), (238, .ldc2_w 94, 3), (241, .lxor, 1), (242, .land, 1), (243, .lastore, 1), (244, .iinc 2 1, 3), (247, .goto (-71), 3)]
set_option maxRecDepth 100000 in
theorem xd_X3_renew_11 : xchk1 cX3_renew xk_X3_renew_11 = true := xwalk_of 226 (by decide +kernel)
set_option maxRecDepth 100000 in
def xk_X3_renew_12 : List (Nat × Instr × Nat) := [(250, .return_, 1)]
set_option maxRecDepth 100000 in
theorem xd_X3_renew_12 : xchk1 cX3_renew xk_X3_renew_12 = true := xwalk_of 250 (by decide +kernel)
set_option maxRecDepth 100000 in
def xk_X3_renew : XT (Instr × Nat) := [(20, xk_X3_renew_0),
  (38, xk_X3_renew_1),
  (58, xk_X3_renew_2),
  (80, xk_X3_renew_3),
  (96, xk_X3_renew_4),
  (116, xk_X3_renew_5),
  (142, xk_X3_renew_6),
  (162, xk_X3_renew_7),
  (184, xk_X3_renew_8),
  (206, xk_X3_renew_9),
  (226, xk_X3_renew_10),
  (250, xk_X3_renew_11),
  (100000, xk_X3_renew_12)]
set_option maxRecDepth 100000 in
theorem xd_X3_renew : xchk cX3_renew xk_X3_renew = true := (xchk_cons xd_X3_renew_0 (xchk_cons xd_X3_renew_1 (xchk_cons xd_X3_renew_2 (xchk_cons xd_X3_renew_3 (xchk_cons xd_X3_renew_4 (xchk_cons xd_X3_renew_5 (xchk_cons xd_X3_renew_6 (xchk_cons xd_X3_renew_7 (xchk_cons xd_X3_renew_8 (xchk_cons xd_X3_renew_9 (xchk_cons xd_X3_renew_10 (xchk_cons xd_X3_renew_11 (xchk_cons xd_X3_renew_12 xchk_nil)))))))))))))
set_option maxRecDepth 100000 in
def xk_X3_setNumber : XT (Instr × Nat) := [(10, [(0, .iload_n 1, 1), (1, .istore_n 2, 1), (2, .lconst 0, 1), (3, .lstore_n 3, 1), (4, .iconst 0, 1), (5, .istore 5, 2), (7, .iload 5, 2), (9, .aload_n 0, 1)]),
  (29, [(10, .getfield 40, 3), (13, .getfield 76, 3), (16, .if_icmp .ge 95, 3), (19, .aload_n 0, 1), (20, .getfield 40, 3), (23, .getfield 173, 3), (26, .iload 5, 2), (28, .iaload, 1)]),
  (40, [(29, .iconst 1, 1), (30, .iadd, 1), (31, .istore 6, 2), (33, .iload_n 2, 1), (34, .iload 6, 2), (36, .irem, 1), (37, .istore 7, 2), (39, .iload_n 2, 1)]),
  (54, [(40, .iload 6, 2), (42, .idiv, 1), (43, .istore_n 2, 1), (44, .lload_n 3, 1), (45, .iload 7, 2), (47, .ifCond .ne 7, 3), (50, .lconst 0, 1), (51, .goto 18, 3)]),
  (68, [(54, .lconst 1, 1), (55, .aload_n 0, 1), (56, .getfield 40, 3), (59, .iload 5, 2), (61, .iload 7, 2), (63, .iconst 1, 1), (64, .isub, 1), (65, .invokevirtual 176, 3)]),
  (79, [(68, .lshl, 1), (69, .lor, 1), (70, .lstore_n 3, 1), (71, .aload_n 0, 1), (72, .getfield 21, 3), (75, .iload 5, 2), (77, .laload, 1), (78, .lconst 0, 1)]),
  (91, [(79, .lcmp, 1), (80, .ifCond .eq 25, 3), (83, .lload_n 3, 1), (84, .iload_n 2, 1), (85, .iconst 2, 1), (86, .irem, 1), (87, .ifCond .ne 7, 3), (90, .lconst 0, 1)]),
  (104, [(91, .goto 8, 3), (94, .iload 5, 2), (96, .invokestatic 138, 3), (99, .lor, 1), (100, .lstore_n 3, 1), (101, .iload_n 2, 1), (102, .iconst 2, 1), (103, .idiv, 1)]),
  (100000, [(104, .istore_n 2, 1), (105, .iinc 5 1, 3), (108, .goto (-101), 3), (111, .lload_n 3, 1), (112, .lreturn, 1)])]
set_option maxRecDepth 100000 in
theorem xd_X3_setNumber : xchk cX3_setNumber xk_X3_setNumber = true := xchk_of (by decide +kernel)
set_option maxRecDepth 100000 in
def xk_X3_setsToGoThrough : XT (Instr × Nat) := [(6, [(0, .iconst 1, 1), (1, .istore_n 1, 1), (2, .iconst 0, 1), (3, .istore_n 2, 1), (4, .iload_n 2, 1), (5, .aload_n 0, 1)]),
  (22, [(6, .getfield 40, 3), (9, .getfield 76, 3), (12, .if_icmp .ge 47, 3), (15, .iload_n 1, 1), (16, .sipush 5000, 3), (19, .if_icmp .gt 40, 3)]),
  (32, [(22, .iload_n 1, 1), (23, .aload_n 0, 1), (24, .getfield 40, 3), (27, .getfield 173, 3), (30, .iload_n 2, 1), (31, .iaload, 1)]),
  (40, [(32, .iconst 1, 1), (33, .iadd, 1), (34, .aload_n 0, 1), (35, .getfield 21, 3), (38, .iload_n 2, 1), (39, .laload, 1)]),
  (50, [(40, .lconst 0, 1), (41, .lcmp, 1), (42, .ifCond .eq 7, 3), (45, .iconst 2, 1), (46, .goto 4, 3), (49, .iconst 1, 1)]),
  (60, [(50, .imul, 1), (51, .imul, 1), (52, .istore_n 1, 1), (53, .iinc 2 1, 3), (56, .goto (-52), 3), (59, .iload_n 1, 1)]),
  (100000, [(60, .sipush 5000, 3), (63, .if_icmp .le 9, 3), (66, .sipush 5001, 3), (69, .goto 4, 3), (72, .iload_n 1, 1), (73, .ireturn, 1)])]
set_option maxRecDepth 100000 in
theorem xd_X3_setsToGoThrough : xchk cX3_setsToGoThrough xk_X3_setsToGoThrough = true := xchk_of (by decide +kernel)
set_option maxRecDepth 100000 in
def xk_X4_dropUnneeded_0 : List (Nat × Instr × Nat) := [(0, .aload_n 0, 1), (1, .getfield 41, 3), (4, .iconst (-1), 1), (5, .invokestatic 128, 3), (8, .aload_n 0, 1), (9, .getfield 25, 3), (12, .ifCond .le 15, 3), (15, .aload_n 0, 1), (16, .getfield 41, 3), (19, .aload_n 0, 1), (20, .getfield 25, 3)]
set_option maxRecDepth 100000 in
theorem xd_X4_dropUnneeded_0 : xchk1 cX4_dropUnneeded xk_X4_dropUnneeded_0 = true := xwalk_of 0 (by decide +kernel)
set_option maxRecDepth 100000 in
def xk_X4_dropUnneeded_1 : List (Nat × Instr × Nat) := [(23, .iconst 1, 1), (24, .isub, 1), (25, .iconst 0, 1), (26, .iastore, 1), (27, .aload_n 0, 1), (28, .getfield 25, 3), (31, .iconst 1, 1), (32, .isub, 1), (33, .istore_n 1, 1), (34, .iload_n 1, 1), (35, .ifCond .lt 53, 3)]
set_option maxRecDepth 100000 in
theorem xd_X4_dropUnneeded_1 : xchk1 cX4_dropUnneeded xk_X4_dropUnneeded_1 = true := xwalk_of 23 (by decide +kernel)
set_option maxRecDepth 100000 in
def xk_X4_dropUnneeded_2 : List (Nat × Instr × Nat) := [(38, .aload_n 0, 1), (39, .getfield 41, 3), (42, .iload_n 1, 1), (43, .iaload, 1), (44, .iconst (-1), 1), (45, .if_icmp .eq 37, 3), (48, .aload_n 0, 1), (49, .getfield 38, 3), (52, .iload_n 1, 1), (53, .iaload, 1), (54, .iconst (-1), 1)]
set_option maxRecDepth 100000 in
theorem xd_X4_dropUnneeded_2 : xchk1 cX4_dropUnneeded xk_X4_dropUnneeded_2 = true := xwalk_of 38 (by decide +kernel)
set_option maxRecDepth 100000 in
def xk_X4_dropUnneeded_3 : List (Nat × Instr × Nat) := [(55, .if_icmp .eq 27, 3), (58, .aload_n 0, 1), (59, .getfield 41, 3), (62, .aload_n 0, 1), (63, .getfield 35, 3), (66, .iload_n 1, 1), (67, .iaload, 1), (68, .iconst 0, 1), (69, .iastore, 1), (70, .aload_n 0, 1), (71, .getfield 41, 3)]
set_option maxRecDepth 100000 in
theorem xd_X4_dropUnneeded_3 : xchk1 cX4_dropUnneeded xk_X4_dropUnneeded_3 = true := xwalk_of 55 (by decide +kernel)
set_option maxRecDepth 100000 in
def xk_X4_dropUnneeded_4 : List (Nat × Instr × Nat) := [(74, .aload_n 0, 1), (75, .getfield 38, 3), (78, .iload_n 1, 1), (79, .iaload, 1), (80, .iconst 0, 1), (81, .iastore, 1), (82, .iinc 1 (-1), 3), (85, .goto (-51), 3), (88, .iconst 0, 1), (89, .istore_n 1, 1), (90, .iconst 0, 1)]
set_option maxRecDepth 100000 in
theorem xd_X4_dropUnneeded_4 : xchk1 cX4_dropUnneeded xk_X4_dropUnneeded_4 = true := xwalk_of 74 (by decide +kernel)
set_option maxRecDepth 100000 in
def xk_X4_dropUnneeded_5 : List (Nat × Instr × Nat) := [(91, .istore_n 2, 1), (92, .iload_n 2, 1), (93, .aload_n 0, 1), (94, .getfield 25, 3), (97, .if_icmp .ge 119, 3), (100, .aload_n 0, 1), (101, .getfield 41, 3), (104, .iload_n 2, 1), (105, .iaload, 1), (106, .iconst (-1), 1), (107, .if_icmp .eq 103, 3)]
set_option maxRecDepth 100000 in
theorem xd_X4_dropUnneeded_5 : xchk1 cX4_dropUnneeded xk_X4_dropUnneeded_5 = true := xwalk_of 91 (by decide +kernel)
set_option maxRecDepth 100000 in
def xk_X4_dropUnneeded_6 : List (Nat × Instr × Nat) := [(110, .aload_n 0, 1), (111, .getfield 41, 3), (114, .iload_n 2, 1), (115, .iload_n 1, 1), (116, .iastore, 1), (117, .aload_n 0, 1), (118, .getfield 28, 3), (121, .iload_n 1, 1), (122, .aload_n 0, 1), (123, .getfield 28, 3), (126, .iload_n 2, 1)]
set_option maxRecDepth 100000 in
theorem xd_X4_dropUnneeded_6 : xchk1 cX4_dropUnneeded xk_X4_dropUnneeded_6 = true := xwalk_of 110 (by decide +kernel)
set_option maxRecDepth 100000 in
def xk_X4_dropUnneeded_7 : List (Nat × Instr × Nat) := [(127, .laload, 1), (128, .lastore, 1), (129, .aload_n 0, 1), (130, .getfield 32, 3), (133, .iload_n 1, 1), (134, .aload_n 0, 1), (135, .getfield 32, 3), (138, .iload_n 2, 1), (139, .laload, 1), (140, .lastore, 1), (141, .aload_n 0, 1)]
set_option maxRecDepth 100000 in
theorem xd_X4_dropUnneeded_7 : xchk1 cX4_dropUnneeded xk_X4_dropUnneeded_7 = true := xwalk_of 127 (by decide +kernel)
set_option maxRecDepth 100000 in
def xk_X4_dropUnneeded_8 : List (Nat × Instr × Nat) := [(142, .getfield 38, 3), (145, .iload_n 2, 1), (146, .iaload, 1), (147, .iconst (-1), 1), (148, .if_icmp .eq 7, 3), (151, .iconst 1, 1), (152, .goto 4, 3), (155, .iconst 0, 1), (156, .istore_n 3, 1), (157, .aload_n 0, 1), (158, .getfield 35, 3)]
set_option maxRecDepth 100000 in
theorem xd_X4_dropUnneeded_8 : xchk1 cX4_dropUnneeded xk_X4_dropUnneeded_8 = true := xwalk_of 142 (by decide +kernel)
set_option maxRecDepth 100000 in
def xk_X4_dropUnneeded_9 : List (Nat × Instr × Nat) := [(161, .iload_n 1, 1), (162, .iload_n 3, 1), (163, .ifCond .eq 17, 3), (166, .aload_n 0, 1), (167, .getfield 41, 3), (170, .aload_n 0, 1), (171, .getfield 35, 3), (174, .iload_n 2, 1), (175, .iaload, 1), (176, .iaload, 1), (177, .goto 4, 3)]
set_option maxRecDepth 100000 in
theorem xd_X4_dropUnneeded_9 : xchk1 cX4_dropUnneeded xk_X4_dropUnneeded_9 = true := xwalk_of 161 (by decide +kernel)
set_option maxRecDepth 100000 in
def xk_X4_dropUnneeded_10 : List (Nat × Instr × Nat) := [(180, .iconst (-1), 1), (181, .iastore, 1), (182, .aload_n 0, 1), (183, .getfield 38, 3), (186, .iload_n 1, 1), (187, .iload_n 3, 1), (188, .ifCond .eq 17, 3), (191, .aload_n 0, 1), (192, .getfield 41, 3), (195, .aload_n 0, 1), (196, .getfield 38, 3)]
set_option maxRecDepth 100000 in
theorem xd_X4_dropUnneeded_10 : xchk1 cX4_dropUnneeded xk_X4_dropUnneeded_10 = true := xwalk_of 180 (by decide +kernel)
set_option maxRecDepth 100000 in
def xk_X4_dropUnneeded_11 : List (Nat × Instr × Nat) := [(199, .iload_n 2, 1), (200, .iaload, 1), (201, .iaload, 1), (202, .goto 4, 3), (205, .iconst (-1), 1), (206, .iastore, 1), (207, .iinc 1 1, 3), (210, .iinc 2 1, 3), (213, .goto (-121), 3), (216, .aload_n 0, 1), (217, .aload_n 0, 1)]
set_option maxRecDepth 100000 in
theorem xd_X4_dropUnneeded_11 : xchk1 cX4_dropUnneeded xk_X4_dropUnneeded_11 = true := xwalk_of 199 (by decide +kernel)
set_option maxRecDepth 100000 in
def xk_X4_dropUnneeded_12 : List (Nat × Instr × Nat) := [(218, .getfield 25, 3), (221, .ifCond .le 7, 3), (224, .iload_n 1, 1), (225, .goto 7, 3), (228, .aload_n 0, 1), (229, .getfield 25, 3), (232, .putfield 25, 3), (235, .return_, 1)]
set_option maxRecDepth 100000 in
theorem xd_X4_dropUnneeded_12 : xchk1 cX4_dropUnneeded xk_X4_dropUnneeded_12 = true := xwalk_of 218 (by decide +kernel)
set_option maxRecDepth 100000 in
def xk_X4_dropUnneeded : XT (Instr × Nat) := [(23, xk_X4_dropUnneeded_0),
  (38, xk_X4_dropUnneeded_1),
  (55, xk_X4_dropUnneeded_2),
  (74, xk_X4_dropUnneeded_3),
  (91, xk_X4_dropUnneeded_4),
  (110, xk_X4_dropUnneeded_5),
  (127, xk_X4_dropUnneeded_6),
  (142, xk_X4_dropUnneeded_7),
  (161, xk_X4_dropUnneeded_8),
  (180, xk_X4_dropUnneeded_9),
  (199, xk_X4_dropUnneeded_10),
  (218, xk_X4_dropUnneeded_11),
  (100000, xk_X4_dropUnneeded_12)]
set_option maxRecDepth 100000 in
theorem xd_X4_dropUnneeded : xchk cX4_dropUnneeded xk_X4_dropUnneeded = true := (xchk_cons xd_X4_dropUnneeded_0 (xchk_cons xd_X4_dropUnneeded_1 (xchk_cons xd_X4_dropUnneeded_2 (xchk_cons xd_X4_dropUnneeded_3 (xchk_cons xd_X4_dropUnneeded_4 (xchk_cons xd_X4_dropUnneeded_5 (xchk_cons xd_X4_dropUnneeded_6 (xchk_cons xd_X4_dropUnneeded_7 (xchk_cons xd_X4_dropUnneeded_8 (xchk_cons xd_X4_dropUnneeded_9 (xchk_cons xd_X4_dropUnneeded_10 (xchk_cons xd_X4_dropUnneeded_11 (xchk_cons xd_X4_dropUnneeded_12 xchk_nil)))))))))))))
set_option maxRecDepth 100000 in
def xk_X4_findCore : XT (Instr × Nat) := [(16, [(0, .aload_n 0, 1), (1, .iconst 0, 1), (2, .putfield 9, 3), (5, .aload_n 0, 1), (6, .invokevirtual 61, 3), (9, .aload_n 0, 1), (10, .invokevirtual 64, 3), (13, .ifCond .ne 7, 3)]),
  (30, [(16, .iconst 1, 1), (17, .goto 4, 3), (20, .iconst 0, 1), (21, .istore_n 1, 1), (22, .aload_n 0, 1), (23, .getfield 47, 3), (26, .getfield 68, 3), (29, .iconst 1, 1)]),
  (44, [(30, .isub, 1), (31, .istore_n 2, 1), (32, .iload_n 2, 1), (33, .ifCond .lt 49, 3), (36, .iload_n 1, 1), (37, .ifCond .ne 45, 3), (40, .aload_n 0, 1), (41, .getfield 51, 3)]),
  (56, [(44, .getfield 71, 3), (47, .iload_n 2, 1), (48, .iconst 1, 1), (49, .bastore, 1), (50, .aload_n 0, 1), (51, .getfield 21, 3), (54, .iload_n 2, 1), (55, .baload, 1)]),
  (74, [(56, .ifCond .eq 20, 3), (59, .aload_n 0, 1), (60, .invokevirtual 64, 3), (63, .ifCond .ne 13, 3), (66, .aload_n 0, 1), (67, .getfield 51, 3), (70, .getfield 71, 3), (73, .iload_n 2, 1)]),
  (86, [(74, .iconst 0, 1), (75, .bastore, 1), (76, .iinc 2 (-1), 3), (79, .goto (-47), 3), (82, .iconst 0, 1), (83, .istore_n 2, 1), (84, .iload_n 2, 1), (85, .aload_n 0, 1)]),
  (106, [(86, .getfield 47, 3), (89, .getfield 68, 3), (92, .if_icmp .ge 45, 3), (95, .iload_n 1, 1), (96, .ifCond .ne 41, 3), (99, .aload_n 0, 1), (100, .getfield 51, 3), (103, .getfield 71, 3)]),
  (120, [(106, .iload_n 2, 1), (107, .baload, 1), (108, .ifCond .ne 23, 3), (111, .aload_n 0, 1), (112, .getfield 17, 3), (115, .aload_n 0, 1), (116, .getfield 9, 3), (119, .iload_n 2, 1)]),
  (134, [(120, .iastore, 1), (121, .aload_n 0, 1), (122, .dup, 1), (123, .getfield 9, 3), (126, .iconst 1, 1), (127, .iadd, 1), (128, .putfield 9, 3), (131, .iinc 2 1, 3)]),
  (100000, [(134, .goto (-50), 3), (137, .aload_n 0, 1), (138, .invokevirtual 61, 3), (141, .return_, 1)])]
set_option maxRecDepth 100000 in
theorem xd_X4_findCore : xchk cX4_findCore xk_X4_findCore = true := xchk_of (by decide +kernel)
set_option maxRecDepth 100000 in
def xk_X4_init : XT (Instr × Nat) := [(10, [(0, .aload_n 0, 1), (1, .invokespecial 3, 3), (4, .aload_n 0, 1), (5, .iconst 0, 1), (6, .putfield 9, 3), (9, .aload_n 0, 1)]),
  (24, [(10, .sipush 3712, 3), (13, .newarray .int, 2), (15, .putfield 17, 3), (18, .aload_n 0, 1), (19, .sipush 3712, 3), (22, .newarray .boolean, 2)]),
  (36, [(24, .putfield 21, 3), (27, .aload_n 0, 1), (28, .iconst 0, 1), (29, .putfield 25, 3), (32, .aload_n 0, 1), (33, .sipush 200, 3)]),
  (50, [(36, .newarray .long, 2), (38, .putfield 28, 3), (41, .aload_n 0, 1), (42, .sipush 200, 3), (45, .newarray .long, 2), (47, .putfield 32, 3)]),
  (63, [(50, .aload_n 0, 1), (51, .sipush 200, 3), (54, .newarray .int, 2), (56, .putfield 35, 3), (59, .aload_n 0, 1), (60, .sipush 200, 3)]),
  (77, [(63, .newarray .int, 2), (65, .putfield 38, 3), (68, .aload_n 0, 1), (69, .sipush 200, 3), (72, .newarray .int, 2), (74, .putfield 41, 3)]),
  (88, [(77, .aload_n 0, 1), (78, .sipush 800, 3), (81, .newarray .long, 2), (83, .putfield 44, 3), (86, .aload_n 0, 1), (87, .aload_n 1, 1)]),
  (100000, [(88, .putfield 47, 3), (91, .aload_n 0, 1), (92, .aload_n 2, 1), (93, .putfield 51, 3), (96, .return_, 1)])]
set_option maxRecDepth 100000 in
theorem xd_X4_init : xchk cX4_init xk_X4_init = true := xchk_of (by decide +kernel)
set_option maxRecDepth 100000 in
def xk_X4_isBestJoined_0 : List (Nat × Instr × Nat) := [(0, .bipush 64, 2), (2, .istore_n 1, 1), (3, .iconst (-1), 1), (4, .istore_n 2, 1), (5, .iconst (-1), 1), (6, .istore_n 3, 1), (7, .iconst 1, 1), (8, .istore 4, 2), (10, .iload 4, 2), (12, .aload_n 0, 1)]
set_option maxRecDepth 100000 in
theorem xd_X4_isBestJoined_0 : xchk1 cX4_isBestJoined xk_X4_isBestJoined_0 = true := xwalk_of 0 (by decide +kernel)
set_option maxRecDepth 100000 in
def xk_X4_isBestJoined_1 : List (Nat × Instr × Nat) := [(13, .getfield 25, 3), (16, .if_icmp .ge 93, 3), (19, .iconst 0, 1), (20, .istore 5, 2), (22, .iload 5, 2), (24, .iload 4, 2), (26, .if_icmp .ge 77, 3), (29, .aload_n 0, 1), (30, .iload 5, 2), (32, .iload 4, 2)]
set_option maxRecDepth 100000 in
theorem xd_X4_isBestJoined_1 : xchk1 cX4_isBestJoined xk_X4_isBestJoined_1 = true := xwalk_of 13 (by decide +kernel)
set_option maxRecDepth 100000 in
def xk_X4_isBestJoined_2 : List (Nat × Instr × Nat) := [(34, .invokevirtual 105, 3), (37, .ifCond .ne 60, 3), (40, .aload_n 0, 1), (41, .iload 5, 2), (43, .iload 4, 2), (45, .invokevirtual 109, 3), (48, .ifCond .ne 6, 3), (51, .goto 46, 3), (54, .aload_n 0, 1), (55, .getfield 112, 3)]
set_option maxRecDepth 100000 in
theorem xd_X4_isBestJoined_2 : xchk1 cX4_isBestJoined xk_X4_isBestJoined_2 = true := xwalk_of 34 (by decide +kernel)
set_option maxRecDepth 100000 in
def xk_X4_isBestJoined_3 : List (Nat × Instr × Nat) := [(58, .invokestatic 55, 3), (61, .aload_n 0, 1), (62, .getfield 116, 3), (65, .invokestatic 55, 3), (68, .iadd, 1), (69, .istore 6, 2), (71, .iload 6, 2), (73, .iload_n 1, 1), (74, .if_icmp .ge 23, 3), (77, .aload_n 0, 1)]
set_option maxRecDepth 100000 in
theorem xd_X4_isBestJoined_3 : xchk1 cX4_isBestJoined xk_X4_isBestJoined_3 = true := xwalk_of 58 (by decide +kernel)
set_option maxRecDepth 100000 in
def xk_X4_isBestJoined_4 : List (Nat × Instr × Nat) := [(78, .iload 5, 2), (80, .iload 4, 2), (82, .invokevirtual 119, 3), (85, .ifCond .ne 12, 3), (88, .iload 6, 2), (90, .istore_n 1, 1), (91, .iload 5, 2), (93, .istore_n 2, 1), (94, .iload 4, 2), (96, .istore_n 3, 1)]
set_option maxRecDepth 100000 in
theorem xd_X4_isBestJoined_4 : xchk1 cX4_isBestJoined xk_X4_isBestJoined_4 = true := xwalk_of 78 (by decide +kernel)
set_option maxRecDepth 100000 in
def xk_X4_isBestJoined_5 : List (Nat × Instr × Nat) := [(97, .iinc 5 1, 3), (100, .goto (-78), 3), (103, .iinc 4 1, 3), (106, .goto (-96), 3), (109, .iload_n 2, 1), (110, .iconst (-1), 1), (111, .if_icmp .eq 22, 3), (114, .aload_n 0, 1), (115, .getfield 25, 3), (118, .sipush 200, 3)]
set_option maxRecDepth 100000 in
theorem xd_X4_isBestJoined_5 : xchk1 cX4_isBestJoined xk_X4_isBestJoined_5 = true := xwalk_of 97 (by decide +kernel)
set_option maxRecDepth 100000 in
def xk_X4_isBestJoined_6 : List (Nat × Instr × Nat) := [(121, .if_icmp .ge 12, 3), (124, .aload_n 0, 1), (125, .iload_n 2, 1), (126, .iload_n 3, 1), (127, .invokevirtual 109, 3), (130, .ifCond .ne 5, 3), (133, .iconst 0, 1), (134, .ireturn, 1), (135, .aload_n 0, 1), (136, .getfield 28, 3)]
set_option maxRecDepth 100000 in
theorem xd_X4_isBestJoined_6 : xchk1 cX4_isBestJoined xk_X4_isBestJoined_6 = true := xwalk_of 121 (by decide +kernel)
set_option maxRecDepth 100000 in
def xk_X4_isBestJoined_7 : List (Nat × Instr × Nat) := [(139, .aload_n 0, 1), (140, .getfield 25, 3), (143, .aload_n 0, 1), (144, .getfield 112, 3), (147, .lastore, 1), (148, .aload_n 0, 1), (149, .getfield 32, 3), (152, .aload_n 0, 1), (153, .getfield 25, 3), (156, .aload_n 0, 1)]
set_option maxRecDepth 100000 in
theorem xd_X4_isBestJoined_7 : xchk1 cX4_isBestJoined xk_X4_isBestJoined_7 = true := xwalk_of 139 (by decide +kernel)
set_option maxRecDepth 100000 in
def xk_X4_isBestJoined_8 : List (Nat × Instr × Nat) := [(157, .getfield 116, 3), (160, .lastore, 1), (161, .aload_n 0, 1), (162, .getfield 35, 3), (165, .aload_n 0, 1), (166, .getfield 25, 3), (169, .iload_n 2, 1), (170, .iastore, 1), (171, .aload_n 0, 1), (172, .getfield 38, 3)]
set_option maxRecDepth 100000 in
theorem xd_X4_isBestJoined_8 : xchk1 cX4_isBestJoined xk_X4_isBestJoined_8 = true := xwalk_of 157 (by decide +kernel)
set_option maxRecDepth 100000 in
def xk_X4_isBestJoined_9 : List (Nat × Instr × Nat) := [(175, .aload_n 0, 1), (176, .getfield 25, 3), (179, .iload_n 3, 1), (180, .iastore, 1), (181, .aload_n 0, 1), (182, .dup, 1), (183, .getfield 25, 3), (186, .iconst 1, 1), (187, .iadd, 1), (188, .putfield 25, 3)]
set_option maxRecDepth 100000 in
theorem xd_X4_isBestJoined_9 : xchk1 cX4_isBestJoined xk_X4_isBestJoined_9 = true := xwalk_of 175 (by decide +kernel)
set_option maxRecDepth 100000 in
def xk_X4_isBestJoined_10 : List (Nat × Instr × Nat) := [(191, .iconst 1, 1), (192, .ireturn, 1)]
set_option maxRecDepth 100000 in
theorem xd_X4_isBestJoined_10 : xchk1 cX4_isBestJoined xk_X4_isBestJoined_10 = true := xwalk_of 191 (by decide +kernel)
set_option maxRecDepth 100000 in
def xk_X4_isBestJoined : XT (Instr × Nat) := [(13, xk_X4_isBestJoined_0),
  (34, xk_X4_isBestJoined_1),
  (58, xk_X4_isBestJoined_2),
  (78, xk_X4_isBestJoined_3),
  (97, xk_X4_isBestJoined_4),
  (121, xk_X4_isBestJoined_5),
  (139, xk_X4_isBestJoined_6),
  (157, xk_X4_isBestJoined_7),
  (175, xk_X4_isBestJoined_8),
  (191, xk_X4_isBestJoined_9),
  (100000, xk_X4_isBestJoined_10)]
set_option maxRecDepth 100000 in
theorem xd_X4_isBestJoined : xchk cX4_isBestJoined xk_X4_isBestJoined = true := (xchk_cons xd_X4_isBestJoined_0 (xchk_cons xd_X4_isBestJoined_1 (xchk_cons xd_X4_isBestJoined_2 (xchk_cons xd_X4_isBestJoined_3 (xchk_cons xd_X4_isBestJoined_4 (xchk_cons xd_X4_isBestJoined_5 (xchk_cons xd_X4_isBestJoined_6 (xchk_cons xd_X4_isBestJoined_7 (xchk_cons xd_X4_isBestJoined_8 (xchk_cons xd_X4_isBestJoined_9 (xchk_cons xd_X4_isBestJoined_10 xchk_nil)))))))))))
set_option maxRecDepth 100000 in
def xk_X4_isCoreWrong : XT (Instr × Nat) := [(12, [(0, .aload_n 0, 1), (1, .getfield 9, 3), (4, .ifCond .ne 5, 3), (7, .iconst 0, 1), (8, .ireturn, 1), (9, .iconst 0, 1), (10, .istore_n 1, 1), (11, .iload_n 1, 1)]),
  (30, [(12, .aload_n 0, 1), (13, .getfield 47, 3), (16, .getfield 68, 3), (19, .if_icmp .ge 19, 3), (22, .aload_n 0, 1), (23, .getfield 51, 3), (26, .getfield 71, 3), (29, .iload_n 1, 1)]),
  (42, [(30, .iconst 1, 1), (31, .bastore, 1), (32, .iinc 1 1, 3), (35, .goto (-24), 3), (38, .iconst 0, 1), (39, .istore_n 1, 1), (40, .iload_n 1, 1), (41, .aload_n 0, 1)]),
  (60, [(42, .getfield 9, 3), (45, .if_icmp .ge 24, 3), (48, .aload_n 0, 1), (49, .getfield 51, 3), (52, .getfield 71, 3), (55, .aload_n 0, 1), (56, .getfield 17, 3), (59, .iload_n 1, 1)]),
  (76, [(60, .iaload, 1), (61, .iconst 0, 1), (62, .bastore, 1), (63, .iinc 1 1, 3), (66, .goto (-26), 3), (69, .aload_n 0, 1), (70, .invokevirtual 64, 3), (73, .ifCond .ne 7, 3)]),
  (86, [(76, .iconst 1, 1), (77, .goto 4, 3), (80, .iconst 0, 1), (81, .istore_n 1, 1), (82, .iconst 0, 1), (83, .istore_n 2, 1), (84, .iload_n 2, 1), (85, .aload_n 0, 1)]),
  (104, [(86, .getfield 9, 3), (89, .if_icmp .ge 48, 3), (92, .iload_n 1, 1), (93, .ifCond .ne 44, 3), (96, .aload_n 0, 1), (97, .getfield 51, 3), (100, .getfield 71, 3), (103, .aload_n 0, 1)]),
  (116, [(104, .getfield 17, 3), (107, .iload_n 2, 1), (108, .iaload, 1), (109, .iconst 1, 1), (110, .bastore, 1), (111, .aload_n 0, 1), (112, .invokevirtual 64, 3), (115, .istore_n 1, 1)]),
  (130, [(116, .aload_n 0, 1), (117, .getfield 51, 3), (120, .getfield 71, 3), (123, .aload_n 0, 1), (124, .getfield 17, 3), (127, .iload_n 2, 1), (128, .iaload, 1), (129, .iconst 0, 1)]),
  (100000, [(130, .bastore, 1), (131, .iinc 2 1, 3), (134, .goto (-50), 3), (137, .aload_n 0, 1), (138, .invokevirtual 61, 3), (141, .iload_n 1, 1), (142, .ireturn, 1)])]
set_option maxRecDepth 100000 in
theorem xd_X4_isCoreWrong : xchk cX4_isCoreWrong xk_X4_isCoreWrong = true := xchk_of (by decide +kernel)
set_option maxRecDepth 100000 in
def xk_X4_isCovered : XT (Instr × Nat) := [(10, [(0, .iconst 0, 1), (1, .istore_n 3, 1), (2, .iload_n 3, 1), (3, .aload_n 0, 1), (4, .getfield 25, 3), (7, .if_icmp .ge 57, 3)]),
  (20, [(10, .aload_n 0, 1), (11, .getfield 28, 3), (14, .iload_n 3, 1), (15, .laload, 1), (16, .aload_n 0, 1), (17, .getfield 112, 3)]),
  (30, [(20, .ldc2_w 126, 3), (23, .lxor, 1), (24, .land, 1), (25, .lconst 0, 1), (26, .lcmp, 1), (27, .ifCond .ne 31, 3)]),
  (40, [(30, .aload_n 0, 1), (31, .getfield 32, 3), (34, .iload_n 3, 1), (35, .laload, 1), (36, .aload_n 0, 1), (37, .getfield 116, 3)]),
  (50, [(40, .ldc2_w 126, 3), (43, .lxor, 1), (44, .land, 1), (45, .lconst 0, 1), (46, .lcmp, 1), (47, .ifCond .ne 11, 3)]),
  (58, [(50, .aload_n 0, 1), (51, .iload_n 1, 1), (52, .iload_n 2, 1), (53, .invokevirtual 122, 3), (56, .iconst 1, 1), (57, .ireturn, 1)]),
  (100000, [(58, .iinc 3 1, 3), (61, .goto (-59), 3), (64, .iconst 0, 1), (65, .ireturn, 1)])]
set_option maxRecDepth 100000 in
theorem xd_X4_isCovered : xchk cX4_isCovered xk_X4_isCovered = true := xchk_of (by decide +kernel)
set_option maxRecDepth 100000 in
def xk_X4_isJoinable : XT (Instr × Nat) := [(11, [(0, .aload_n 0, 1), (1, .getfield 28, 3), (4, .iload_n 1, 1), (5, .laload, 1), (6, .aload_n 0, 1), (7, .getfield 32, 3), (10, .iload_n 2, 1)]),
  (20, [(11, .laload, 1), (12, .land, 1), (13, .aload_n 0, 1), (14, .getfield 32, 3), (17, .iload_n 1, 1), (18, .laload, 1), (19, .aload_n 0, 1)]),
  (29, [(20, .getfield 28, 3), (23, .iload_n 2, 1), (24, .laload, 1), (25, .land, 1), (26, .lor, 1), (27, .lstore_n 3, 1), (28, .lload_n 3, 1)]),
  (42, [(29, .invokestatic 55, 3), (32, .iconst 1, 1), (33, .if_icmp .eq 11, 3), (36, .aload_n 0, 1), (37, .iload_n 1, 1), (38, .iload_n 2, 1), (39, .invokevirtual 122, 3)]),
  (51, [(42, .iconst 0, 1), (43, .ireturn, 1), (44, .aload_n 0, 1), (45, .aload_n 0, 1), (46, .getfield 28, 3), (49, .iload_n 1, 1), (50, .laload, 1)]),
  (62, [(51, .aload_n 0, 1), (52, .getfield 28, 3), (55, .iload_n 2, 1), (56, .laload, 1), (57, .lor, 1), (58, .lload_n 3, 1), (59, .ldc2_w 126, 3)]),
  (73, [(62, .lxor, 1), (63, .land, 1), (64, .putfield 112, 3), (67, .aload_n 0, 1), (68, .aload_n 0, 1), (69, .getfield 32, 3), (72, .iload_n 1, 1)]),
  (82, [(73, .laload, 1), (74, .aload_n 0, 1), (75, .getfield 32, 3), (78, .iload_n 2, 1), (79, .laload, 1), (80, .lor, 1), (81, .lload_n 3, 1)]),
  (100000, [(82, .ldc2_w 126, 3), (85, .lxor, 1), (86, .land, 1), (87, .putfield 116, 3), (90, .iconst 1, 1), (91, .ireturn, 1)])]
set_option maxRecDepth 100000 in
theorem xd_X4_isJoinable : xchk cX4_isJoinable xk_X4_isJoinable = true := xchk_of (by decide +kernel)
set_option maxRecDepth 100000 in
def xk_X4_isProofWrong : XT (Instr × Nat) := [(11, [(0, .iconst 0, 1), (1, .istore_n 1, 1), (2, .iload_n 1, 1), (3, .aload_n 0, 1), (4, .getfield 25, 3), (7, .if_icmp .ge 68, 3), (10, .aload_n 0, 1)]),
  (22, [(11, .getfield 38, 3), (14, .iload_n 1, 1), (15, .iaload, 1), (16, .iconst (-1), 1), (17, .if_icmp .eq 52, 3), (20, .aload_n 0, 1), (21, .aload_n 0, 1)]),
  (33, [(22, .getfield 35, 3), (25, .iload_n 1, 1), (26, .iaload, 1), (27, .aload_n 0, 1), (28, .getfield 38, 3), (31, .iload_n 1, 1), (32, .iaload, 1)]),
  (48, [(33, .invokevirtual 109, 3), (36, .ifCond .eq 31, 3), (39, .aload_n 0, 1), (40, .getfield 112, 3), (43, .aload_n 0, 1), (44, .getfield 28, 3), (47, .iload_n 1, 1)]),
  (61, [(48, .laload, 1), (49, .lcmp, 1), (50, .ifCond .ne 17, 3), (53, .aload_n 0, 1), (54, .getfield 116, 3), (57, .aload_n 0, 1), (58, .getfield 32, 3)]),
  (72, [(61, .iload_n 1, 1), (62, .laload, 1), (63, .lcmp, 1), (64, .ifCond .eq 5, 3), (67, .iconst 1, 1), (68, .ireturn, 1), (69, .iinc 1 1, 3)]),
  (87, [(72, .goto (-70), 3), (75, .aload_n 0, 1), (76, .getfield 25, 3), (79, .ifCond .le 20, 3), (82, .aload_n 0, 1), (83, .aload_n 0, 1), (84, .getfield 25, 3)]),
  (100, [(87, .iconst 1, 1), (88, .isub, 1), (89, .invokevirtual 95, 3), (92, .ifCond .eq 7, 3), (95, .iconst 1, 1), (96, .goto 4, 3), (99, .iconst 0, 1)]),
  (100000, [(100, .ireturn, 1)])]
set_option maxRecDepth 100000 in
theorem xd_X4_isProofWrong : xchk cX4_isProofWrong xk_X4_isProofWrong = true := xchk_of (by decide +kernel)
set_option maxRecDepth 100000 in
def xk_X4_isRefuted : XT (Instr × Nat) := [(13, [(0, .iconst 0, 1), (1, .istore_n 1, 1), (2, .iload_n 1, 1), (3, .aload_n 0, 1), (4, .getfield 47, 3), (7, .getfield 68, 3), (10, .if_icmp .ge 19, 3)]),
  (26, [(13, .aload_n 0, 1), (14, .getfield 51, 3), (17, .getfield 76, 3), (20, .iload_n 1, 1), (21, .iconst 0, 1), (22, .bastore, 1), (23, .iinc 1 1, 3)]),
  (40, [(26, .goto (-24), 3), (29, .aload_n 0, 1), (30, .getfield 51, 3), (33, .lconst 0, 1), (34, .bipush 12, 2), (36, .invokevirtual 79, 3), (39, .aload_n 0, 1)]),
  (51, [(40, .getfield 51, 3), (43, .lconst 0, 1), (44, .lconst 0, 1), (45, .invokevirtual 83, 3), (48, .istore_n 1, 1), (49, .iconst 0, 1), (50, .istore_n 2, 1)]),
  (66, [(51, .iload_n 2, 1), (52, .aload_n 0, 1), (53, .getfield 47, 3), (56, .getfield 68, 3), (59, .if_icmp .ge 28, 3), (62, .iload_n 1, 1), (63, .ifCond .ne 24, 3)]),
  (79, [(66, .aload_n 0, 1), (67, .getfield 21, 3), (70, .iload_n 2, 1), (71, .aload_n 0, 1), (72, .getfield 51, 3), (75, .getfield 76, 3), (78, .iload_n 2, 1)]),
  (92, [(79, .baload, 1), (80, .bastore, 1), (81, .iinc 2 1, 3), (84, .goto (-33), 3), (87, .iload_n 1, 1), (88, .ifCond .ne 7, 3), (91, .iconst 1, 1)]),
  (100000, [(92, .goto 4, 3), (95, .iconst 0, 1), (96, .ireturn, 1)])]
set_option maxRecDepth 100000 in
theorem xd_X4_isRefuted : xchk cX4_isRefuted xk_X4_isRefuted = true := xchk_of (by decide +kernel)
set_option maxRecDepth 100000 in
def xk_X4_isSpent : XT (Instr × Nat) := [(6, [(0, .aload_n 0, 1), (1, .getfield 44, 3), (4, .iload_n 2, 1), (5, .iconst 4, 1)]),
  (11, [(6, .imul, 1), (7, .iload_n 1, 1), (8, .bipush 6, 2), (10, .ishr, 1)]),
  (16, [(11, .iadd, 1), (12, .laload, 1), (13, .iload_n 1, 1), (14, .bipush 63, 2)]),
  (20, [(16, .iand, 1), (17, .lshr, 1), (18, .lconst 1, 1), (19, .land, 1)]),
  (26, [(20, .lconst 0, 1), (21, .lcmp, 1), (22, .ifCond .eq 7, 3), (25, .iconst 1, 1)]),
  (100000, [(26, .goto 4, 3), (29, .iconst 0, 1), (30, .ireturn, 1)])]
set_option maxRecDepth 100000 in
theorem xd_X4_isSpent : xchk cX4_isSpent xk_X4_isSpent = true := xchk_of (by decide +kernel)
set_option maxRecDepth 100000 in
def xk_X4_join_0 : List (Nat × Instr × Nat) := [(0, .aload_n 0, 1), (1, .aload_n 0, 1), (2, .getfield 9, 3), (5, .sipush 200, 3), (8, .if_icmp .gt 10, 3), (11, .aload_n 0, 1), (12, .getfield 9, 3), (15, .goto 4, 3), (18, .iconst (-1), 1)]
set_option maxRecDepth 100000 in
theorem xd_X4_join_0 : xchk1 cX4_join xk_X4_join_0 = true := xwalk_of 0 (by decide +kernel)
set_option maxRecDepth 100000 in
def xk_X4_join_1 : List (Nat × Instr × Nat) := [(19, .putfield 25, 3), (22, .iconst 0, 1), (23, .istore_n 1, 1), (24, .iload_n 1, 1), (25, .aload_n 0, 1), (26, .getfield 25, 3), (29, .if_icmp .ge 63, 3), (32, .aload_n 0, 1), (33, .getfield 28, 3)]
set_option maxRecDepth 100000 in
theorem xd_X4_join_1 : xchk1 cX4_join xk_X4_join_1 = true := xwalk_of 19 (by decide +kernel)
set_option maxRecDepth 100000 in
def xk_X4_join_2 : List (Nat × Instr × Nat) := [(36, .iload_n 1, 1), (37, .aload_n 0, 1), (38, .getfield 47, 3), (41, .getfield 87, 3), (44, .aload_n 0, 1), (45, .getfield 17, 3), (48, .iload_n 1, 1), (49, .iaload, 1), (50, .laload, 1)]
set_option maxRecDepth 100000 in
theorem xd_X4_join_2 : xchk1 cX4_join xk_X4_join_2 = true := xwalk_of 36 (by decide +kernel)
set_option maxRecDepth 100000 in
def xk_X4_join_3 : List (Nat × Instr × Nat) := [(51, .lastore, 1), (52, .aload_n 0, 1), (53, .getfield 32, 3), (56, .iload_n 1, 1), (57, .aload_n 0, 1), (58, .getfield 47, 3), (61, .getfield 88, 3), (64, .aload_n 0, 1), (65, .getfield 17, 3)]
set_option maxRecDepth 100000 in
theorem xd_X4_join_3 : xchk1 cX4_join xk_X4_join_3 = true := xwalk_of 51 (by decide +kernel)
set_option maxRecDepth 100000 in
def xk_X4_join_4 : List (Nat × Instr × Nat) := [(68, .iload_n 1, 1), (69, .iaload, 1), (70, .laload, 1), (71, .lastore, 1), (72, .aload_n 0, 1), (73, .getfield 35, 3), (76, .iload_n 1, 1), (77, .iconst (-1), 1), (78, .iastore, 1)]
set_option maxRecDepth 100000 in
theorem xd_X4_join_4 : xchk1 cX4_join xk_X4_join_4 = true := xwalk_of 68 (by decide +kernel)
set_option maxRecDepth 100000 in
def xk_X4_join_5 : List (Nat × Instr × Nat) := [(79, .aload_n 0, 1), (80, .getfield 38, 3), (83, .iload_n 1, 1), (84, .iconst (-1), 1), (85, .iastore, 1), (86, .iinc 1 1, 3), (89, .goto (-65), 3), (92, .aload_n 0, 1), (93, .getfield 44, 3)]
set_option maxRecDepth 100000 in
theorem xd_X4_join_5 : xchk1 cX4_join xk_X4_join_5 = true := xwalk_of 79 (by decide +kernel)
set_option maxRecDepth 100000 in
def xk_X4_join_6 : List (Nat × Instr × Nat) := [(96, .lconst 0, 1), (97, .invokestatic 89, 3), (100, .iconst 0, 1), (101, .istore_n 1, 1), (102, .iload_n 1, 1), (103, .sipush 200, 3), (106, .if_icmp .ge 41, 3), (109, .aload_n 0, 1), (110, .getfield 25, 3)]
set_option maxRecDepth 100000 in
theorem xd_X4_join_6 : xchk1 cX4_join xk_X4_join_6 = true := xwalk_of 96 (by decide +kernel)
set_option maxRecDepth 100000 in
def xk_X4_join_7 : List (Nat × Instr × Nat) := [(113, .ifCond .le 34, 3), (116, .aload_n 0, 1), (117, .aload_n 0, 1), (118, .getfield 25, 3), (121, .iconst 1, 1), (122, .isub, 1), (123, .invokevirtual 95, 3), (126, .ifCond .eq 21, 3), (129, .aload_n 0, 1)]
set_option maxRecDepth 100000 in
theorem xd_X4_join_7 : xchk1 cX4_join xk_X4_join_7 = true := xwalk_of 113 (by decide +kernel)
set_option maxRecDepth 100000 in
def xk_X4_join_8 : List (Nat × Instr × Nat) := [(130, .invokevirtual 99, 3), (133, .ifCond .ne 8, 3), (136, .aload_n 0, 1), (137, .iconst (-1), 1), (138, .putfield 25, 3), (141, .iinc 1 1, 3), (144, .goto (-42), 3), (147, .aload_n 0, 1), (148, .invokevirtual 102, 3)]
set_option maxRecDepth 100000 in
theorem xd_X4_join_8 : xchk1 cX4_join xk_X4_join_8 = true := xwalk_of 130 (by decide +kernel)
set_option maxRecDepth 100000 in
def xk_X4_join_9 : List (Nat × Instr × Nat) := [(151, .return_, 1)]
set_option maxRecDepth 100000 in
theorem xd_X4_join_9 : xchk1 cX4_join xk_X4_join_9 = true := xwalk_of 151 (by decide +kernel)
set_option maxRecDepth 100000 in
def xk_X4_join : XT (Instr × Nat) := [(19, xk_X4_join_0),
  (36, xk_X4_join_1),
  (51, xk_X4_join_2),
  (68, xk_X4_join_3),
  (79, xk_X4_join_4),
  (96, xk_X4_join_5),
  (113, xk_X4_join_6),
  (130, xk_X4_join_7),
  (151, xk_X4_join_8),
  (100000, xk_X4_join_9)]
set_option maxRecDepth 100000 in
theorem xd_X4_join : xchk cX4_join xk_X4_join = true := (xchk_cons xd_X4_join_0 (xchk_cons xd_X4_join_1 (xchk_cons xd_X4_join_2 (xchk_cons xd_X4_join_3 (xchk_cons xd_X4_join_4 (xchk_cons xd_X4_join_5 (xchk_cons xd_X4_join_6 (xchk_cons xd_X4_join_7 (xchk_cons xd_X4_join_8 (xchk_cons xd_X4_join_9 xchk_nil))))))))))
set_option maxRecDepth 100000 in
def xk_X4_literalsOf : XT (Instr × Nat) := [(6, [(0, .aload_n 0, 1), (1, .getfield 28, 3), (4, .iload_n 1, 1), (5, .laload, 1)]),
  (14, [(6, .invokestatic 55, 3), (9, .aload_n 0, 1), (10, .getfield 32, 3), (13, .iload_n 1, 1)]),
  (100000, [(14, .laload, 1), (15, .invokestatic 55, 3), (18, .iadd, 1), (19, .ireturn, 1)])]
set_option maxRecDepth 100000 in
theorem xd_X4_literalsOf : xchk cX4_literalsOf xk_X4_literalsOf = true := xchk_of (by decide +kernel)
set_option maxRecDepth 100000 in
def xk_X4_spend : XT (Instr × Nat) := [(6, [(0, .aload_n 0, 1), (1, .getfield 44, 3), (4, .iload_n 2, 1), (5, .iconst 4, 1)]),
  (11, [(6, .imul, 1), (7, .iload_n 1, 1), (8, .bipush 6, 2), (10, .ishr, 1)]),
  (15, [(11, .iadd, 1), (12, .dup2, 1), (13, .laload, 1), (14, .lconst 1, 1)]),
  (20, [(15, .iload_n 1, 1), (16, .bipush 63, 2), (18, .iand, 1), (19, .lshl, 1)]),
  (100000, [(20, .lor, 1), (21, .lastore, 1), (22, .return_, 1)])]
set_option maxRecDepth 100000 in
theorem xd_X4_spend : xchk cX4_spend xk_X4_spend = true := xchk_of (by decide +kernel)
set_option maxRecDepth 100000 in
def xk_X4_takeAll : XT (Instr × Nat) := [(4, [(0, .iconst 0, 1), (1, .istore_n 1, 1), (2, .iload_n 1, 1), (3, .aload_n 0, 1)]),
  (14, [(4, .getfield 47, 3), (7, .getfield 68, 3), (10, .if_icmp .ge 19, 3), (13, .aload_n 0, 1)]),
  (22, [(14, .getfield 51, 3), (17, .getfield 71, 3), (20, .iload_n 1, 1), (21, .iconst 0, 1)]),
  (100000, [(22, .bastore, 1), (23, .iinc 1 1, 3), (26, .goto (-24), 3), (29, .return_, 1)])]
set_option maxRecDepth 100000 in
theorem xd_X4_takeAll : xchk cX4_takeAll xk_X4_takeAll = true := xchk_of (by decide +kernel)
set_option maxRecDepth 100000 in
def xk_X5_addNextToken_0 : List (Nat × Instr × Nat) := [(0, .aload_n 0, 1), (1, .iload_n 1, 1), (2, .invokevirtual 98, 3), (5, .istore_n 3, 1), (6, .iload_n 3, 1), (7, .bipush 32, 2), (9, .if_icmp .eq 9, 3), (12, .iload_n 3, 1), (13, .bipush 10, 2), (15, .if_icmp .ne 7, 3)]
set_option maxRecDepth 100000 in
theorem xd_X5_addNextToken_0 : xchk1 cX5_addNextToken xk_X5_addNextToken_0 = true := xwalk_of 0 (by decide +kernel)
set_option maxRecDepth 100000 in
def xk_X5_addNextToken_1 : List (Nat × Instr × Nat) := [(18, .iload_n 1, 1), (19, .iconst 1, 1), (20, .iadd, 1), (21, .ireturn, 1), (22, .iload_n 3, 1), (23, .invokestatic 101, 3), (26, .ifCond .eq 66, 3), (29, .aload_n 0, 1), (30, .iload_n 1, 1), (31, .invokevirtual 104, 3)]
set_option maxRecDepth 100000 in
theorem xd_X5_addNextToken_1 : xchk1 cX5_addNextToken xk_X5_addNextToken_1 = true := xwalk_of 18 (by decide +kernel)
set_option maxRecDepth 100000 in
def xk_X5_addNextToken_2 : List (Nat × Instr × Nat) := [(34, .istore 4, 2), (36, .iload 4, 2), (38, .iconst 2, 1), (39, .if_icmp .ne 24, 3), (42, .bipush 10, 2), (44, .iload_n 3, 1), (45, .bipush 48, 2), (47, .isub, 1), (48, .imul, 1), (49, .aload_n 0, 1)]
set_option maxRecDepth 100000 in
theorem xd_X5_addNextToken_2 : xchk1 cX5_addNextToken xk_X5_addNextToken_2 = true := xwalk_of 34 (by decide +kernel)
set_option maxRecDepth 100000 in
def xk_X5_addNextToken_3 : List (Nat × Instr × Nat) := [(50, .iload_n 1, 1), (51, .iconst 1, 1), (52, .iadd, 1), (53, .invokevirtual 98, 3), (56, .iadd, 1), (57, .bipush 48, 2), (59, .isub, 1), (60, .goto 7, 3), (63, .iload_n 3, 1), (64, .bipush 48, 2)]
set_option maxRecDepth 100000 in
theorem xd_X5_addNextToken_3 : xchk1 cX5_addNextToken xk_X5_addNextToken_3 = true := xwalk_of 50 (by decide +kernel)
set_option maxRecDepth 100000 in
def xk_X5_addNextToken_4 : List (Nat × Instr × Nat) := [(66, .isub, 1), (67, .istore 5, 2), (69, .aload_n 0, 1), (70, .iload 4, 2), (72, .iconst 2, 1), (73, .if_icmp .gt 7, 3), (76, .iconst 3, 1), (77, .goto 4, 3), (80, .iconst 1, 1), (81, .iload_n 1, 1)]
set_option maxRecDepth 100000 in
theorem xd_X5_addNextToken_4 : xchk1 cX5_addNextToken xk_X5_addNextToken_4 = true := xwalk_of 66 (by decide +kernel)
set_option maxRecDepth 100000 in
def xk_X5_addNextToken_5 : List (Nat × Instr × Nat) := [(82, .iload 5, 2), (84, .invokevirtual 95, 3), (87, .iload_n 1, 1), (88, .iload 4, 2), (90, .iadd, 1), (91, .ireturn, 1), (92, .iload_n 3, 1), (93, .bipush 46, 2), (95, .if_icmp .ne 26, 3), (98, .aload_n 0, 1)]
set_option maxRecDepth 100000 in
theorem xd_X5_addNextToken_5 : xchk1 cX5_addNextToken xk_X5_addNextToken_5 = true := xwalk_of 82 (by decide +kernel)
set_option maxRecDepth 100000 in
def xk_X5_addNextToken_6 : List (Nat × Instr × Nat) := [(99, .iload_n 1, 1), (100, .iconst 1, 1), (101, .iadd, 1), (102, .invokevirtual 98, 3), (105, .bipush 46, 2), (107, .if_icmp .ne 14, 3), (110, .aload_n 0, 1), (111, .iconst 4, 1), (112, .iload_n 1, 1), (113, .iconst 0, 1)]
set_option maxRecDepth 100000 in
theorem xd_X5_addNextToken_6 : xchk1 cX5_addNextToken xk_X5_addNextToken_6 = true := xwalk_of 99 (by decide +kernel)
set_option maxRecDepth 100000 in
def xk_X5_addNextToken_7 : List (Nat × Instr × Nat) := [(114, .invokevirtual 95, 3), (117, .iload_n 1, 1), (118, .iconst 2, 1), (119, .iadd, 1), (120, .ireturn, 1), (121, .iload_n 3, 1), (122, .bipush 97, 2), (124, .if_icmp .lt 35, 3), (127, .iload_n 3, 1), (128, .bipush 108, 2)]
set_option maxRecDepth 100000 in
theorem xd_X5_addNextToken_7 : xchk1 cX5_addNextToken xk_X5_addNextToken_7 = true := xwalk_of 114 (by decide +kernel)
set_option maxRecDepth 100000 in
def xk_X5_addNextToken_8 : List (Nat × Instr × Nat) := [(130, .if_icmp .gt 29, 3), (133, .aload_n 0, 1), (134, .iload_n 3, 1), (135, .bipush 97, 2), (137, .isub, 1), (138, .iload_n 2, 1), (139, .if_icmp .ge 7, 3), (142, .iconst 2, 1), (143, .goto 4, 3), (146, .iconst 1, 1)]
set_option maxRecDepth 100000 in
theorem xd_X5_addNextToken_8 : xchk1 cX5_addNextToken xk_X5_addNextToken_8 = true := xwalk_of 130 (by decide +kernel)
set_option maxRecDepth 100000 in
def xk_X5_addNextToken_9 : List (Nat × Instr × Nat) := [(147, .iload_n 1, 1), (148, .iload_n 3, 1), (149, .bipush 97, 2), (151, .isub, 1), (152, .invokevirtual 95, 3), (155, .iload_n 1, 1), (156, .iconst 1, 1), (157, .iadd, 1), (158, .ireturn, 1), (159, .aload_n 0, 1)]
set_option maxRecDepth 100000 in
theorem xd_X5_addNextToken_9 : xchk1 cX5_addNextToken xk_X5_addNextToken_9 = true := xwalk_of 147 (by decide +kernel)
set_option maxRecDepth 100000 in
def xk_X5_addNextToken_10 : List (Nat × Instr × Nat) := [(160, .iload_n 3, 1), (161, .invokestatic 107, 3), (164, .ifCond .eq 7, 3), (167, .iload_n 3, 1), (168, .goto 4, 3), (171, .iconst 1, 1), (172, .iload_n 1, 1), (173, .iconst 0, 1), (174, .invokevirtual 95, 3), (177, .iload_n 1, 1)]
set_option maxRecDepth 100000 in
theorem xd_X5_addNextToken_10 : xchk1 cX5_addNextToken xk_X5_addNextToken_10 = true := xwalk_of 160 (by decide +kernel)
set_option maxRecDepth 100000 in
def xk_X5_addNextToken_11 : List (Nat × Instr × Nat) := [(178, .iconst 1, 1), (179, .iadd, 1), (180, .ireturn, 1)]
set_option maxRecDepth 100000 in
theorem xd_X5_addNextToken_11 : xchk1 cX5_addNextToken xk_X5_addNextToken_11 = true := xwalk_of 178 (by decide +kernel)
set_option maxRecDepth 100000 in
def xk_X5_addNextToken : XT (Instr × Nat) := [(18, xk_X5_addNextToken_0),
  (34, xk_X5_addNextToken_1),
  (50, xk_X5_addNextToken_2),
  (66, xk_X5_addNextToken_3),
  (82, xk_X5_addNextToken_4),
  (99, xk_X5_addNextToken_5),
  (114, xk_X5_addNextToken_6),
  (130, xk_X5_addNextToken_7),
  (147, xk_X5_addNextToken_8),
  (160, xk_X5_addNextToken_9),
  (178, xk_X5_addNextToken_10),
  (100000, xk_X5_addNextToken_11)]
set_option maxRecDepth 100000 in
theorem xd_X5_addNextToken : xchk cX5_addNextToken xk_X5_addNextToken = true := (xchk_cons xd_X5_addNextToken_0 (xchk_cons xd_X5_addNextToken_1 (xchk_cons xd_X5_addNextToken_2 (xchk_cons xd_X5_addNextToken_3 (xchk_cons xd_X5_addNextToken_4 (xchk_cons xd_X5_addNextToken_5 (xchk_cons xd_X5_addNextToken_6 (xchk_cons xd_X5_addNextToken_7 (xchk_cons xd_X5_addNextToken_8 (xchk_cons xd_X5_addNextToken_9 (xchk_cons xd_X5_addNextToken_10 (xchk_cons xd_X5_addNextToken_11 xchk_nil))))))))))))
set_option maxRecDepth 100000 in
def xk_X5_addToken : XT (Instr × Nat) := [(11, [(0, .aload_n 0, 1), (1, .getfield 31, 3), (4, .sipush 200, 3), (7, .if_icmp .gt 43, 3), (10, .aload_n 0, 1)]),
  (20, [(11, .getfield 22, 3), (14, .aload_n 0, 1), (15, .getfield 31, 3), (18, .iload_n 1, 1), (19, .iastore, 1)]),
  (29, [(20, .aload_n 0, 1), (21, .getfield 25, 3), (24, .aload_n 0, 1), (25, .getfield 31, 3), (28, .iload_n 2, 1)]),
  (38, [(29, .iastore, 1), (30, .aload_n 0, 1), (31, .getfield 28, 3), (34, .aload_n 0, 1), (35, .getfield 31, 3)]),
  (45, [(38, .iload_n 3, 1), (39, .iastore, 1), (40, .aload_n 0, 1), (41, .dup, 1), (42, .getfield 31, 3)]),
  (100000, [(45, .iconst 1, 1), (46, .iadd, 1), (47, .putfield 31, 3), (50, .return_, 1)])]
set_option maxRecDepth 100000 in
theorem xd_X5_addToken : xchk cX5_addToken xk_X5_addToken = true := xchk_of (by decide +kernel)
set_option maxRecDepth 100000 in
def xk_X5_byteAt : XT (Instr × Nat) := [(6, [(0, .iload_n 1, 1), (1, .ifCond .lt 27, 3), (4, .iload_n 1, 1), (5, .aload_n 0, 1)]),
  (16, [(6, .getfield 15, 3), (9, .if_icmp .ge 19, 3), (12, .iload_n 1, 1), (13, .sipush 200, 3)]),
  (24, [(16, .if_icmp .ge 12, 3), (19, .aload_n 0, 1), (20, .getfield 11, 3), (23, .iload_n 1, 1)]),
  (100000, [(24, .iaload, 1), (25, .goto 4, 3), (28, .iconst 0, 1), (29, .ireturn, 1)])]
set_option maxRecDepth 100000 in
theorem xd_X5_byteAt : xchk cX5_byteAt xk_X5_byteAt = true := xchk_of (by decide +kernel)
set_option maxRecDepth 100000 in
def xk_X5_bytesIn : XT (Instr × Nat) := [(5, [(0, .iconst 0, 1), (1, .istore_n 1, 1), (2, .bipush 24, 2), (4, .istore_n 2, 1)]),
  (11, [(5, .iload_n 2, 1), (6, .ifCond .lt 27, 3), (9, .iload_n 1, 1), (10, .iload_n 0, 1)]),
  (17, [(11, .iload_n 2, 1), (12, .iushr, 1), (13, .sipush 255, 3), (16, .iand, 1)]),
  (25, [(17, .ifCond .eq 7, 3), (20, .iconst 1, 1), (21, .goto 4, 3), (24, .iconst 0, 1)]),
  (33, [(25, .iadd, 1), (26, .istore_n 1, 1), (27, .iinc 2 (-8), 3), (30, .goto (-25), 3)]),
  (100000, [(33, .iload_n 1, 1), (34, .ireturn, 1)])]
set_option maxRecDepth 100000 in
theorem xd_X5_bytesIn : xchk cX5_bytesIn xk_X5_bytesIn = true := xchk_of (by decide +kernel)
set_option maxRecDepth 100000 in
def xk_X5_digitsFrom : XT (Instr × Nat) := [(4, [(0, .iconst 0, 1), (1, .istore_n 2, 1), (2, .iload_n 1, 1), (3, .istore_n 3, 1)]),
  (12, [(4, .iload_n 3, 1), (5, .aload_n 0, 1), (6, .getfield 15, 3), (9, .if_icmp .ge 23, 3)]),
  (20, [(12, .aload_n 0, 1), (13, .iload_n 3, 1), (14, .invokevirtual 98, 3), (17, .invokestatic 101, 3)]),
  (32, [(20, .ifCond .eq 12, 3), (23, .iinc 2 1, 3), (26, .iinc 3 1, 3), (29, .goto (-25), 3)]),
  (100000, [(32, .iload_n 2, 1), (33, .ireturn, 1)])]
set_option maxRecDepth 100000 in
theorem xd_X5_digitsFrom : xchk cX5_digitsFrom xk_X5_digitsFrom = true := xchk_of (by decide +kernel)
set_option maxRecDepth 100000 in
def xk_X5_empty : XT (Instr × Nat) := [(6, [(0, .aload_n 0, 1), (1, .getfield 15, 3), (4, .istore_n 1, 1), (5, .aload_n 0, 1)]),
  (100000, [(6, .iconst 0, 1), (7, .putfield 15, 3), (10, .iload_n 1, 1), (11, .ireturn, 1)])]
set_option maxRecDepth 100000 in
theorem xd_X5_empty : xchk cX5_empty xk_X5_empty = true := xchk_of (by decide +kernel)
set_option maxRecDepth 100000 in
def xk_X5_errorAt : XT (Instr × Nat) := [(100000, [(0, .aload_n 0, 1), (1, .getfield 19, 3), (4, .ireturn, 1)])]
set_option maxRecDepth 100000 in
theorem xd_X5_errorAt : xchk cX5_errorAt xk_X5_errorAt = true := xchk_of (by decide +kernel)
set_option maxRecDepth 100000 in
def xk_X5_findTokens : XT (Instr × Nat) := [(7, [(0, .aload_n 0, 1), (1, .iconst (-1), 1), (2, .putfield 19, 3), (5, .aload_n 0, 1), (6, .iconst 0, 1)]),
  (16, [(7, .putfield 34, 3), (10, .aload_n 0, 1), (11, .iconst 0, 1), (12, .putfield 31, 3), (15, .iconst 0, 1)]),
  (23, [(16, .istore_n 2, 1), (17, .iconst 0, 1), (18, .istore_n 3, 1), (19, .iload_n 3, 1), (20, .sipush 200, 3)]),
  (34, [(23, .if_icmp .ge 24, 3), (26, .iload_n 2, 1), (27, .aload_n 0, 1), (28, .getfield 15, 3), (31, .if_icmp .ge 16, 3)]),
  (41, [(34, .aload_n 0, 1), (35, .iload_n 2, 1), (36, .iload_n 1, 1), (37, .invokevirtual 91, 3), (40, .istore_n 2, 1)]),
  (50, [(41, .iinc 3 1, 3), (44, .goto (-25), 3), (47, .aload_n 0, 1), (48, .iconst 0, 1), (49, .aload_n 0, 1)]),
  (100000, [(50, .getfield 15, 3), (53, .iconst 0, 1), (54, .invokevirtual 95, 3), (57, .return_, 1)])]
set_option maxRecDepth 100000 in
theorem xd_X5_findTokens : xchk cX5_findTokens xk_X5_findTokens = true := xchk_of (by decide +kernel)
set_option maxRecDepth 100000 in
def xk_X5_hasRoomFor : XT (Instr × Nat) := [(6, [(0, .aload_n 0, 1), (1, .getfield 15, 3), (4, .iload_n 1, 1), (5, .iadd, 1)]),
  (16, [(6, .sipush 200, 3), (9, .if_icmp .gt 7, 3), (12, .iconst 1, 1), (13, .goto 4, 3)]),
  (100000, [(16, .iconst 0, 1), (17, .ireturn, 1)])]
set_option maxRecDepth 100000 in
theorem xd_X5_hasRoomFor : xchk cX5_hasRoomFor xk_X5_hasRoomFor = true := xchk_of (by decide +kernel)
set_option maxRecDepth 100000 in
def xk_X5_init : XT (Instr × Nat) := [(10, [(0, .aload_n 0, 1), (1, .invokespecial 3, 3), (4, .aload_n 0, 1), (5, .sipush 200, 3), (8, .newarray .int, 2)]),
  (19, [(10, .putfield 11, 3), (13, .aload_n 0, 1), (14, .iconst 0, 1), (15, .putfield 15, 3), (18, .aload_n 0, 1)]),
  (29, [(19, .iconst (-1), 1), (20, .putfield 19, 3), (23, .aload_n 0, 1), (24, .sipush 201, 3), (27, .newarray .int, 2)]),
  (41, [(29, .putfield 22, 3), (32, .aload_n 0, 1), (33, .sipush 201, 3), (36, .newarray .int, 2), (38, .putfield 25, 3)]),
  (51, [(41, .aload_n 0, 1), (42, .sipush 201, 3), (45, .newarray .int, 2), (47, .putfield 28, 3), (50, .aload_n 0, 1)]),
  (60, [(51, .iconst 0, 1), (52, .putfield 31, 3), (55, .aload_n 0, 1), (56, .iconst 0, 1), (57, .putfield 34, 3)]),
  (100000, [(60, .return_, 1)])]
set_option maxRecDepth 100000 in
theorem xd_X5_init : xchk cX5_init xk_X5_init = true := xchk_of (by decide +kernel)
set_option maxRecDepth 100000 in
def xk_X5_isDigit : XT (Instr × Nat) := [(7, [(0, .iload_n 0, 1), (1, .bipush 48, 2), (3, .if_icmp .lt 13, 3), (6, .iload_n 0, 1)]),
  (16, [(7, .bipush 57, 2), (9, .if_icmp .gt 7, 3), (12, .iconst 1, 1), (13, .goto 4, 3)]),
  (100000, [(16, .iconst 0, 1), (17, .ireturn, 1)])]
set_option maxRecDepth 100000 in
theorem xd_X5_isDigit : xchk cX5_isDigit xk_X5_isDigit = true := xchk_of (by decide +kernel)
set_option maxRecDepth 100000 in
def xk_X5_isEmptyText : XT (Instr × Nat) := [(8, [(0, .aload_n 0, 1), (1, .getfield 15, 3), (4, .ifCond .ne 8, 3), (7, .aload_n 0, 1)]),
  (16, [(8, .iconst (-1), 1), (9, .putfield 19, 3), (12, .aload_n 0, 1), (13, .getfield 15, 3)]),
  (24, [(16, .ifCond .ne 7, 3), (19, .iconst 1, 1), (20, .goto 4, 3), (23, .iconst 0, 1)]),
  (100000, [(24, .ireturn, 1)])]
set_option maxRecDepth 100000 in
theorem xd_X5_isEmptyText : xchk cX5_isEmptyText xk_X5_isEmptyText = true := xchk_of (by decide +kernel)
set_option maxRecDepth 100000 in
def xk_X5_isNext : XT (Instr × Nat) := [(8, [(0, .aload_n 0, 1), (1, .getfield 22, 3), (4, .aload_n 0, 1), (5, .getfield 34, 3)]),
  (14, [(8, .iaload, 1), (9, .iload_n 1, 1), (10, .if_icmp .ne 7, 3), (13, .iconst 1, 1)]),
  (100000, [(14, .goto 4, 3), (17, .iconst 0, 1), (18, .ireturn, 1)])]
set_option maxRecDepth 100000 in
theorem xd_X5_isNext : xchk cX5_isNext xk_X5_isNext = true := xchk_of (by decide +kernel)
set_option maxRecDepth 100000 in
def xk_X5_isSign : XT (Instr × Nat) := [(9, [(0, .iload_n 0, 1), (1, .bipush 35, 2), (3, .if_icmp .eq 40, 3), (6, .iload_n 0, 1), (7, .bipush 124, 2)]),
  (19, [(9, .if_icmp .eq 34, 3), (12, .iload_n 0, 1), (13, .bipush 44, 2), (15, .if_icmp .eq 28, 3), (18, .iload_n 0, 1)]),
  (30, [(19, .bipush 42, 2), (21, .if_icmp .eq 22, 3), (24, .iload_n 0, 1), (25, .bipush 46, 2), (27, .if_icmp .eq 16, 3)]),
  (40, [(30, .iload_n 0, 1), (31, .bipush 33, 2), (33, .if_icmp .eq 10, 3), (36, .iload_n 0, 1), (37, .invokestatic 67, 3)]),
  (100000, [(40, .ifCond .eq 7, 3), (43, .iconst 1, 1), (44, .goto 4, 3), (47, .iconst 0, 1), (48, .ireturn, 1)])]
set_option maxRecDepth 100000 in
theorem xd_X5_isSign : xchk cX5_isSign xk_X5_isSign = true := xchk_of (by decide +kernel)
set_option maxRecDepth 100000 in
def xk_X5_isSpanSign : XT (Instr × Nat) := [(7, [(0, .iload_n 0, 1), (1, .bipush 61, 2), (3, .if_icmp .eq 27, 3), (6, .iload_n 0, 1)]),
  (15, [(7, .bipush 62, 2), (9, .if_icmp .eq 21, 3), (12, .iload_n 0, 1), (13, .bipush 60, 2)]),
  (24, [(15, .if_icmp .eq 15, 3), (18, .iload_n 0, 1), (19, .bipush 94, 2), (21, .if_icmp .eq 9, 3)]),
  (31, [(24, .iload_n 0, 1), (25, .bipush 126, 2), (27, .if_icmp .ne 7, 3), (30, .iconst 1, 1)]),
  (100000, [(31, .goto 4, 3), (34, .iconst 0, 1), (35, .ireturn, 1)])]
set_option maxRecDepth 100000 in
theorem xd_X5_isSpanSign : xchk cX5_isSpanSign xk_X5_isSpanSign = true := xchk_of (by decide +kernel)
set_option maxRecDepth 100000 in
def xk_X5_length : XT (Instr × Nat) := [(100000, [(0, .aload_n 0, 1), (1, .getfield 15, 3), (4, .ireturn, 1)])]
set_option maxRecDepth 100000 in
theorem xd_X5_length : xchk cX5_length xk_X5_length = true := xchk_of (by decide +kernel)
set_option maxRecDepth 100000 in
def xk_X5_pass : XT (Instr × Nat) := [(10, [(0, .aload_n 0, 1), (1, .getfield 22, 3), (4, .aload_n 0, 1), (5, .getfield 34, 3), (8, .iaload, 1), (9, .iload_n 1, 1)]),
  (22, [(10, .if_icmp .eq 33, 3), (13, .aload_n 0, 1), (14, .aload_n 0, 1), (15, .getfield 19, 3), (18, .iconst (-1), 1), (19, .if_icmp .ne 15, 3)]),
  (34, [(22, .aload_n 0, 1), (23, .getfield 25, 3), (26, .aload_n 0, 1), (27, .getfield 34, 3), (30, .iaload, 1), (31, .goto 7, 3)]),
  (44, [(34, .aload_n 0, 1), (35, .getfield 19, 3), (38, .putfield 19, 3), (41, .iconst (-1), 1), (42, .ireturn, 1), (43, .aload_n 0, 1)]),
  (54, [(44, .getfield 28, 3), (47, .aload_n 0, 1), (48, .getfield 34, 3), (51, .iaload, 1), (52, .istore_n 2, 1), (53, .aload_n 0, 1)]),
  (66, [(54, .dup, 1), (55, .getfield 34, 3), (58, .iload_n 1, 1), (59, .ifCond .ne 7, 3), (62, .iconst 0, 1), (63, .goto 4, 3)]),
  (100000, [(66, .iconst 1, 1), (67, .iadd, 1), (68, .putfield 34, 3), (71, .iload_n 2, 1), (72, .ireturn, 1)])]
set_option maxRecDepth 100000 in
theorem xd_X5_pass : xchk cX5_pass xk_X5_pass = true := xchk_of (by decide +kernel)
set_option maxRecDepth 100000 in
def xk_X5_put : XT (Instr × Nat) := [(8, [(0, .bipush 24, 2), (2, .istore_n 2, 1), (3, .iload_n 2, 1), (4, .ifCond .lt 51, 3), (7, .iload_n 1, 1)]),
  (15, [(8, .iload_n 2, 1), (9, .iushr, 1), (10, .sipush 255, 3), (13, .iand, 1), (14, .istore_n 3, 1)]),
  (26, [(15, .iload_n 3, 1), (16, .ifCond .eq 33, 3), (19, .aload_n 0, 1), (20, .getfield 15, 3), (23, .sipush 200, 3)]),
  (37, [(26, .if_icmp .ge 23, 3), (29, .aload_n 0, 1), (30, .getfield 11, 3), (33, .aload_n 0, 1), (34, .getfield 15, 3)]),
  (44, [(37, .iload_n 3, 1), (38, .iastore, 1), (39, .aload_n 0, 1), (40, .dup, 1), (41, .getfield 15, 3)]),
  (55, [(44, .iconst 1, 1), (45, .iadd, 1), (46, .putfield 15, 3), (49, .iinc 2 (-8), 3), (52, .goto (-49), 3)]),
  (100000, [(55, .return_, 1)])]
set_option maxRecDepth 100000 in
theorem xd_X5_put : xchk cX5_put xk_X5_put = true := xchk_of (by decide +kernel)
set_option maxRecDepth 100000 in
def xk_X5_readAtom : XT (Instr × Nat) := [(12, [(0, .aload_n 0, 1), (1, .iconst 2, 1), (2, .invokevirtual 59, 3), (5, .istore_n 2, 1), (6, .iload_n 2, 1), (7, .iconst (-1), 1), (8, .if_icmp .ne 5, 3), (11, .aconst_null, 1)]),
  (27, [(12, .areturn, 1), (13, .iload_n 1, 1), (14, .ifCond .eq 16, 3), (17, .aload_n 0, 1), (18, .bipush 35, 2), (20, .invokevirtual 51, 3), (23, .ifCond .eq 7, 3), (26, .iconst 1, 1)]),
  (41, [(27, .goto 4, 3), (30, .iconst 0, 1), (31, .istore_n 3, 1), (32, .aload_n 0, 1), (33, .dup, 1), (34, .getfield 34, 3), (37, .iload_n 3, 1), (38, .ifCond .eq 7, 3)]),
  (56, [(41, .iconst 1, 1), (42, .goto 4, 3), (45, .iconst 0, 1), (46, .iadd, 1), (47, .putfield 34, 3), (50, .aload_n 0, 1), (51, .bipush 42, 2), (53, .invokevirtual 51, 3)]),
  (72, [(56, .ifCond .ne 26, 3), (59, .aload_n 0, 1), (60, .iconst 3, 1), (61, .invokevirtual 51, 3), (64, .ifCond .ne 18, 3), (67, .aload_n 0, 1), (68, .getfield 22, 3), (71, .aload_n 0, 1)]),
  (89, [(72, .getfield 34, 3), (75, .iaload, 1), (76, .invokestatic 67, 3), (79, .ifCond .eq 7, 3), (82, .iconst 1, 1), (83, .goto 4, 3), (86, .iconst 0, 1), (87, .istore 4, 2)]),
  (108, [(89, .iload 4, 2), (91, .ifCond .eq 10, 3), (94, .aload_n 0, 1), (95, .invokevirtual 63, 3), (98, .goto 6, 3), (101, .invokestatic 70, 3), (104, .astore 5, 2), (106, .aload 5, 2)]),
  (123, [(108, .ifnonnull 7, 3), (111, .aconst_null, 1), (112, .goto 14, 3), (115, .new 46, 3), (118, .dup, 1), (119, .iload_n 2, 1), (120, .iload_n 3, 1), (121, .aload 5, 2)]),
  (100000, [(123, .invokespecial 75, 3), (126, .areturn, 1)])]
set_option maxRecDepth 100000 in
theorem xd_X5_readAtom : xchk cX5_readAtom xk_X5_readAtom = true := xchk_of (by decide +kernel)
set_option maxRecDepth 100000 in
def xk_X5_readNeed : XT (Instr × Nat) := [(14, [(0, .aload_n 0, 1), (1, .iload_n 1, 1), (2, .invokevirtual 37, 3), (5, .aload_n 0, 1), (6, .iload_n 2, 1), (7, .ifCond .ne 7, 3), (10, .iconst 1, 1), (11, .goto 4, 3)]),
  (28, [(14, .iconst 0, 1), (15, .invokevirtual 41, 3), (18, .astore_n 3, 1), (19, .iload_n 2, 1), (20, .ifCond .ne 18, 3), (23, .aload_n 3, 1), (24, .ifnull 14, 3), (27, .aload_n 3, 1)]),
  (44, [(28, .getfield 45, 3), (31, .ifCond .ne 7, 3), (34, .iconst 1, 1), (35, .goto 4, 3), (38, .iconst 0, 1), (39, .istore 4, 2), (41, .aload_n 3, 1), (42, .astore 5, 2)]),
  (62, [(44, .iconst 0, 1), (45, .istore 6, 2), (47, .iload 6, 2), (49, .sipush 200, 3), (52, .if_icmp .ge 55, 3), (55, .iload 4, 2), (57, .ifCond .eq 50, 3), (60, .aload 5, 2)]),
  (79, [(62, .ifnull 45, 3), (65, .aload_n 0, 1), (66, .bipush 124, 2), (68, .invokevirtual 51, 3), (71, .ifCond .eq 36, 3), (74, .aload_n 0, 1), (75, .dup, 1), (76, .getfield 34, 3)]),
  (94, [(79, .iconst 1, 1), (80, .iadd, 1), (81, .putfield 34, 3), (84, .aload 5, 2), (86, .aload_n 0, 1), (87, .iconst 0, 1), (88, .invokevirtual 41, 3), (91, .putfield 55, 3)]),
  (112, [(94, .aload 5, 2), (96, .getfield 55, 3), (99, .astore 5, 2), (101, .iinc 6 1, 3), (104, .goto (-57), 3), (107, .aload_n 0, 1), (108, .iconst 0, 1), (109, .invokevirtual 59, 3)]),
  (126, [(112, .pop, 1), (113, .aload_n 0, 1), (114, .iconst 0, 1), (115, .putfield 15, 3), (118, .aload_n 0, 1), (119, .getfield 19, 3), (122, .iconst (-1), 1), (123, .if_icmp .ne 7, 3)]),
  (100000, [(126, .aload_n 3, 1), (127, .goto 4, 3), (130, .aconst_null, 1), (131, .areturn, 1)])]
set_option maxRecDepth 100000 in
theorem xd_X5_readNeed : xchk cX5_readNeed xk_X5_readNeed = true := xchk_of (by decide +kernel)
set_option maxRecDepth 100000 in
def xk_X5_readRange : XT (Instr × Nat) := [(8, [(0, .aload_n 0, 1), (1, .invokevirtual 78, 3), (4, .astore_n 1, 1), (5, .aload_n 1, 1), (6, .astore_n 2, 1), (7, .iconst 0, 1)]),
  (20, [(8, .istore_n 3, 1), (9, .iload_n 3, 1), (10, .sipush 200, 3), (13, .if_icmp .ge 45, 3), (16, .aload_n 2, 1), (17, .ifnull 41, 3)]),
  (31, [(20, .aload_n 0, 1), (21, .bipush 44, 2), (23, .invokevirtual 51, 3), (26, .ifCond .eq 32, 3), (29, .aload_n 0, 1), (30, .dup, 1)]),
  (41, [(31, .getfield 34, 3), (34, .iconst 1, 1), (35, .iadd, 1), (36, .putfield 34, 3), (39, .aload_n 2, 1), (40, .aload_n 0, 1)]),
  (55, [(41, .invokevirtual 78, 3), (44, .putfield 81, 3), (47, .aload_n 2, 1), (48, .getfield 81, 3), (51, .astore_n 2, 1), (52, .iinc 3 1, 3)]),
  (67, [(55, .goto (-46), 3), (58, .aload_n 2, 1), (59, .ifnonnull 7, 3), (62, .aconst_null, 1), (63, .goto 4, 3), (66, .aload_n 1, 1)]),
  (100000, [(67, .areturn, 1)])]
set_option maxRecDepth 100000 in
theorem xd_X5_readRange : xchk cX5_readRange xk_X5_readRange = true := xchk_of (by decide +kernel)
set_option maxRecDepth 100000 in
def xk_X5_readSpan_0 : List (Nat × Instr × Nat) := [(0, .aload_n 0, 1), (1, .bipush 42, 2), (3, .invokevirtual 51, 3), (6, .ifCond .eq 17, 3), (9, .aload_n 0, 1), (10, .dup, 1), (11, .getfield 34, 3), (14, .iconst 1, 1), (15, .iadd, 1)]
set_option maxRecDepth 100000 in
theorem xd_X5_readSpan_0 : xchk1 cX5_readSpan xk_X5_readSpan_0 = true := xwalk_of 0 (by decide +kernel)
set_option maxRecDepth 100000 in
def xk_X5_readSpan_1 : List (Nat × Instr × Nat) := [(16, .putfield 34, 3), (19, .invokestatic 70, 3), (22, .areturn, 1), (23, .aload_n 0, 1), (24, .getfield 22, 3), (27, .aload_n 0, 1), (28, .getfield 34, 3), (31, .iaload, 1), (32, .invokestatic 67, 3)]
set_option maxRecDepth 100000 in
theorem xd_X5_readSpan_1 : xchk1 cX5_readSpan xk_X5_readSpan_1 = true := xwalk_of 16 (by decide +kernel)
set_option maxRecDepth 100000 in
def xk_X5_readSpan_2 : List (Nat × Instr × Nat) := [(35, .istore_n 1, 1), (36, .iload_n 1, 1), (37, .ifCond .eq 15, 3), (40, .aload_n 0, 1), (41, .getfield 22, 3), (44, .aload_n 0, 1), (45, .getfield 34, 3), (48, .iaload, 1), (49, .goto 5, 3)]
set_option maxRecDepth 100000 in
theorem xd_X5_readSpan_2 : xchk1 cX5_readSpan xk_X5_readSpan_2 = true := xwalk_of 35 (by decide +kernel)
set_option maxRecDepth 100000 in
def xk_X5_readSpan_3 : List (Nat × Instr × Nat) := [(52, .bipush 61, 2), (54, .istore_n 2, 1), (55, .aload_n 0, 1), (56, .dup, 1), (57, .getfield 34, 3), (60, .iload_n 1, 1), (61, .ifCond .eq 7, 3), (64, .iconst 1, 1), (65, .goto 4, 3)]
set_option maxRecDepth 100000 in
theorem xd_X5_readSpan_3 : xchk1 cX5_readSpan xk_X5_readSpan_3 = true := xwalk_of 52 (by decide +kernel)
set_option maxRecDepth 100000 in
def xk_X5_readSpan_4 : List (Nat × Instr × Nat) := [(68, .iconst 0, 1), (69, .iadd, 1), (70, .putfield 34, 3), (73, .aload_n 0, 1), (74, .invokevirtual 84, 3), (77, .istore_n 3, 1), (78, .iload_n 3, 1), (79, .iconst (-1), 1), (80, .if_icmp .eq 15, 3)]
set_option maxRecDepth 100000 in
theorem xd_X5_readSpan_4 : xchk1 cX5_readSpan xk_X5_readSpan_4 = true := xwalk_of 68 (by decide +kernel)
set_option maxRecDepth 100000 in
def xk_X5_readSpan_5 : List (Nat × Instr × Nat) := [(83, .iload_n 1, 1), (84, .ifCond .ne 11, 3), (87, .aload_n 0, 1), (88, .iconst 4, 1), (89, .invokevirtual 51, 3), (92, .ifCond .ne 23, 3), (95, .iload_n 3, 1), (96, .iconst (-1), 1), (97, .if_icmp .ne 7, 3)]
set_option maxRecDepth 100000 in
theorem xd_X5_readSpan_5 : xchk1 cX5_readSpan xk_X5_readSpan_5 = true := xwalk_of 83 (by decide +kernel)
set_option maxRecDepth 100000 in
def xk_X5_readSpan_6 : List (Nat × Instr × Nat) := [(100, .aconst_null, 1), (101, .goto 13, 3), (104, .new 71, 3), (107, .dup, 1), (108, .iload_n 2, 1), (109, .iload_n 3, 1), (110, .iload_n 3, 1), (111, .invokespecial 88, 3), (114, .areturn, 1)]
set_option maxRecDepth 100000 in
theorem xd_X5_readSpan_6 : xchk1 cX5_readSpan xk_X5_readSpan_6 = true := xwalk_of 100 (by decide +kernel)
set_option maxRecDepth 100000 in
def xk_X5_readSpan_7 : List (Nat × Instr × Nat) := [(115, .aload_n 0, 1), (116, .getfield 25, 3), (119, .aload_n 0, 1), (120, .getfield 34, 3), (123, .iaload, 1), (124, .istore 4, 2), (126, .aload_n 0, 1), (127, .dup, 1), (128, .getfield 34, 3)]
set_option maxRecDepth 100000 in
theorem xd_X5_readSpan_7 : xchk1 cX5_readSpan xk_X5_readSpan_7 = true := xwalk_of 115 (by decide +kernel)
set_option maxRecDepth 100000 in
def xk_X5_readSpan_8 : List (Nat × Instr × Nat) := [(131, .iconst 1, 1), (132, .iadd, 1), (133, .putfield 34, 3), (136, .aload_n 0, 1), (137, .invokevirtual 84, 3), (140, .istore 5, 2), (142, .iload 5, 2), (144, .iconst (-1), 1), (145, .if_icmp .eq 15, 3)]
set_option maxRecDepth 100000 in
theorem xd_X5_readSpan_8 : xchk1 cX5_readSpan xk_X5_readSpan_8 = true := xwalk_of 131 (by decide +kernel)
set_option maxRecDepth 100000 in
def xk_X5_readSpan_9 : List (Nat × Instr × Nat) := [(148, .iload 5, 2), (150, .iload_n 3, 1), (151, .if_icmp .ge 9, 3), (154, .aload_n 0, 1), (155, .iload 4, 2), (157, .putfield 19, 3), (160, .iload 5, 2), (162, .iload_n 3, 1), (163, .if_icmp .ge 7, 3)]
set_option maxRecDepth 100000 in
theorem xd_X5_readSpan_9 : xchk1 cX5_readSpan xk_X5_readSpan_9 = true := xwalk_of 148 (by decide +kernel)
set_option maxRecDepth 100000 in
def xk_X5_readSpan_10 : List (Nat × Instr × Nat) := [(166, .aconst_null, 1), (167, .goto 15, 3), (170, .new 71, 3), (173, .dup, 1), (174, .bipush 46, 2), (176, .iload_n 3, 1), (177, .iload 5, 2), (179, .invokespecial 88, 3), (182, .areturn, 1)]
set_option maxRecDepth 100000 in
theorem xd_X5_readSpan_10 : xchk1 cX5_readSpan xk_X5_readSpan_10 = true := xwalk_of 166 (by decide +kernel)
set_option maxRecDepth 100000 in
def xk_X5_readSpan : XT (Instr × Nat) := [(16, xk_X5_readSpan_0),
  (35, xk_X5_readSpan_1),
  (52, xk_X5_readSpan_2),
  (68, xk_X5_readSpan_3),
  (83, xk_X5_readSpan_4),
  (100, xk_X5_readSpan_5),
  (115, xk_X5_readSpan_6),
  (131, xk_X5_readSpan_7),
  (148, xk_X5_readSpan_8),
  (166, xk_X5_readSpan_9),
  (100000, xk_X5_readSpan_10)]
set_option maxRecDepth 100000 in
theorem xd_X5_readSpan : xchk cX5_readSpan xk_X5_readSpan = true := (xchk_cons xd_X5_readSpan_0 (xchk_cons xd_X5_readSpan_1 (xchk_cons xd_X5_readSpan_2 (xchk_cons xd_X5_readSpan_3 (xchk_cons xd_X5_readSpan_4 (xchk_cons xd_X5_readSpan_5 (xchk_cons xd_X5_readSpan_6 (xchk_cons xd_X5_readSpan_7 (xchk_cons xd_X5_readSpan_8 (xchk_cons xd_X5_readSpan_9 (xchk_cons xd_X5_readSpan_10 xchk_nil)))))))))))
set_option maxRecDepth 100000 in
def xk_X5_readVersion_0 : List (Nat × Instr × Nat) := [(0, .aload_n 0, 1), (1, .iconst 3, 1), (2, .invokevirtual 59, 3), (5, .istore_n 1, 1), (6, .iload_n 1, 1), (7, .iconst (-1), 1), (8, .if_icmp .eq 13, 3), (11, .aload_n 0, 1), (12, .bipush 46, 2)]
set_option maxRecDepth 100000 in
theorem xd_X5_readVersion_0 : xchk1 cX5_readVersion xk_X5_readVersion_0 = true := xwalk_of 0 (by decide +kernel)
set_option maxRecDepth 100000 in
def xk_X5_readVersion_1 : List (Nat × Instr × Nat) := [(14, .invokevirtual 59, 3), (17, .iconst (-1), 1), (18, .if_icmp .ne 5, 3), (21, .iconst (-1), 1), (22, .ireturn, 1), (23, .aload_n 0, 1), (24, .iconst 3, 1), (25, .invokevirtual 59, 3), (28, .istore_n 2, 1)]
set_option maxRecDepth 100000 in
theorem xd_X5_readVersion_1 : xchk1 cX5_readVersion xk_X5_readVersion_1 = true := xwalk_of 14 (by decide +kernel)
set_option maxRecDepth 100000 in
def xk_X5_readVersion_2 : List (Nat × Instr × Nat) := [(29, .iload_n 2, 1), (30, .iconst (-1), 1), (31, .if_icmp .eq 12, 3), (34, .aload_n 0, 1), (35, .bipush 33, 2), (37, .invokevirtual 51, 3), (40, .ifCond .ne 26, 3), (43, .iload_n 2, 1), (44, .iconst (-1), 1)]
set_option maxRecDepth 100000 in
theorem xd_X5_readVersion_2 : xchk1 cX5_readVersion xk_X5_readVersion_2 = true := xwalk_of 29 (by decide +kernel)
set_option maxRecDepth 100000 in
def xk_X5_readVersion_3 : List (Nat × Instr × Nat) := [(45, .if_icmp .ne 7, 3), (48, .iconst (-1), 1), (49, .goto 16, 3), (52, .sipush 10000, 3), (55, .iload_n 1, 1), (56, .imul, 1), (57, .bipush 100, 2), (59, .iload_n 2, 1), (60, .imul, 1)]
set_option maxRecDepth 100000 in
theorem xd_X5_readVersion_3 : xchk1 cX5_readVersion xk_X5_readVersion_3 = true := xwalk_of 45 (by decide +kernel)
set_option maxRecDepth 100000 in
def xk_X5_readVersion_4 : List (Nat × Instr × Nat) := [(61, .iadd, 1), (62, .bipush 99, 2), (64, .iadd, 1), (65, .ireturn, 1), (66, .aload_n 0, 1), (67, .dup, 1), (68, .getfield 34, 3), (71, .iconst 1, 1), (72, .iadd, 1)]
set_option maxRecDepth 100000 in
theorem xd_X5_readVersion_4 : xchk1 cX5_readVersion xk_X5_readVersion_4 = true := xwalk_of 61 (by decide +kernel)
set_option maxRecDepth 100000 in
def xk_X5_readVersion_5 : List (Nat × Instr × Nat) := [(73, .putfield 34, 3), (76, .aload_n 0, 1), (77, .iconst 3, 1), (78, .invokevirtual 51, 3), (81, .ifCond .eq 40, 3), (84, .aload_n 0, 1), (85, .getfield 28, 3), (88, .aload_n 0, 1), (89, .getfield 34, 3)]
set_option maxRecDepth 100000 in
theorem xd_X5_readVersion_5 : xchk1 cX5_readVersion xk_X5_readVersion_5 = true := xwalk_of 73 (by decide +kernel)
set_option maxRecDepth 100000 in
def xk_X5_readVersion_6 : List (Nat × Instr × Nat) := [(92, .iaload, 1), (93, .iconst 1, 1), (94, .if_icmp .lt 17, 3), (97, .aload_n 0, 1), (98, .getfield 28, 3), (101, .aload_n 0, 1), (102, .getfield 34, 3), (105, .iaload, 1), (106, .bipush 98, 2)]
set_option maxRecDepth 100000 in
theorem xd_X5_readVersion_6 : xchk1 cX5_readVersion xk_X5_readVersion_6 = true := xwalk_of 92 (by decide +kernel)
set_option maxRecDepth 100000 in
def xk_X5_readVersion_7 : List (Nat × Instr × Nat) := [(108, .if_icmp .le 13, 3), (111, .aload_n 0, 1), (112, .getfield 22, 3), (115, .aload_n 0, 1), (116, .getfield 34, 3), (119, .iconst 1, 1), (120, .iastore, 1), (121, .aload_n 0, 1), (122, .iconst 3, 1)]
set_option maxRecDepth 100000 in
theorem xd_X5_readVersion_7 : xchk1 cX5_readVersion xk_X5_readVersion_7 = true := xwalk_of 108 (by decide +kernel)
set_option maxRecDepth 100000 in
def xk_X5_readVersion_8 : List (Nat × Instr × Nat) := [(123, .invokevirtual 59, 3), (126, .istore_n 3, 1), (127, .iload_n 3, 1), (128, .iconst (-1), 1), (129, .if_icmp .ne 7, 3), (132, .iconst (-1), 1), (133, .goto 15, 3), (136, .sipush 10000, 3), (139, .iload_n 1, 1)]
set_option maxRecDepth 100000 in
theorem xd_X5_readVersion_8 : xchk1 cX5_readVersion xk_X5_readVersion_8 = true := xwalk_of 123 (by decide +kernel)
set_option maxRecDepth 100000 in
def xk_X5_readVersion_9 : List (Nat × Instr × Nat) := [(140, .imul, 1), (141, .bipush 100, 2), (143, .iload_n 2, 1), (144, .imul, 1), (145, .iadd, 1), (146, .iload_n 3, 1), (147, .iadd, 1), (148, .ireturn, 1)]
set_option maxRecDepth 100000 in
theorem xd_X5_readVersion_9 : xchk1 cX5_readVersion xk_X5_readVersion_9 = true := xwalk_of 140 (by decide +kernel)
set_option maxRecDepth 100000 in
def xk_X5_readVersion : XT (Instr × Nat) := [(14, xk_X5_readVersion_0),
  (29, xk_X5_readVersion_1),
  (45, xk_X5_readVersion_2),
  (61, xk_X5_readVersion_3),
  (73, xk_X5_readVersion_4),
  (92, xk_X5_readVersion_5),
  (108, xk_X5_readVersion_6),
  (123, xk_X5_readVersion_7),
  (140, xk_X5_readVersion_8),
  (100000, xk_X5_readVersion_9)]
set_option maxRecDepth 100000 in
theorem xd_X5_readVersion : xchk cX5_readVersion xk_X5_readVersion = true := (xchk_cons xd_X5_readVersion_0 (xchk_cons xd_X5_readVersion_1 (xchk_cons xd_X5_readVersion_2 (xchk_cons xd_X5_readVersion_3 (xchk_cons xd_X5_readVersion_4 (xchk_cons xd_X5_readVersion_5 (xchk_cons xd_X5_readVersion_6 (xchk_cons xd_X5_readVersion_7 (xchk_cons xd_X5_readVersion_8 (xchk_cons xd_X5_readVersion_9 xchk_nil))))))))))
set_option maxRecDepth 100000 in
def xk_X5_readWholeRange : XT (Instr × Nat) := [(6, [(0, .aload_n 0, 1), (1, .iload_n 1, 1), (2, .invokevirtual 37, 3), (5, .aload_n 0, 1)]),
  (12, [(6, .invokevirtual 63, 3), (9, .astore_n 2, 1), (10, .aload_n 0, 1), (11, .iconst 0, 1)]),
  (18, [(12, .invokevirtual 59, 3), (15, .pop, 1), (16, .aload_n 0, 1), (17, .iconst 0, 1)]),
  (26, [(18, .putfield 15, 3), (21, .aload_n 0, 1), (22, .getfield 19, 3), (25, .iconst (-1), 1)]),
  (34, [(26, .if_icmp .ne 7, 3), (29, .aload_n 2, 1), (30, .goto 4, 3), (33, .aconst_null, 1)]),
  (100000, [(34, .areturn, 1)])]
set_option maxRecDepth 100000 in
theorem xd_X5_readWholeRange : xchk cX5_readWholeRange xk_X5_readWholeRange = true := xchk_of (by decide +kernel)
set_option maxRecDepth 100000 in
def xk_X6_addWish : XT (Instr × Nat) := [(6, [(0, .aload_n 0, 1), (1, .getfield 9, 3), (4, .istore_n 2, 1), (5, .aload_n 0, 1)]),
  (12, [(6, .getfield 17, 3), (9, .iload_n 2, 1), (10, .aload_n 1, 1), (11, .aastore, 1)]),
  (18, [(12, .aload_n 0, 1), (13, .dup, 1), (14, .getfield 9, 3), (17, .iconst 1, 1)]),
  (100000, [(18, .iadd, 1), (19, .putfield 9, 3), (22, .iload_n 2, 1), (23, .ireturn, 1)])]
set_option maxRecDepth 100000 in
theorem xd_X6_addWish : xchk cX6_addWish xk_X6_addWish = true := xchk_of (by decide +kernel)
set_option maxRecDepth 100000 in
def xk_X6_copyFrom : XT (Instr × Nat) := [(13, [(0, .aload_n 0, 1), (1, .aload_n 1, 1), (2, .getfield 9, 3), (5, .putfield 9, 3), (8, .iconst 0, 1), (9, .istore_n 2, 1), (10, .iload_n 2, 1), (11, .bipush 8, 2)]),
  (27, [(13, .if_icmp .ge 21, 3), (16, .aload_n 0, 1), (17, .getfield 17, 3), (20, .iload_n 2, 1), (21, .aload_n 1, 1), (22, .getfield 17, 3), (25, .iload_n 2, 1), (26, .aaload, 1)]),
  (43, [(27, .aastore, 1), (28, .iinc 2 1, 3), (31, .goto (-21), 3), (34, .aload_n 0, 1), (35, .aload_n 1, 1), (36, .getfield 21, 3), (39, .putfield 21, 3), (42, .iconst 0, 1)]),
  (56, [(43, .istore_n 2, 1), (44, .iload_n 2, 1), (45, .bipush 12, 2), (47, .if_icmp .ge 21, 3), (50, .aload_n 0, 1), (51, .getfield 26, 3), (54, .iload_n 2, 1), (55, .aload_n 1, 1)]),
  (70, [(56, .getfield 26, 3), (59, .iload_n 2, 1), (60, .aaload, 1), (61, .aastore, 1), (62, .iinc 2 1, 3), (65, .goto (-21), 3), (68, .aload_n 0, 1), (69, .aload_n 1, 1)]),
  (86, [(70, .getfield 31, 3), (73, .putfield 31, 3), (76, .aload_n 0, 1), (77, .aload_n 1, 1), (78, .getfield 34, 3), (81, .putfield 34, 3), (84, .aload_n 0, 1), (85, .aload_n 1, 1)]),
  (104, [(86, .getfield 38, 3), (89, .putfield 38, 3), (92, .aload_n 0, 1), (93, .aload_n 1, 1), (94, .getfield 41, 3), (97, .putfield 41, 3), (100, .aload_n 1, 1), (101, .getfield 44, 3)]),
  (117, [(104, .iconst 0, 1), (105, .aload_n 0, 1), (106, .getfield 44, 3), (109, .iconst 0, 1), (110, .bipush 20, 2), (112, .invokestatic 57, 3), (115, .aload_n 0, 1), (116, .aload_n 1, 1)]),
  (100000, [(117, .getfield 48, 3), (120, .aload_n 1, 1), (121, .getfield 51, 3), (124, .aload_n 1, 1), (125, .getfield 54, 3), (128, .invokevirtual 63, 3), (131, .return_, 1)])]
set_option maxRecDepth 100000 in
theorem xd_X6_copyFrom : xchk cX6_copyFrom xk_X6_copyFrom = true := xchk_of (by decide +kernel)
set_option maxRecDepth 100000 in
def xk_X6_entryAt : XT (Instr × Nat) := [(7, [(0, .aload_n 0, 1), (1, .getfield 44, 3), (4, .iload_n 1, 1), (5, .bipush 20, 2)]),
  (100000, [(7, .invokestatic 67, 3), (10, .laload, 1), (11, .lreturn, 1)])]
set_option maxRecDepth 100000 in
theorem xd_X6_entryAt : xchk cX6_entryAt xk_X6_entryAt = true := xchk_of (by decide +kernel)
set_option maxRecDepth 100000 in
def xk_X6_init : XT (Instr × Nat) := [(10, [(0, .aload_n 0, 1), (1, .invokespecial 3, 3), (4, .aload_n 0, 1), (5, .iconst 0, 1), (6, .putfield 9, 3), (9, .aload_n 0, 1)]),
  (23, [(10, .bipush 8, 2), (12, .anewarray 15, 3), (15, .putfield 17, 3), (18, .aload_n 0, 1), (19, .iconst 0, 1), (20, .putfield 21, 3)]),
  (35, [(23, .aload_n 0, 1), (24, .bipush 12, 2), (26, .anewarray 24, 3), (29, .putfield 26, 3), (32, .aload_n 0, 1), (33, .ldc 30, 2)]),
  (45, [(35, .putfield 31, 3), (38, .aload_n 0, 1), (39, .lconst 0, 1), (40, .putfield 34, 3), (43, .aload_n 0, 1), (44, .lconst 0, 1)]),
  (56, [(45, .putfield 38, 3), (48, .aload_n 0, 1), (49, .iconst 0, 1), (50, .putfield 41, 3), (53, .aload_n 0, 1), (54, .bipush 20, 2)]),
  (67, [(56, .newarray .long, 2), (58, .putfield 44, 3), (61, .aload_n 0, 1), (62, .iconst (-1), 1), (63, .putfield 48, 3), (66, .aload_n 0, 1)]),
  (100000, [(67, .iconst (-1), 1), (68, .putfield 51, 3), (71, .aload_n 0, 1), (72, .iconst (-1), 1), (73, .putfield 54, 3), (76, .return_, 1)])]
set_option maxRecDepth 100000 in
theorem xd_X6_init : xchk cX6_init xk_X6_init = true := xchk_of (by decide +kernel)
set_option maxRecDepth 100000 in
def xk_X6_isKept : XT (Instr × Nat) := [(6, [(0, .iload_n 1, 1), (1, .ifCond .lt 26, 3), (4, .iload_n 1, 1), (5, .aload_n 0, 1)]),
  (14, [(6, .getfield 41, 3), (9, .if_icmp .ge 18, 3), (12, .iload_n 1, 1), (13, .aload_n 0, 1)]),
  (23, [(14, .getfield 41, 3), (17, .bipush 20, 2), (19, .isub, 1), (20, .if_icmp .lt 7, 3)]),
  (100000, [(23, .iconst 1, 1), (24, .goto 4, 3), (27, .iconst 0, 1), (28, .ireturn, 1)])]
set_option maxRecDepth 100000 in
theorem xd_X6_isKept : xchk cX6_isKept xk_X6_isKept = true := xchk_of (by decide +kernel)
set_option maxRecDepth 100000 in
def xk_X6_keepEntry : XT (Instr × Nat) := [(8, [(0, .aload_n 0, 1), (1, .getfield 44, 3), (4, .aload_n 0, 1), (5, .getfield 41, 3)]),
  (17, [(8, .bipush 20, 2), (10, .invokestatic 67, 3), (13, .aload_n 0, 1), (14, .getfield 38, 3)]),
  (23, [(17, .lastore, 1), (18, .aload_n 0, 1), (19, .dup, 1), (20, .getfield 41, 3)]),
  (100000, [(23, .iconst 1, 1), (24, .iadd, 1), (25, .putfield 41, 3), (28, .return_, 1)])]
set_option maxRecDepth 100000 in
theorem xd_X6_keepEntry : xchk cX6_keepEntry xk_X6_keepEntry = true := xchk_of (by decide +kernel)
set_option maxRecDepth 100000 in
def xk_X6_pinCount : XT (Instr × Nat) := [(4, [(0, .iconst 0, 1), (1, .istore_n 1, 1), (2, .iconst 0, 1), (3, .istore_n 2, 1)]),
  (11, [(4, .iload_n 2, 1), (5, .bipush 12, 2), (7, .if_icmp .ge 26, 3), (10, .iload_n 1, 1)]),
  (17, [(11, .aload_n 0, 1), (12, .getfield 26, 3), (15, .iload_n 2, 1), (16, .aaload, 1)]),
  (25, [(17, .ifnull 7, 3), (20, .iconst 1, 1), (21, .goto 4, 3), (24, .iconst 0, 1)]),
  (33, [(25, .iadd, 1), (26, .istore_n 1, 1), (27, .iinc 2 1, 3), (30, .goto (-26), 3)]),
  (100000, [(33, .iload_n 1, 1), (34, .ireturn, 1)])]
set_option maxRecDepth 100000 in
theorem xd_X6_pinCount : xchk cX6_pinCount xk_X6_pinCount = true := xchk_of (by decide +kernel)
set_option maxRecDepth 100000 in
def xk_X6_tellFailure : XT (Instr × Nat) := [(6, [(0, .aload_n 0, 1), (1, .iload_n 1, 1), (2, .putfield 48, 3), (5, .aload_n 0, 1)]),
  (12, [(6, .iload_n 2, 1), (7, .putfield 51, 3), (10, .aload_n 0, 1), (11, .iload_n 3, 1)]),
  (100000, [(12, .putfield 54, 3), (15, .return_, 1)])]
set_option maxRecDepth 100000 in
theorem xd_X6_tellFailure : xchk cX6_tellFailure xk_X6_tellFailure = true := xchk_of (by decide +kernel)
set_option maxRecDepth 100000 in
def xk_X6_wishesLeft : XT (Instr × Nat) := [(4, [(0, .iconst 0, 1), (1, .istore_n 1, 1), (2, .iconst 0, 1), (3, .istore_n 2, 1)]),
  (12, [(4, .iload_n 2, 1), (5, .aload_n 0, 1), (6, .getfield 9, 3), (9, .if_icmp .ge 26, 3)]),
  (18, [(12, .iload_n 1, 1), (13, .aload_n 0, 1), (14, .getfield 17, 3), (17, .iload_n 2, 1)]),
  (26, [(18, .aaload, 1), (19, .ifnull 7, 3), (22, .iconst 1, 1), (23, .goto 4, 3)]),
  (32, [(26, .iconst 0, 1), (27, .iadd, 1), (28, .istore_n 1, 1), (29, .iinc 2 1, 3)]),
  (100000, [(32, .goto (-28), 3), (35, .iload_n 1, 1), (36, .ireturn, 1)])]
set_option maxRecDepth 100000 in
theorem xd_X6_wishesLeft : xchk cX6_wishesLeft xk_X6_wishesLeft = true := xchk_of (by decide +kernel)
set_option maxRecDepth 100000 in
def xk_X7_back : XT (Instr × Nat) := [(15, [(0, .aload_n 0, 1), (1, .getfield 47, 3), (4, .iload_n 1, 1), (5, .if_icmp .le 67, 3), (8, .aload_n 0, 1), (9, .getfield 47, 3), (12, .ifCond .le 60, 3)]),
  (28, [(15, .aload_n 0, 1), (16, .dup, 1), (17, .getfield 41, 3), (20, .aload_n 0, 1), (21, .getfield 50, 3), (24, .aload_n 0, 1), (25, .getfield 47, 3)]),
  (39, [(28, .laload, 1), (29, .ldc2_w 115, 3), (32, .lxor, 1), (33, .land, 1), (34, .putfield 41, 3), (37, .aload_n 0, 1), (38, .dup, 1)]),
  (54, [(39, .getfield 44, 3), (42, .aload_n 0, 1), (43, .getfield 50, 3), (46, .aload_n 0, 1), (47, .getfield 47, 3), (50, .laload, 1), (51, .ldc2_w 115, 3)]),
  (65, [(54, .lxor, 1), (55, .land, 1), (56, .putfield 44, 3), (59, .aload_n 0, 1), (60, .dup, 1), (61, .getfield 47, 3), (64, .iconst 1, 1)]),
  (78, [(65, .isub, 1), (66, .putfield 47, 3), (69, .goto (-69), 3), (72, .aload_n 0, 1), (73, .aload_n 0, 1), (74, .getfield 57, 3), (77, .aload_n 0, 1)]),
  (95, [(78, .getfield 41, 3), (81, .aload_n 0, 1), (82, .getfield 44, 3), (85, .lor, 1), (86, .invokestatic 135, 3), (89, .invokestatic 141, 3), (92, .putfield 57, 3)]),
  (100000, [(95, .return_, 1)])]
set_option maxRecDepth 100000 in
theorem xd_X7_back : xchk cX7_back xk_X7_back = true := xchk_of (by decide +kernel)
set_option maxRecDepth 100000 in
def xk_X7_canHold_0 : List (Nat × Instr × Nat) := [(0, .aload_n 0, 1), (1, .iconst 0, 1), (2, .invokevirtual 147, 3), (5, .aload_n 0, 1), (6, .iconst 0, 1), (7, .putfield 57, 3), (10, .lload_n 1, 1), (11, .lload_n 3, 1), (12, .land, 1), (13, .lconst 0, 1)]
set_option maxRecDepth 100000 in
theorem xd_X7_canHold_0 : xchk1 cX7_canHold xk_X7_canHold_0 = true := xwalk_of 0 (by decide +kernel)
set_option maxRecDepth 100000 in
def xk_X7_canHold_1 : List (Nat × Instr × Nat) := [(14, .lcmp, 1), (15, .ifCond .ne 10, 3), (18, .aload_n 0, 1), (19, .invokevirtual 150, 3), (22, .ifCond .eq 5, 3), (25, .iconst 0, 1), (26, .ireturn, 1), (27, .lconst 0, 1), (28, .lstore 5, 2), (30, .lload 5, 2)]
set_option maxRecDepth 100000 in
theorem xd_X7_canHold_1 : xchk1 cX7_canHold xk_X7_canHold_1 = true := xwalk_of 14 (by decide +kernel)
set_option maxRecDepth 100000 in
def xk_X7_canHold_2 : List (Nat × Instr × Nat) := [(32, .ldc2_w 154, 3), (35, .lcmp, 1), (36, .ifCond .ge 161, 3), (39, .aload_n 0, 1), (40, .invokevirtual 156, 3), (43, .istore 7, 2), (45, .iload 7, 2), (47, .iconst (-1), 1), (48, .if_icmp .eq 57, 3), (51, .aload_n 0, 1)]
set_option maxRecDepth 100000 in
theorem xd_X7_canHold_2 : xchk1 cX7_canHold xk_X7_canHold_2 = true := xwalk_of 32 (by decide +kernel)
set_option maxRecDepth 100000 in
def xk_X7_canHold_3 : List (Nat × Instr × Nat) := [(52, .iload 7, 2), (54, .invokevirtual 160, 3), (57, .aload_n 0, 1), (58, .getfield 47, 3), (61, .iconst 2, 1), (62, .if_icmp .ge 5, 3), (65, .iconst 0, 1), (66, .ireturn, 1), (67, .aload_n 0, 1), (68, .aload_n 0, 1)]
set_option maxRecDepth 100000 in
theorem xd_X7_canHold_3 : xchk1 cX7_canHold xk_X7_canHold_3 = true := xwalk_of 52 (by decide +kernel)
set_option maxRecDepth 100000 in
def xk_X7_canHold_4 : List (Nat × Instr × Nat) := [(69, .invokevirtual 163, 3), (72, .invokevirtual 147, 3), (75, .aload_n 0, 1), (76, .getfield 38, 3), (79, .aload_n 0, 1), (80, .getfield 35, 3), (83, .sipush 160, 3), (86, .iadd, 1), (87, .if_icmp .lt 11, 3), (90, .aload_n 0, 1)]
set_option maxRecDepth 100000 in
theorem xd_X7_canHold_4 : xchk1 cX7_canHold xk_X7_canHold_4 = true := xwalk_of 69 (by decide +kernel)
set_option maxRecDepth 100000 in
def xk_X7_canHold_5 : List (Nat × Instr × Nat) := [(91, .invokevirtual 166, 3), (94, .aload_n 0, 1), (95, .invokevirtual 109, 3), (98, .aload_n 0, 1), (99, .invokevirtual 169, 3), (102, .goto 86, 3), (105, .aload_n 0, 1), (106, .getfield 47, 3), (109, .ifCond .ne 54, 3), (112, .lload_n 1, 1)]
set_option maxRecDepth 100000 in
theorem xd_X7_canHold_5 : xchk1 cX7_canHold xk_X7_canHold_5 = true := xwalk_of 91 (by decide +kernel)
set_option maxRecDepth 100000 in
def xk_X7_canHold_6 : List (Nat × Instr × Nat) := [(113, .aload_n 0, 1), (114, .getfield 44, 3), (117, .land, 1), (118, .lload_n 3, 1), (119, .aload_n 0, 1), (120, .getfield 41, 3), (123, .land, 1), (124, .lor, 1), (125, .lconst 0, 1), (126, .lcmp, 1)]
set_option maxRecDepth 100000 in
theorem xd_X7_canHold_6 : xchk1 cX7_canHold xk_X7_canHold_6 = true := xwalk_of 113 (by decide +kernel)
set_option maxRecDepth 100000 in
def xk_X7_canHold_7 : List (Nat × Instr × Nat) := [(127, .ifCond .eq 5, 3), (130, .iconst 0, 1), (131, .ireturn, 1), (132, .aload_n 0, 1), (133, .invokevirtual 172, 3), (136, .aload_n 0, 1), (137, .lload_n 1, 1), (138, .aload_n 0, 1), (139, .getfield 41, 3), (142, .ldc2_w 115, 3)]
set_option maxRecDepth 100000 in
theorem xd_X7_canHold_7 : xchk1 cX7_canHold xk_X7_canHold_7 = true := xwalk_of 127 (by decide +kernel)
set_option maxRecDepth 100000 in
def xk_X7_canHold_8 : List (Nat × Instr × Nat) := [(145, .lxor, 1), (146, .land, 1), (147, .lload_n 3, 1), (148, .aload_n 0, 1), (149, .getfield 44, 3), (152, .ldc2_w 115, 3), (155, .lxor, 1), (156, .land, 1), (157, .invokevirtual 175, 3), (160, .goto 28, 3)]
set_option maxRecDepth 100000 in
theorem xd_X7_canHold_8 : xchk1 cX7_canHold xk_X7_canHold_8 = true := xwalk_of 145 (by decide +kernel)
set_option maxRecDepth 100000 in
def xk_X7_canHold_9 : List (Nat × Instr × Nat) := [(163, .aload_n 0, 1), (164, .invokevirtual 179, 3), (167, .istore 8, 2), (169, .iload 8, 2), (171, .iconst (-1), 1), (172, .if_icmp .ne 5, 3), (175, .iconst 1, 1), (176, .ireturn, 1), (177, .aload_n 0, 1), (178, .invokevirtual 172, 3)]
set_option maxRecDepth 100000 in
theorem xd_X7_canHold_9 : xchk1 cX7_canHold xk_X7_canHold_9 = true := xwalk_of 163 (by decide +kernel)
set_option maxRecDepth 100000 in
def xk_X7_canHold_10 : List (Nat × Instr × Nat) := [(181, .aload_n 0, 1), (182, .iload 8, 2), (184, .iconst (-1), 1), (185, .invokevirtual 132, 3), (188, .lload 5, 2), (190, .lconst 1, 1), (191, .ladd, 1), (192, .lstore 5, 2), (194, .goto (-164), 3), (197, .iconst 0, 1)]
set_option maxRecDepth 100000 in
theorem xd_X7_canHold_10 : xchk1 cX7_canHold xk_X7_canHold_10 = true := xwalk_of 181 (by decide +kernel)
set_option maxRecDepth 100000 in
def xk_X7_canHold_11 : List (Nat × Instr × Nat) := [(198, .ireturn, 1)]
set_option maxRecDepth 100000 in
theorem xd_X7_canHold_11 : xchk1 cX7_canHold xk_X7_canHold_11 = true := xwalk_of 198 (by decide +kernel)
set_option maxRecDepth 100000 in
def xk_X7_canHold : XT (Instr × Nat) := [(14, xk_X7_canHold_0),
  (32, xk_X7_canHold_1),
  (52, xk_X7_canHold_2),
  (69, xk_X7_canHold_3),
  (91, xk_X7_canHold_4),
  (113, xk_X7_canHold_5),
  (127, xk_X7_canHold_6),
  (145, xk_X7_canHold_7),
  (163, xk_X7_canHold_8),
  (181, xk_X7_canHold_9),
  (198, xk_X7_canHold_10),
  (100000, xk_X7_canHold_11)]
set_option maxRecDepth 100000 in
theorem xd_X7_canHold : xchk cX7_canHold xk_X7_canHold = true := (xchk_cons xd_X7_canHold_0 (xchk_cons xd_X7_canHold_1 (xchk_cons xd_X7_canHold_2 (xchk_cons xd_X7_canHold_3 (xchk_cons xd_X7_canHold_4 (xchk_cons xd_X7_canHold_5 (xchk_cons xd_X7_canHold_6 (xchk_cons xd_X7_canHold_7 (xchk_cons xd_X7_canHold_8 (xchk_cons xd_X7_canHold_9 (xchk_cons xd_X7_canHold_10 (xchk_cons xd_X7_canHold_11 xchk_nil))))))))))))
