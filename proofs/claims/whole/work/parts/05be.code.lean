/-! printed by gen_tab.py: code tables -/
set_option maxRecDepth 100000 in
def xk_X14_mergeLocks_0 : List (Nat × Instr × Nat) := [(0, .aload_n 0, 1), (1, .iconst 0, 1), (2, .putfield 134, 3), (5, .aload_n 0, 1), (6, .iload_n 1, 1), (7, .invokestatic 533, 3), (10, .ifCond .eq 14, 3), (13, .iload_n 2, 1), (14, .invokestatic 533, 3)]
set_option maxRecDepth 100000 in
theorem xd_X14_mergeLocks_0 : xchk1 cX14_mergeLocks xk_X14_mergeLocks_0 = true := xwalk_of 0 (by decide +kernel)
set_option maxRecDepth 100000 in
def xk_X14_mergeLocks_1 : List (Nat × Instr × Nat) := [(17, .ifCond .eq 7, 3), (20, .iconst 1, 1), (21, .goto 4, 3), (24, .iconst 0, 1), (25, .iconst 1, 1), (26, .invokevirtual 180, 3), (29, .ifCond .eq 5, 3), (32, .iconst 0, 1), (33, .ireturn, 1)]
set_option maxRecDepth 100000 in
theorem xd_X14_mergeLocks_1 : xchk1 cX14_mergeLocks xk_X14_mergeLocks_1 = true := xwalk_of 17 (by decide +kernel)
set_option maxRecDepth 100000 in
def xk_X14_mergeLocks_2 : List (Nat × Instr × Nat) := [(34, .aload_n 0, 1), (35, .invokevirtual 411, 3), (38, .aload_n 0, 1), (39, .sipush 1678, 3), (42, .bipush 12, 2), (44, .iload_n 1, 1), (45, .imul, 1), (46, .iadd, 1), (47, .invokevirtual 286, 3)]
set_option maxRecDepth 100000 in
theorem xd_X14_mergeLocks_2 : xchk1 cX14_mergeLocks xk_X14_mergeLocks_2 = true := xwalk_of 34 (by decide +kernel)
set_option maxRecDepth 100000 in
def xk_X14_mergeLocks_3 : List (Nat × Instr × Nat) := [(50, .astore_n 3, 1), (51, .aload_n 0, 1), (52, .sipush 1678, 3), (55, .bipush 12, 2), (57, .iload_n 2, 1), (58, .imul, 1), (59, .iadd, 1), (60, .invokevirtual 286, 3), (63, .astore 4, 2)]
set_option maxRecDepth 100000 in
theorem xd_X14_mergeLocks_3 : xchk1 cX14_mergeLocks xk_X14_mergeLocks_3 = true := xwalk_of 50 (by decide +kernel)
set_option maxRecDepth 100000 in
def xk_X14_mergeLocks_4 : List (Nat × Instr × Nat) := [(65, .bipush 12, 2), (67, .newarray .int, 2), (69, .astore 5, 2), (71, .iconst 0, 1), (72, .istore 6, 2), (74, .iload 6, 2), (76, .bipush 12, 2), (78, .if_icmp .ge 87, 3), (81, .aload_n 3, 1)]
set_option maxRecDepth 100000 in
theorem xd_X14_mergeLocks_4 : xchk1 cX14_mergeLocks xk_X14_mergeLocks_4 = true := xwalk_of 65 (by decide +kernel)
set_option maxRecDepth 100000 in
def xk_X14_mergeLocks_5 : List (Nat × Instr × Nat) := [(82, .iload 6, 2), (84, .invokestatic 319, 3), (87, .aload 4, 2), (89, .iload 6, 2), (91, .invokestatic 319, 3), (94, .invokestatic 536, 3), (97, .istore 7, 2), (99, .iload 7, 2), (101, .iconst (-1), 1)]
set_option maxRecDepth 100000 in
theorem xd_X14_mergeLocks_5 : xchk1 cX14_mergeLocks xk_X14_mergeLocks_5 = true := xwalk_of 82 (by decide +kernel)
set_option maxRecDepth 100000 in
def xk_X14_mergeLocks_6 : List (Nat × Instr × Nat) := [(102, .if_icmp .eq 34, 3), (105, .aload_n 3, 1), (106, .iload 6, 2), (108, .iaload, 1), (109, .iload 7, 2), (111, .ldc_w 289, 3), (114, .iadd, 1), (115, .if_icmp .eq 17, 3), (118, .aload 4, 2)]
set_option maxRecDepth 100000 in
theorem xd_X14_mergeLocks_6 : xchk1 cX14_mergeLocks xk_X14_mergeLocks_6 = true := xwalk_of 102 (by decide +kernel)
set_option maxRecDepth 100000 in
def xk_X14_mergeLocks_7 : List (Nat × Instr × Nat) := [(120, .iload 6, 2), (122, .iaload, 1), (123, .iload 7, 2), (125, .ldc_w 289, 3), (128, .iadd, 1), (129, .if_icmp .ne 7, 3), (132, .iconst 1, 1), (133, .goto 4, 3), (136, .iconst 0, 1)]
set_option maxRecDepth 100000 in
theorem xd_X14_mergeLocks_7 : xchk1 cX14_mergeLocks xk_X14_mergeLocks_7 = true := xwalk_of 120 (by decide +kernel)
set_option maxRecDepth 100000 in
def xk_X14_mergeLocks_8 : List (Nat × Instr × Nat) := [(137, .istore 8, 2), (139, .aload 5, 2), (141, .iload 6, 2), (143, .iload 7, 2), (145, .iload 8, 2), (147, .ifCond .eq 9, 3), (150, .ldc_w 289, 3), (153, .goto 4, 3), (156, .iconst 0, 1)]
set_option maxRecDepth 100000 in
theorem xd_X14_mergeLocks_8 : xchk1 cX14_mergeLocks xk_X14_mergeLocks_8 = true := xwalk_of 137 (by decide +kernel)
set_option maxRecDepth 100000 in
def xk_X14_mergeLocks_9 : List (Nat × Instr × Nat) := [(157, .iadd, 1), (158, .iastore, 1), (159, .iinc 6 1, 3), (162, .goto (-88), 3), (165, .aload_n 0, 1), (166, .aload 5, 2), (168, .invokevirtual 414, 3), (171, .aload_n 0, 1), (172, .aload 5, 2)]
set_option maxRecDepth 100000 in
theorem xd_X14_mergeLocks_9 : xchk1 cX14_mergeLocks xk_X14_mergeLocks_9 = true := xwalk_of 157 (by decide +kernel)
set_option maxRecDepth 100000 in
def xk_X14_mergeLocks_10 : List (Nat × Instr × Nat) := [(174, .invokevirtual 439, 3), (177, .ifCond .eq 7, 3), (180, .iconst 1, 1), (181, .goto 4, 3), (184, .iconst 0, 1), (185, .ireturn, 1)]
set_option maxRecDepth 100000 in
theorem xd_X14_mergeLocks_10 : xchk1 cX14_mergeLocks xk_X14_mergeLocks_10 = true := xwalk_of 174 (by decide +kernel)
set_option maxRecDepth 100000 in
def xk_X14_mergeLocks : XT (Instr × Nat) := [(17, xk_X14_mergeLocks_0),
  (34, xk_X14_mergeLocks_1),
  (50, xk_X14_mergeLocks_2),
  (65, xk_X14_mergeLocks_3),
  (82, xk_X14_mergeLocks_4),
  (102, xk_X14_mergeLocks_5),
  (120, xk_X14_mergeLocks_6),
  (137, xk_X14_mergeLocks_7),
  (157, xk_X14_mergeLocks_8),
  (174, xk_X14_mergeLocks_9),
  (100000, xk_X14_mergeLocks_10)]
set_option maxRecDepth 100000 in
theorem xd_X14_mergeLocks : xchk cX14_mergeLocks xk_X14_mergeLocks = true := (xchk_cons xd_X14_mergeLocks_0 (xchk_cons xd_X14_mergeLocks_1 (xchk_cons xd_X14_mergeLocks_2 (xchk_cons xd_X14_mergeLocks_3 (xchk_cons xd_X14_mergeLocks_4 (xchk_cons xd_X14_mergeLocks_5 (xchk_cons xd_X14_mergeLocks_6 (xchk_cons xd_X14_mergeLocks_7 (xchk_cons xd_X14_mergeLocks_8 (xchk_cons xd_X14_mergeLocks_9 (xchk_cons xd_X14_mergeLocks_10 xchk_nil)))))))))))
set_option maxRecDepth 100000 in
def xk_X14_mirror : XT (Instr × Nat) := [(7, [(0, .aload_n 0, 1), (1, .iconst 0, 1), (2, .putfield 134, 3), (5, .aload_n 0, 1), (6, .aload_n 0, 1)]),
  (16, [(7, .getfield 9, 3), (10, .iconst 3, 1), (11, .iaload, 1), (12, .iconst 3, 1), (13, .if_icmp .ge 7, 3)]),
  (25, [(16, .iconst 1, 1), (17, .goto 4, 3), (20, .iconst 0, 1), (21, .iconst 1, 1), (22, .invokevirtual 180, 3)]),
  (34, [(25, .ifCond .eq 5, 3), (28, .iconst 0, 1), (29, .ireturn, 1), (30, .aload_n 0, 1), (31, .invokevirtual 411, 3)]),
  (41, [(34, .aload_n 0, 1), (35, .getfield 9, 3), (38, .iconst 3, 1), (39, .dup2, 1), (40, .iaload, 1)]),
  (48, [(41, .iconst 1, 1), (42, .iadd, 1), (43, .iastore, 1), (44, .aload_n 0, 1), (45, .getfield 9, 3)]),
  (100000, [(48, .iconst 3, 1), (49, .iaload, 1), (50, .iconst 1, 1), (51, .isub, 1), (52, .ireturn, 1)])]
set_option maxRecDepth 100000 in
theorem xd_X14_mirror : xchk cX14_mirror xk_X14_mirror = true := xchk_of (by decide +kernel)
set_option maxRecDepth 100000 in
def xk_X14_mirrorFor : XT (Instr × Nat) := [(11, [(0, .aload_n 0, 1), (1, .getfield 9, 3), (4, .iconst 3, 1), (5, .iaload, 1), (6, .istore 4, 2), (8, .iconst 0, 1), (9, .istore 5, 2)]),
  (24, [(11, .iload 5, 2), (13, .iload 4, 2), (15, .if_icmp .ge 84, 3), (18, .iload_n 2, 1), (19, .iload 5, 2), (21, .iadd, 1), (22, .iload 4, 2)]),
  (37, [(24, .irem, 1), (25, .istore 6, 2), (27, .aload_n 0, 1), (28, .getfield 9, 3), (31, .iload 6, 2), (33, .iload_n 1, 1), (34, .invokestatic 542, 3)]),
  (49, [(37, .iaload, 1), (38, .iconst 1, 1), (39, .if_icmp .ne 54, 3), (42, .aload_n 0, 1), (43, .getfield 9, 3), (46, .iload 6, 2), (48, .iload_n 1, 1)]),
  (58, [(49, .invokestatic 542, 3), (52, .iconst 1, 1), (53, .iadd, 1), (54, .iaload, 1), (55, .aload_n 0, 1), (56, .iload_n 1, 1), (57, .iconst 4, 1)]),
  (74, [(58, .invokevirtual 163, 3), (61, .if_icmp .ne 6, 3), (64, .iload 6, 2), (66, .ireturn, 1), (67, .aload_n 0, 1), (68, .getfield 9, 3), (71, .sipush 1714, 3)]),
  (83, [(74, .bipush 81, 2), (76, .iload 6, 2), (78, .imul, 1), (79, .iadd, 1), (80, .dup2, 1), (81, .iaload, 1), (82, .iload_n 3, 1)]),
  (96, [(83, .ifCond .eq 7, 3), (86, .iconst 1, 1), (87, .goto 4, 3), (90, .iconst 0, 1), (91, .iadd, 1), (92, .iastore, 1), (93, .iinc 5 1, 3)]),
  (100000, [(96, .goto (-85), 3), (99, .iconst (-1), 1), (100, .ireturn, 1)])]
set_option maxRecDepth 100000 in
theorem xd_X14_mirrorFor : xchk cX14_mirrorFor xk_X14_mirrorFor = true := xchk_of (by decide +kernel)
set_option maxRecDepth 100000 in
def xk_X14_must : XT (Instr × Nat) := [(11, [(0, .aload_n 0, 1), (1, .iconst 0, 1), (2, .putfield 134, 3), (5, .aload_n 0, 1), (6, .aload_n 0, 1), (7, .iload_n 1, 1), (8, .invokevirtual 200, 3)]),
  (24, [(11, .ifCond .eq 17, 3), (14, .aload_n 0, 1), (15, .iload_n 1, 1), (16, .iload_n 2, 1), (17, .invokevirtual 290, 3), (20, .iconst (-1), 1), (21, .if_icmp .eq 7, 3)]),
  (37, [(24, .iconst 1, 1), (25, .goto 4, 3), (28, .iconst 0, 1), (29, .iconst 1, 1), (30, .invokevirtual 180, 3), (33, .ifCond .eq 5, 3), (36, .iconst 0, 1)]),
  (49, [(37, .ireturn, 1), (38, .aload_n 0, 1), (39, .invokevirtual 401, 3), (42, .ifCond .ne 6, 3), (45, .bipush (-2), 2), (47, .ireturn, 1), (48, .aload_n 0, 1)]),
  (60, [(49, .iload_n 1, 1), (50, .iload_n 2, 1), (51, .invokevirtual 290, 3), (54, .invokestatic 333, 3), (57, .lstore_n 3, 1), (58, .aload_n 0, 1), (59, .lload_n 3, 1)]),
  (72, [(60, .lconst 0, 1), (61, .invokevirtual 389, 3), (64, .istore 5, 2), (66, .aload_n 0, 1), (67, .lconst 0, 1), (68, .lload_n 3, 1), (69, .invokevirtual 389, 3)]),
  (88, [(72, .istore 6, 2), (74, .iload 5, 2), (76, .ifCond .ne 7, 3), (79, .iconst (-1), 1), (80, .goto 13, 3), (83, .iload 6, 2), (85, .ifCond .eq 7, 3)]),
  (100000, [(88, .iconst 0, 1), (89, .goto 4, 3), (92, .iconst 1, 1), (93, .ireturn, 1)])]
set_option maxRecDepth 100000 in
theorem xd_X14_must : xchk cX14_must xk_X14_must = true := xchk_of (by decide +kernel)
set_option maxRecDepth 100000 in
def xk_X14_need_0 : List (Nat × Instr × Nat) := [(0, .aload_n 0, 1), (1, .iconst 0, 1), (2, .putfield 134, 3), (5, .aload_n 0, 1), (6, .aload_n 0, 1), (7, .iload_n 1, 1), (8, .iload_n 2, 1), (9, .invokevirtual 493, 3), (12, .iconst 1, 1)]
set_option maxRecDepth 100000 in
theorem xd_X14_need_0 : xchk1 cX14_need xk_X14_need_0 = true := xwalk_of 0 (by decide +kernel)
set_option maxRecDepth 100000 in
def xk_X14_need_1 : List (Nat × Instr × Nat) := [(13, .invokevirtual 180, 3), (16, .ifCond .eq 5, 3), (19, .iconst 0, 1), (20, .ireturn, 1), (21, .aload_n 0, 1), (22, .iload_n 1, 1), (23, .iload_n 2, 1), (24, .invokevirtual 290, 3), (27, .istore 4, 2)]
set_option maxRecDepth 100000 in
theorem xd_X14_need_1 : xchk1 cX14_need xk_X14_need_1 = true := xwalk_of 13 (by decide +kernel)
set_option maxRecDepth 100000 in
def xk_X14_need_2 : List (Nat × Instr × Nat) := [(29, .aload_n 0, 1), (30, .aload_n 0, 1), (31, .iload 4, 2), (33, .bipush 7, 2), (35, .invokevirtual 163, 3), (38, .iconst 3, 1), (39, .if_icmp .ge 16, 3), (42, .aload_n 0, 1), (43, .iload 4, 2)]
set_option maxRecDepth 100000 in
theorem xd_X14_need_2 : xchk1 cX14_need xk_X14_need_2 = true := xwalk_of 29 (by decide +kernel)
set_option maxRecDepth 100000 in
def xk_X14_need_3 : List (Nat × Instr × Nat) := [(45, .invokevirtual 496, 3), (48, .ifCond .ne 7, 3), (51, .iconst 1, 1), (52, .goto 4, 3), (55, .iconst 0, 1), (56, .iconst 2, 1), (57, .invokevirtual 180, 3), (60, .ifCond .eq 5, 3), (63, .iconst 0, 1)]
set_option maxRecDepth 100000 in
theorem xd_X14_need_3 : xchk1 cX14_need xk_X14_need_3 = true := xwalk_of 45 (by decide +kernel)
set_option maxRecDepth 100000 in
def xk_X14_need_4 : List (Nat × Instr × Nat) := [(64, .ireturn, 1), (65, .aload_n 0, 1), (66, .invokevirtual 499, 3), (69, .astore 5, 2), (71, .aload_n 0, 1), (72, .aload 5, 2), (74, .ifnull 7, 3), (77, .iconst 1, 1), (78, .goto 4, 3)]
set_option maxRecDepth 100000 in
theorem xd_X14_need_4 : xchk1 cX14_need xk_X14_need_4 = true := xwalk_of 64 (by decide +kernel)
set_option maxRecDepth 100000 in
def xk_X14_need_5 : List (Nat × Instr × Nat) := [(81, .iconst 0, 1), (82, .iconst 3, 1), (83, .invokevirtual 180, 3), (86, .ifCond .eq 5, 3), (89, .iconst 0, 1), (90, .ireturn, 1), (91, .aload_n 0, 1), (92, .invokevirtual 411, 3), (95, .aload_n 0, 1)]
set_option maxRecDepth 100000 in
theorem xd_X14_need_5 : xchk1 cX14_need xk_X14_need_5 = true := xwalk_of 81 (by decide +kernel)
set_option maxRecDepth 100000 in
def xk_X14_need_6 : List (Nat × Instr × Nat) := [(96, .iload 4, 2), (98, .bipush 7, 2), (100, .invokevirtual 163, 3), (103, .istore 6, 2), (105, .aload_n 0, 1), (106, .iload 4, 2), (108, .bipush 8, 2), (110, .iload 6, 2), (112, .iadd, 1)]
set_option maxRecDepth 100000 in
theorem xd_X14_need_6 : xchk1 cX14_need xk_X14_need_6 = true := xwalk_of 96 (by decide +kernel)
set_option maxRecDepth 100000 in
def xk_X14_need_7 : List (Nat × Instr × Nat) := [(113, .aload_n 0, 1), (114, .aload 5, 2), (116, .invokevirtual 503, 3), (119, .invokevirtual 489, 3), (122, .aload_n 0, 1), (123, .iload 4, 2), (125, .bipush 11, 2), (127, .aload_n 0, 1), (128, .iload 4, 2)]
set_option maxRecDepth 100000 in
theorem xd_X14_need_7 : xchk1 cX14_need xk_X14_need_7 = true := xwalk_of 113 (by decide +kernel)
set_option maxRecDepth 100000 in
def xk_X14_need_8 : List (Nat × Instr × Nat) := [(130, .bipush 11, 2), (132, .invokevirtual 163, 3), (135, .iload_n 3, 1), (136, .ifCond .eq 10, 3), (139, .iconst 1, 1), (140, .iload 6, 2), (142, .ishl, 1), (143, .goto 4, 3), (146, .iconst 0, 1)]
set_option maxRecDepth 100000 in
theorem xd_X14_need_8 : xchk1 cX14_need xk_X14_need_8 = true := xwalk_of 130 (by decide +kernel)
set_option maxRecDepth 100000 in
def xk_X14_need_9 : List (Nat × Instr × Nat) := [(147, .ior, 1), (148, .invokevirtual 489, 3), (151, .aload_n 0, 1), (152, .iload 4, 2), (154, .bipush 7, 2), (156, .iload 6, 2), (158, .iconst 1, 1), (159, .iadd, 1), (160, .invokevirtual 489, 3)]
set_option maxRecDepth 100000 in
theorem xd_X14_need_9 : xchk1 cX14_need xk_X14_need_9 = true := xwalk_of 147 (by decide +kernel)
set_option maxRecDepth 100000 in
def xk_X14_need_10 : List (Nat × Instr × Nat) := [(163, .iload 6, 2), (165, .iconst 1, 1), (166, .iadd, 1), (167, .ireturn, 1)]
set_option maxRecDepth 100000 in
theorem xd_X14_need_10 : xchk1 cX14_need xk_X14_need_10 = true := xwalk_of 163 (by decide +kernel)
set_option maxRecDepth 100000 in
def xk_X14_need : XT (Instr × Nat) := [(13, xk_X14_need_0),
  (29, xk_X14_need_1),
  (45, xk_X14_need_2),
  (64, xk_X14_need_3),
  (81, xk_X14_need_4),
  (96, xk_X14_need_5),
  (113, xk_X14_need_6),
  (130, xk_X14_need_7),
  (147, xk_X14_need_8),
  (163, xk_X14_need_9),
  (100000, xk_X14_need_10)]
set_option maxRecDepth 100000 in
theorem xd_X14_need : xchk cX14_need xk_X14_need = true := (xchk_cons xd_X14_need_0 (xchk_cons xd_X14_need_1 (xchk_cons xd_X14_need_2 (xchk_cons xd_X14_need_3 (xchk_cons xd_X14_need_4 (xchk_cons xd_X14_need_5 (xchk_cons xd_X14_need_6 (xchk_cons xd_X14_need_7 (xchk_cons xd_X14_need_8 (xchk_cons xd_X14_need_9 (xchk_cons xd_X14_need_10 xchk_nil)))))))))))
set_option maxRecDepth 100000 in
def xk_X14_next_0 : List (Nat × Instr × Nat) := [(0, .aload_n 0, 1), (1, .getfield 184, 3), (4, .aload_n 0, 1), (5, .getfield 177, 3), (8, .if_icmp .ge 44, 3), (11, .aload_n 0, 1), (12, .getfield 22, 3), (15, .aload_n 0, 1), (16, .getfield 184, 3), (19, .iaload, 1), (20, .bipush 32, 2), (22, .if_icmp .eq 17, 3), (25, .aload_n 0, 1)]
set_option maxRecDepth 100000 in
theorem xd_X14_next_0 : xchk1 cX14_next xk_X14_next_0 = true := xwalk_of 0 (by decide +kernel)
set_option maxRecDepth 100000 in
def xk_X14_next_1 : List (Nat × Instr × Nat) := [(26, .getfield 22, 3), (29, .aload_n 0, 1), (30, .getfield 184, 3), (33, .iaload, 1), (34, .bipush 10, 2), (36, .if_icmp .ne 16, 3), (39, .aload_n 0, 1), (40, .dup, 1), (41, .getfield 184, 3), (44, .iconst 1, 1), (45, .iadd, 1), (46, .putfield 184, 3), (49, .goto (-49), 3)]
set_option maxRecDepth 100000 in
theorem xd_X14_next_1 : xchk1 cX14_next xk_X14_next_1 = true := xwalk_of 26 (by decide +kernel)
set_option maxRecDepth 100000 in
def xk_X14_next_2 : List (Nat × Instr × Nat) := [(52, .aload_n 0, 1), (53, .aload_n 0, 1), (54, .getfield 184, 3), (57, .putfield 187, 3), (60, .aload_n 0, 1), (61, .getfield 184, 3), (64, .aload_n 0, 1), (65, .getfield 177, 3), (68, .if_icmp .ne 9, 3), (71, .aload_n 0, 1), (72, .iconst 5, 1), (73, .putfield 190, 3), (76, .return_, 1)]
set_option maxRecDepth 100000 in
theorem xd_X14_next_2 : xchk1 cX14_next xk_X14_next_2 = true := xwalk_of 52 (by decide +kernel)
set_option maxRecDepth 100000 in
def xk_X14_next_3 : List (Nat × Instr × Nat) := [(77, .aload_n 0, 1), (78, .getfield 22, 3), (81, .aload_n 0, 1), (82, .getfield 184, 3), (85, .iaload, 1), (86, .istore_n 1, 1), (87, .aload_n 0, 1), (88, .aload_n 0, 1), (89, .getfield 184, 3), (92, .invokevirtual 193, 3), (95, .ifCond .eq 85, 3), (98, .aload_n 0, 1), (99, .iconst 0, 1)]
set_option maxRecDepth 100000 in
theorem xd_X14_next_3 : xchk1 cX14_next xk_X14_next_3 = true := xwalk_of 77 (by decide +kernel)
set_option maxRecDepth 100000 in
def xk_X14_next_4 : List (Nat × Instr × Nat) := [(100, .putfield 197, 3), (103, .aload_n 0, 1), (104, .aload_n 0, 1), (105, .getfield 184, 3), (108, .invokevirtual 193, 3), (111, .ifCond .eq 46, 3), (114, .aload_n 0, 1), (115, .sipush 1000, 3), (118, .bipush 10, 2), (120, .aload_n 0, 1), (121, .getfield 197, 3), (124, .imul, 1), (125, .aload_n 0, 1)]
set_option maxRecDepth 100000 in
theorem xd_X14_next_4 : xchk1 cX14_next xk_X14_next_4 = true := xwalk_of 100 (by decide +kernel)
set_option maxRecDepth 100000 in
def xk_X14_next_5 : List (Nat × Instr × Nat) := [(126, .getfield 22, 3), (129, .aload_n 0, 1), (130, .getfield 184, 3), (133, .iaload, 1), (134, .iadd, 1), (135, .bipush 48, 2), (137, .isub, 1), (138, .invokestatic 149, 3), (141, .putfield 197, 3), (144, .aload_n 0, 1), (145, .dup, 1), (146, .getfield 184, 3), (149, .iconst 1, 1)]
set_option maxRecDepth 100000 in
theorem xd_X14_next_5 : xchk1 cX14_next xk_X14_next_5 = true := xwalk_of 126 (by decide +kernel)
set_option maxRecDepth 100000 in
def xk_X14_next_6 : List (Nat × Instr × Nat) := [(150, .iadd, 1), (151, .putfield 184, 3), (154, .goto (-51), 3), (157, .aload_n 0, 1), (158, .aload_n 0, 1), (159, .getfield 184, 3), (162, .aload_n 0, 1), (163, .getfield 187, 3), (166, .isub, 1), (167, .iconst 2, 1), (168, .if_icmp .le 7, 3), (171, .iconst 4, 1), (172, .goto 4, 3)]
set_option maxRecDepth 100000 in
theorem xd_X14_next_6 : xchk1 cX14_next xk_X14_next_6 = true := xwalk_of 150 (by decide +kernel)
set_option maxRecDepth 100000 in
def xk_X14_next_7 : List (Nat × Instr × Nat) := [(175, .iconst 1, 1), (176, .putfield 190, 3), (179, .return_, 1), (180, .aload_n 0, 1), (181, .dup, 1), (182, .getfield 184, 3), (185, .iconst 1, 1), (186, .iadd, 1), (187, .putfield 184, 3), (190, .iload_n 1, 1), (191, .bipush 97, 2), (193, .bipush 108, 2), (195, .invokestatic 158, 3)]
set_option maxRecDepth 100000 in
theorem xd_X14_next_7 : xchk1 cX14_next xk_X14_next_7 = true := xwalk_of 175 (by decide +kernel)
set_option maxRecDepth 100000 in
def xk_X14_next_8 : List (Nat × Instr × Nat) := [(198, .ifCond .eq 30, 3), (201, .aload_n 0, 1), (202, .iload_n 1, 1), (203, .bipush 97, 2), (205, .isub, 1), (206, .invokevirtual 200, 3), (209, .ifCond .eq 19, 3), (212, .aload_n 0, 1), (213, .iconst 0, 1), (214, .putfield 190, 3), (217, .aload_n 0, 1), (218, .iload_n 1, 1), (219, .bipush 97, 2)]
set_option maxRecDepth 100000 in
theorem xd_X14_next_8 : xchk1 cX14_next xk_X14_next_8 = true := xwalk_of 198 (by decide +kernel)
set_option maxRecDepth 100000 in
def xk_X14_next_9 : List (Nat × Instr × Nat) := [(221, .isub, 1), (222, .putfield 197, 3), (225, .goto 142, 3), (228, .iload_n 1, 1), (229, .bipush 46, 2), (231, .if_icmp .ne 46, 3), (234, .aload_n 0, 1), (235, .getfield 184, 3), (238, .aload_n 0, 1), (239, .getfield 177, 3), (242, .if_icmp .ge 35, 3), (245, .aload_n 0, 1), (246, .getfield 22, 3)]
set_option maxRecDepth 100000 in
theorem xd_X14_next_9 : xchk1 cX14_next xk_X14_next_9 = true := xwalk_of 221 (by decide +kernel)
set_option maxRecDepth 100000 in
def xk_X14_next_10 : List (Nat × Instr × Nat) := [(249, .aload_n 0, 1), (250, .getfield 184, 3), (253, .iaload, 1), (254, .bipush 46, 2), (256, .if_icmp .ne 21, 3), (259, .aload_n 0, 1), (260, .dup, 1), (261, .getfield 184, 3), (264, .iconst 1, 1), (265, .iadd, 1), (266, .putfield 184, 3), (269, .aload_n 0, 1), (270, .iconst 3, 1)]
set_option maxRecDepth 100000 in
theorem xd_X14_next_10 : xchk1 cX14_next xk_X14_next_10 = true := xwalk_of 249 (by decide +kernel)
set_option maxRecDepth 100000 in
def xk_X14_next_11 : List (Nat × Instr × Nat) := [(271, .putfield 190, 3), (274, .goto 93, 3), (277, .iload_n 1, 1), (278, .bipush 35, 2), (280, .if_icmp .eq 63, 3), (283, .iload_n 1, 1), (284, .bipush 124, 2), (286, .if_icmp .eq 57, 3), (289, .iload_n 1, 1), (290, .bipush 44, 2), (292, .if_icmp .eq 51, 3), (295, .iload_n 1, 1), (296, .bipush 42, 2)]
set_option maxRecDepth 100000 in
theorem xd_X14_next_11 : xchk1 cX14_next xk_X14_next_11 = true := xwalk_of 271 (by decide +kernel)
set_option maxRecDepth 100000 in
def xk_X14_next_12 : List (Nat × Instr × Nat) := [(298, .if_icmp .eq 45, 3), (301, .iload_n 1, 1), (302, .bipush 61, 2), (304, .if_icmp .eq 39, 3), (307, .iload_n 1, 1), (308, .bipush 62, 2), (310, .if_icmp .eq 33, 3), (313, .iload_n 1, 1), (314, .bipush 60, 2), (316, .if_icmp .eq 27, 3), (319, .iload_n 1, 1), (320, .bipush 94, 2), (322, .if_icmp .eq 21, 3)]
set_option maxRecDepth 100000 in
theorem xd_X14_next_12 : xchk1 cX14_next xk_X14_next_12 = true := xwalk_of 298 (by decide +kernel)
set_option maxRecDepth 100000 in
def xk_X14_next_13 : List (Nat × Instr × Nat) := [(325, .iload_n 1, 1), (326, .bipush 126, 2), (328, .if_icmp .eq 15, 3), (331, .iload_n 1, 1), (332, .bipush 46, 2), (334, .if_icmp .eq 9, 3), (337, .iload_n 1, 1), (338, .bipush 33, 2), (340, .if_icmp .ne 7, 3), (343, .iconst 1, 1), (344, .goto 4, 3), (347, .iconst 0, 1), (348, .istore_n 2, 1)]
set_option maxRecDepth 100000 in
theorem xd_X14_next_13 : xchk1 cX14_next xk_X14_next_13 = true := xwalk_of 325 (by decide +kernel)
set_option maxRecDepth 100000 in
def xk_X14_next_14 : List (Nat × Instr × Nat) := [(349, .aload_n 0, 1), (350, .iload_n 2, 1), (351, .ifCond .eq 7, 3), (354, .iconst 2, 1), (355, .goto 4, 3), (358, .iconst 4, 1), (359, .putfield 190, 3), (362, .aload_n 0, 1), (363, .iload_n 1, 1), (364, .putfield 197, 3), (367, .return_, 1)]
set_option maxRecDepth 100000 in
theorem xd_X14_next_14 : xchk1 cX14_next xk_X14_next_14 = true := xwalk_of 349 (by decide +kernel)
set_option maxRecDepth 100000 in
def xk_X14_next : XT (Instr × Nat) := [(26, xk_X14_next_0),
  (52, xk_X14_next_1),
  (77, xk_X14_next_2),
  (100, xk_X14_next_3),
  (126, xk_X14_next_4),
  (150, xk_X14_next_5),
  (175, xk_X14_next_6),
  (198, xk_X14_next_7),
  (221, xk_X14_next_8),
  (249, xk_X14_next_9),
  (271, xk_X14_next_10),
  (298, xk_X14_next_11),
  (325, xk_X14_next_12),
  (349, xk_X14_next_13),
  (100000, xk_X14_next_14)]
set_option maxRecDepth 100000 in
theorem xd_X14_next : xchk cX14_next xk_X14_next = true := (xchk_cons xd_X14_next_0 (xchk_cons xd_X14_next_1 (xchk_cons xd_X14_next_2 (xchk_cons xd_X14_next_3 (xchk_cons xd_X14_next_4 (xchk_cons xd_X14_next_5 (xchk_cons xd_X14_next_6 (xchk_cons xd_X14_next_7 (xchk_cons xd_X14_next_8 (xchk_cons xd_X14_next_9 (xchk_cons xd_X14_next_10 (xchk_cons xd_X14_next_11 (xchk_cons xd_X14_next_12 (xchk_cons xd_X14_next_13 (xchk_cons xd_X14_next_14 xchk_nil)))))))))))))))
set_option maxRecDepth 100000 in
def xk_X14_offer : XT (Instr × Nat) := [(14, [(0, .aload_n 0, 1), (1, .iconst 0, 1), (2, .putfield 134, 3), (5, .aload_n 0, 1), (6, .aload_n 0, 1), (7, .iload_n 1, 1), (8, .invokevirtual 539, 3), (11, .ifCond .eq 16, 3)]),
  (28, [(14, .aload_n 0, 1), (15, .iload_n 2, 1), (16, .iload_n 3, 1), (17, .invokevirtual 493, 3), (20, .ifCond .eq 7, 3), (23, .iconst 1, 1), (24, .goto 4, 3), (27, .iconst 0, 1)]),
  (42, [(28, .iconst 1, 1), (29, .invokevirtual 180, 3), (32, .ifCond .eq 5, 3), (35, .iconst 0, 1), (36, .ireturn, 1), (37, .aload_n 0, 1), (38, .invokevirtual 411, 3), (41, .aload_n 0, 1)]),
  (56, [(42, .iload_n 2, 1), (43, .iload_n 3, 1), (44, .invokevirtual 290, 3), (47, .istore 5, 2), (49, .aload_n 0, 1), (50, .getfield 9, 3), (53, .iload_n 1, 1), (54, .iload 5, 2)]),
  (71, [(56, .invokestatic 542, 3), (59, .iconst 1, 1), (60, .iastore, 1), (61, .aload_n 0, 1), (62, .getfield 9, 3), (65, .iload_n 1, 1), (66, .iload 5, 2), (68, .invokestatic 542, 3)]),
  (82, [(71, .iconst 1, 1), (72, .iadd, 1), (73, .iload 4, 2), (75, .iastore, 1), (76, .iconst 0, 1), (77, .istore 6, 2), (79, .iconst 0, 1), (80, .istore 7, 2)]),
  (98, [(82, .iload 7, 2), (84, .bipush 40, 2), (86, .if_icmp .ge 25, 3), (89, .iload 6, 2), (91, .aload_n 0, 1), (92, .getfield 9, 3), (95, .iload_n 1, 1), (96, .iload 7, 2)]),
  (100000, [(98, .invokestatic 542, 3), (101, .iaload, 1), (102, .iadd, 1), (103, .istore 6, 2), (105, .iinc 7 1, 3), (108, .goto (-26), 3), (111, .iload 6, 2), (113, .ireturn, 1)])]
set_option maxRecDepth 100000 in
theorem xd_X14_offer : xchk cX14_offer xk_X14_offer = true := xchk_of (by decide +kernel)
set_option maxRecDepth 100000 in
def xk_X14_offered : XT (Instr × Nat) := [(7, [(0, .sipush 1714, 3), (3, .bipush 81, 2), (5, .iload_n 0, 1), (6, .imul, 1)]),
  (11, [(7, .iadd, 1), (8, .iconst 1, 1), (9, .iadd, 1), (10, .iconst 2, 1)]),
  (100000, [(11, .iload_n 1, 1), (12, .imul, 1), (13, .iadd, 1), (14, .ireturn, 1)])]
set_option maxRecDepth 100000 in
theorem xd_X14_offered : xchk cX14_offered xk_X14_offered = true := xchk_of (by decide +kernel)
set_option maxRecDepth 100000 in
def xk_X14_option_0 : List (Nat × Instr × Nat) := [(0, .aload_n 0, 1), (1, .iconst 0, 1), (2, .putfield 134, 3), (5, .aload_n 0, 1), (6, .aload_n 0, 1), (7, .iload_n 1, 1), (8, .iload_n 2, 1), (9, .invokevirtual 493, 3), (12, .iconst 1, 1)]
set_option maxRecDepth 100000 in
theorem xd_X14_option_0 : xchk1 cX14_option xk_X14_option_0 = true := xwalk_of 0 (by decide +kernel)
set_option maxRecDepth 100000 in
def xk_X14_option_1 : List (Nat × Instr × Nat) := [(13, .invokevirtual 180, 3), (16, .ifCond .eq 5, 3), (19, .iconst 0, 1), (20, .ireturn, 1), (21, .aload_n 0, 1), (22, .iload_n 1, 1), (23, .iload_n 2, 1), (24, .invokevirtual 290, 3), (27, .istore_n 3, 1)]
set_option maxRecDepth 100000 in
theorem xd_X14_option_1 : xchk1 cX14_option xk_X14_option_1 = true := xwalk_of 13 (by decide +kernel)
set_option maxRecDepth 100000 in
def xk_X14_option_2 : List (Nat × Instr × Nat) := [(28, .aload_n 0, 1), (29, .aload_n 0, 1), (30, .iload_n 3, 1), (31, .bipush 6, 2), (33, .invokevirtual 163, 3), (36, .ifCond .ne 15, 3), (39, .aload_n 0, 1), (40, .iload_n 3, 1), (41, .invokevirtual 496, 3)]
set_option maxRecDepth 100000 in
theorem xd_X14_option_2 : xchk1 cX14_option xk_X14_option_2 = true := xwalk_of 28 (by decide +kernel)
set_option maxRecDepth 100000 in
def xk_X14_option_3 : List (Nat × Instr × Nat) := [(44, .ifCond .ne 7, 3), (47, .iconst 1, 1), (48, .goto 4, 3), (51, .iconst 0, 1), (52, .iconst 2, 1), (53, .invokevirtual 180, 3), (56, .ifCond .eq 5, 3), (59, .iconst 0, 1), (60, .ireturn, 1)]
set_option maxRecDepth 100000 in
theorem xd_X14_option_3 : xchk1 cX14_option xk_X14_option_3 = true := xwalk_of 44 (by decide +kernel)
set_option maxRecDepth 100000 in
def xk_X14_option_4 : List (Nat × Instr × Nat) := [(61, .aload_n 0, 1), (62, .invokevirtual 499, 3), (65, .astore 4, 2), (67, .aload_n 0, 1), (68, .aload 4, 2), (70, .ifnull 7, 3), (73, .iconst 1, 1), (74, .goto 4, 3), (77, .iconst 0, 1)]
set_option maxRecDepth 100000 in
theorem xd_X14_option_4 : xchk1 cX14_option xk_X14_option_4 = true := xwalk_of 61 (by decide +kernel)
set_option maxRecDepth 100000 in
def xk_X14_option_5 : List (Nat × Instr × Nat) := [(78, .iconst 3, 1), (79, .invokevirtual 180, 3), (82, .ifCond .eq 5, 3), (85, .iconst 0, 1), (86, .ireturn, 1), (87, .aload_n 0, 1), (88, .invokevirtual 411, 3), (91, .aload_n 0, 1), (92, .iload_n 3, 1)]
set_option maxRecDepth 100000 in
theorem xd_X14_option_5 : xchk1 cX14_option xk_X14_option_5 = true := xwalk_of 78 (by decide +kernel)
set_option maxRecDepth 100000 in
def xk_X14_option_6 : List (Nat × Instr × Nat) := [(93, .bipush 6, 2), (95, .aload_n 0, 1), (96, .aload 4, 2), (98, .invokevirtual 503, 3), (101, .iconst 1, 1), (102, .iadd, 1), (103, .invokevirtual 489, 3), (106, .iconst 0, 1), (107, .istore 5, 2)]
set_option maxRecDepth 100000 in
theorem xd_X14_option_6 : xchk1 cX14_option xk_X14_option_6 = true := xwalk_of 93 (by decide +kernel)
set_option maxRecDepth 100000 in
def xk_X14_option_7 : List (Nat × Instr × Nat) := [(109, .iconst 0, 1), (110, .istore 6, 2), (112, .iload 6, 2), (114, .aload_n 0, 1), (115, .getfield 9, 3), (118, .iconst 4, 1), (119, .iaload, 1), (120, .if_icmp .ge 41, 3), (123, .iload 5, 2)]
set_option maxRecDepth 100000 in
theorem xd_X14_option_7 : xchk1 cX14_option xk_X14_option_7 = true := xwalk_of 109 (by decide +kernel)
set_option maxRecDepth 100000 in
def xk_X14_option_8 : List (Nat × Instr × Nat) := [(125, .aload_n 0, 1), (126, .iload 6, 2), (128, .iconst 0, 1), (129, .invokevirtual 163, 3), (132, .iload_n 1, 1), (133, .if_icmp .ne 18, 3), (136, .aload_n 0, 1), (137, .iload 6, 2), (139, .bipush 6, 2)]
set_option maxRecDepth 100000 in
theorem xd_X14_option_8 : xchk1 cX14_option xk_X14_option_8 = true := xwalk_of 125 (by decide +kernel)
set_option maxRecDepth 100000 in
def xk_X14_option_9 : List (Nat × Instr × Nat) := [(141, .invokevirtual 163, 3), (144, .ifCond .le 7, 3), (147, .iconst 1, 1), (148, .goto 4, 3), (151, .iconst 0, 1), (152, .iadd, 1), (153, .istore 5, 2), (155, .iinc 6 1, 3), (158, .goto (-46), 3)]
set_option maxRecDepth 100000 in
theorem xd_X14_option_9 : xchk1 cX14_option xk_X14_option_9 = true := xwalk_of 141 (by decide +kernel)
set_option maxRecDepth 100000 in
def xk_X14_option_10 : List (Nat × Instr × Nat) := [(161, .iload 5, 2), (163, .ireturn, 1)]
set_option maxRecDepth 100000 in
theorem xd_X14_option_10 : xchk1 cX14_option xk_X14_option_10 = true := xwalk_of 161 (by decide +kernel)
set_option maxRecDepth 100000 in
def xk_X14_option : XT (Instr × Nat) := [(13, xk_X14_option_0),
  (28, xk_X14_option_1),
  (44, xk_X14_option_2),
  (61, xk_X14_option_3),
  (78, xk_X14_option_4),
  (93, xk_X14_option_5),
  (109, xk_X14_option_6),
  (125, xk_X14_option_7),
  (141, xk_X14_option_8),
  (161, xk_X14_option_9),
  (100000, xk_X14_option_10)]
set_option maxRecDepth 100000 in
theorem xd_X14_option : xchk cX14_option xk_X14_option = true := (xchk_cons xd_X14_option_0 (xchk_cons xd_X14_option_1 (xchk_cons xd_X14_option_2 (xchk_cons xd_X14_option_3 (xchk_cons xd_X14_option_4 (xchk_cons xd_X14_option_5 (xchk_cons xd_X14_option_6 (xchk_cons xd_X14_option_7 (xchk_cons xd_X14_option_8 (xchk_cons xd_X14_option_9 (xchk_cons xd_X14_option_10 xchk_nil)))))))))))
set_option maxRecDepth 100000 in
def xk_X14_optionBit : XT (Instr × Nat) := [(5, [(0, .lconst 1, 1), (1, .bipush 40, 2), (3, .iload_n 0, 1), (4, .iadd, 1)]),
  (100000, [(5, .lshl, 1), (6, .lreturn, 1)])]
set_option maxRecDepth 100000 in
theorem xd_X14_optionBit : xchk cX14_optionBit xk_X14_optionBit = true := xchk_of (by decide +kernel)
set_option maxRecDepth 100000 in
def xk_X14_order_0 : List (Nat × Instr × Nat) := [(0, .aload_n 0, 1), (1, .getfield 79, 3), (4, .aload_n 0, 1), (5, .getfield 155, 3), (8, .if_icmp .ne 8, 3), (11, .aload_n 0, 1), (12, .getfield 392, 3), (15, .areturn, 1), (16, .aload_n 0, 1)]
set_option maxRecDepth 100000 in
theorem xd_X14_order_0 : xchk1 cX14_order xk_X14_order_0 = true := xwalk_of 0 (by decide +kernel)
set_option maxRecDepth 100000 in
def xk_X14_order_1 : List (Nat × Instr × Nat) := [(17, .getfield 9, 3), (20, .iconst 0, 1), (21, .iaload, 1), (22, .newarray .int, 2), (24, .astore_n 1, 1), (25, .iconst 0, 1), (26, .istore_n 2, 1), (27, .iconst 0, 1), (28, .istore_n 3, 1)]
set_option maxRecDepth 100000 in
theorem xd_X14_order_1 : xchk1 cX14_order xk_X14_order_1 = true := xwalk_of 17 (by decide +kernel)
set_option maxRecDepth 100000 in
def xk_X14_order_2 : List (Nat × Instr × Nat) := [(29, .iconst 0, 1), (30, .istore 4, 2), (32, .iload 4, 2), (34, .aload_n 0, 1), (35, .iconst 0, 1), (36, .invokevirtual 312, 3), (39, .if_icmp .ge 80, 3), (42, .iconst 0, 1), (43, .istore 5, 2)]
set_option maxRecDepth 100000 in
theorem xd_X14_order_2 : xchk1 cX14_order xk_X14_order_2 = true := xwalk_of 29 (by decide +kernel)
set_option maxRecDepth 100000 in
def xk_X14_order_3 : List (Nat × Instr × Nat) := [(45, .aload_n 0, 1), (46, .iload 4, 2), (48, .invokevirtual 322, 3), (51, .ifnull 62, 3), (54, .iload 5, 2), (56, .aload_n 0, 1), (57, .iload 4, 2), (59, .invokevirtual 322, 3), (62, .getfield 276, 3)]
set_option maxRecDepth 100000 in
theorem xd_X14_order_3 : xchk1 cX14_order xk_X14_order_3 = true := xwalk_of 45 (by decide +kernel)
set_option maxRecDepth 100000 in
def xk_X14_order_4 : List (Nat × Instr × Nat) := [(65, .arraylength, 1), (66, .if_icmp .ge 47, 3), (69, .aload_n 0, 1), (70, .iload 4, 2), (72, .invokevirtual 322, 3), (75, .getfield 276, 3), (78, .iload 5, 2), (80, .iaload, 1), (81, .istore 6, 2)]
set_option maxRecDepth 100000 in
theorem xd_X14_order_4 : xchk1 cX14_order xk_X14_order_4 = true := xwalk_of 65 (by decide +kernel)
set_option maxRecDepth 100000 in
def xk_X14_order_5 : List (Nat × Instr × Nat) := [(83, .iload_n 3, 1), (84, .iload 6, 2), (86, .ishr, 1), (87, .iconst 1, 1), (88, .iand, 1), (89, .ifCond .ne 18, 3), (92, .iload_n 3, 1), (93, .iconst 1, 1), (94, .iload 6, 2)]
set_option maxRecDepth 100000 in
theorem xd_X14_order_5 : xchk1 cX14_order xk_X14_order_5 = true := xwalk_of 83 (by decide +kernel)
set_option maxRecDepth 100000 in
def xk_X14_order_6 : List (Nat × Instr × Nat) := [(96, .ishl, 1), (97, .ior, 1), (98, .istore_n 3, 1), (99, .aload_n 1, 1), (100, .iload_n 2, 1), (101, .iload 6, 2), (103, .iastore, 1), (104, .iinc 2 1, 3), (107, .iinc 5 1, 3)]
set_option maxRecDepth 100000 in
theorem xd_X14_order_6 : xchk1 cX14_order xk_X14_order_6 = true := xwalk_of 96 (by decide +kernel)
set_option maxRecDepth 100000 in
def xk_X14_order_7 : List (Nat × Instr × Nat) := [(110, .goto (-65), 3), (113, .iinc 4 1, 3), (116, .goto (-84), 3), (119, .aload_n 0, 1), (120, .iload_n 3, 1), (121, .putfield 395, 3), (124, .iconst 0, 1), (125, .istore 4, 2), (127, .iload 4, 2)]
set_option maxRecDepth 100000 in
theorem xd_X14_order_7 : xchk1 cX14_order xk_X14_order_7 = true := xwalk_of 110 (by decide +kernel)
set_option maxRecDepth 100000 in
def xk_X14_order_8 : List (Nat × Instr × Nat) := [(129, .aload_n 0, 1), (130, .getfield 9, 3), (133, .iconst 0, 1), (134, .iaload, 1), (135, .if_icmp .ge 26, 3), (138, .iload_n 3, 1), (139, .iload 4, 2), (141, .ishr, 1), (142, .iconst 1, 1)]
set_option maxRecDepth 100000 in
theorem xd_X14_order_8 : xchk1 cX14_order xk_X14_order_8 = true := xwalk_of 129 (by decide +kernel)
set_option maxRecDepth 100000 in
def xk_X14_order_9 : List (Nat × Instr × Nat) := [(143, .iand, 1), (144, .ifCond .ne 11, 3), (147, .aload_n 1, 1), (148, .iload_n 2, 1), (149, .iload 4, 2), (151, .iastore, 1), (152, .iinc 2 1, 3), (155, .iinc 4 1, 3), (158, .goto (-31), 3)]
set_option maxRecDepth 100000 in
theorem xd_X14_order_9 : xchk1 cX14_order xk_X14_order_9 = true := xwalk_of 143 (by decide +kernel)
set_option maxRecDepth 100000 in
def xk_X14_order_10 : List (Nat × Instr × Nat) := [(161, .aload_n 0, 1), (162, .aload_n 0, 1), (163, .getfield 155, 3), (166, .putfield 79, 3), (169, .aload_n 0, 1), (170, .aload_n 1, 1), (171, .putfield 392, 3), (174, .aload_n 1, 1), (175, .areturn, 1)]
set_option maxRecDepth 100000 in
theorem xd_X14_order_10 : xchk1 cX14_order xk_X14_order_10 = true := xwalk_of 161 (by decide +kernel)
set_option maxRecDepth 100000 in
def xk_X14_order : XT (Instr × Nat) := [(17, xk_X14_order_0),
  (29, xk_X14_order_1),
  (45, xk_X14_order_2),
  (65, xk_X14_order_3),
  (83, xk_X14_order_4),
  (96, xk_X14_order_5),
  (110, xk_X14_order_6),
  (129, xk_X14_order_7),
  (143, xk_X14_order_8),
  (161, xk_X14_order_9),
  (100000, xk_X14_order_10)]
set_option maxRecDepth 100000 in
theorem xd_X14_order : xchk cX14_order xk_X14_order = true := (xchk_cons xd_X14_order_0 (xchk_cons xd_X14_order_1 (xchk_cons xd_X14_order_2 (xchk_cons xd_X14_order_3 (xchk_cons xd_X14_order_4 (xchk_cons xd_X14_order_5 (xchk_cons xd_X14_order_6 (xchk_cons xd_X14_order_7 (xchk_cons xd_X14_order_8 (xchk_cons xd_X14_order_9 (xchk_cons xd_X14_order_10 xchk_nil)))))))))))
set_option maxRecDepth 100000 in
def xk_X14_orphans : XT (Instr × Nat) := [(10, [(0, .aload_n 0, 1), (1, .iconst 0, 1), (2, .putfield 134, 3), (5, .aload_n 0, 1), (6, .invokevirtual 344, 3), (9, .astore_n 1, 1)]),
  (18, [(10, .aload_n 0, 1), (11, .aload_n 1, 1), (12, .invokevirtual 530, 3), (15, .iconst 0, 1), (16, .istore_n 2, 1), (17, .iconst 0, 1)]),
  (27, [(18, .istore_n 3, 1), (19, .iload_n 3, 1), (20, .bipush 12, 2), (22, .if_icmp .ge 36, 3), (25, .iload_n 2, 1), (26, .aload_n 1, 1)]),
  (37, [(27, .iload_n 3, 1), (28, .iaload, 1), (29, .iconst (-1), 1), (30, .if_icmp .eq 19, 3), (33, .aload_n 0, 1), (34, .getfield 121, 3)]),
  (45, [(37, .iload_n 3, 1), (38, .iaload, 1), (39, .iconst (-1), 1), (40, .if_icmp .ne 9, 3), (43, .iconst 1, 1), (44, .iload_n 3, 1)]),
  (55, [(45, .ishl, 1), (46, .goto 4, 3), (49, .iconst 0, 1), (50, .ior, 1), (51, .istore_n 2, 1), (52, .iinc 3 1, 3)]),
  (100000, [(55, .goto (-36), 3), (58, .iload_n 2, 1), (59, .ireturn, 1)])]
set_option maxRecDepth 100000 in
theorem xd_X14_orphans : xchk cX14_orphans xk_X14_orphans = true := xchk_of (by decide +kernel)
set_option maxRecDepth 100000 in
def xk_X14_owner : XT (Instr × Nat) := [(8, [(0, .aload_n 0, 1), (1, .iconst 0, 1), (2, .putfield 134, 3), (5, .aload_n 0, 1), (6, .iload_n 1, 1), (7, .iconst 0, 1)]),
  (21, [(8, .bipush 30, 2), (10, .invokestatic 158, 3), (13, .iconst 1, 1), (14, .invokevirtual 180, 3), (17, .ifCond .eq 5, 3), (20, .iconst 0, 1)]),
  (29, [(21, .ireturn, 1), (22, .aload_n 0, 1), (23, .invokevirtual 344, 3), (26, .astore_n 2, 1), (27, .iconst 0, 1), (28, .istore_n 3, 1)]),
  (38, [(29, .iload_n 3, 1), (30, .bipush 12, 2), (32, .if_icmp .ge 37, 3), (35, .aload_n 2, 1), (36, .iload_n 3, 1), (37, .iaload, 1)]),
  (46, [(38, .iconst (-1), 1), (39, .if_icmp .eq 24, 3), (42, .aload_n 0, 1), (43, .aload_n 0, 1), (44, .aload_n 2, 1), (45, .iload_n 3, 1)]),
  (56, [(46, .invokevirtual 297, 3), (49, .iconst 2, 1), (50, .invokevirtual 163, 3), (53, .iload_n 1, 1), (54, .ishr, 1), (55, .iconst 1, 1)]),
  (66, [(56, .iand, 1), (57, .iconst 1, 1), (58, .if_icmp .ne 5, 3), (61, .iload_n 3, 1), (62, .ireturn, 1), (63, .iinc 3 1, 3)]),
  (100000, [(66, .goto (-37), 3), (69, .iconst (-1), 1), (70, .ireturn, 1)])]
set_option maxRecDepth 100000 in
theorem xd_X14_owner : xchk cX14_owner xk_X14_owner = true := xchk_of (by decide +kernel)
set_option maxRecDepth 100000 in
def xk_X14_pack : XT (Instr × Nat) := [(7, [(0, .aload_n 0, 1), (1, .iconst 0, 1), (2, .putfield 134, 3), (5, .aload_n 0, 1), (6, .aload_n 0, 1)]),
  (17, [(7, .getfield 9, 3), (10, .iconst 0, 1), (11, .iaload, 1), (12, .bipush 12, 2), (14, .if_icmp .ge 7, 3)]),
  (26, [(17, .iconst 1, 1), (18, .goto 4, 3), (21, .iconst 0, 1), (22, .iconst 1, 1), (23, .invokevirtual 180, 3)]),
  (35, [(26, .ifCond .eq 5, 3), (29, .iconst 0, 1), (30, .ireturn, 1), (31, .aload_n 0, 1), (32, .invokevirtual 411, 3)]),
  (42, [(35, .aload_n 0, 1), (36, .getfield 9, 3), (39, .iconst 0, 1), (40, .dup2, 1), (41, .iaload, 1)]),
  (49, [(42, .iconst 1, 1), (43, .iadd, 1), (44, .iastore, 1), (45, .aload_n 0, 1), (46, .getfield 9, 3)]),
  (100000, [(49, .iconst 0, 1), (50, .iaload, 1), (51, .iconst 1, 1), (52, .isub, 1), (53, .ireturn, 1)])]
set_option maxRecDepth 100000 in
theorem xd_X14_pack : xchk cX14_pack xk_X14_pack = true := xchk_of (by decide +kernel)
set_option maxRecDepth 100000 in
def xk_X14_pin_0 : List (Nat × Instr × Nat) := [(0, .aload_n 0, 1), (1, .iconst 0, 1), (2, .putfield 134, 3), (5, .aload_n 0, 1), (6, .aload_n 0, 1), (7, .iload_n 1, 1), (8, .invokevirtual 200, 3), (11, .iconst 1, 1), (12, .invokevirtual 180, 3)]
set_option maxRecDepth 100000 in
theorem xd_X14_pin_0 : xchk1 cX14_pin xk_X14_pin_0 = true := xwalk_of 0 (by decide +kernel)
set_option maxRecDepth 100000 in
def xk_X14_pin_1 : List (Nat × Instr × Nat) := [(15, .ifCond .eq 5, 3), (18, .iconst 0, 1), (19, .ireturn, 1), (20, .aload_n 0, 1), (21, .getfield 177, 3), (24, .ifCond .ne 7, 3), (27, .iconst 1, 1), (28, .goto 4, 3), (31, .iconst 0, 1)]
set_option maxRecDepth 100000 in
theorem xd_X14_pin_1 : xchk1 cX14_pin xk_X14_pin_1 = true := xwalk_of 15 (by decide +kernel)
set_option maxRecDepth 100000 in
def xk_X14_pin_2 : List (Nat × Instr × Nat) := [(32, .istore_n 2, 1), (33, .aconst_null, 1), (34, .astore_n 3, 1), (35, .iload_n 2, 1), (36, .ifCond .eq 11, 3), (39, .aload_n 0, 1), (40, .iconst (-1), 1), (41, .putfield 25, 3), (44, .goto 28, 3)]
set_option maxRecDepth 100000 in
theorem xd_X14_pin_2 : xchk1 cX14_pin xk_X14_pin_2 = true := xwalk_of 32 (by decide +kernel)
set_option maxRecDepth 100000 in
def xk_X14_pin_3 : List (Nat × Instr × Nat) := [(47, .aload_n 0, 1), (48, .iload_n 1, 1), (49, .invokevirtual 513, 3), (52, .astore_n 3, 1), (53, .aload_n 0, 1), (54, .aload_n 3, 1), (55, .ifnull 7, 3), (58, .iconst 1, 1), (59, .goto 4, 3)]
set_option maxRecDepth 100000 in
theorem xd_X14_pin_3 : xchk1 cX14_pin xk_X14_pin_3 = true := xwalk_of 47 (by decide +kernel)
set_option maxRecDepth 100000 in
def xk_X14_pin_4 : List (Nat × Instr × Nat) := [(62, .iconst 0, 1), (63, .iconst 2, 1), (64, .invokevirtual 180, 3), (67, .ifCond .eq 5, 3), (70, .iconst 0, 1), (71, .ireturn, 1), (72, .aload_n 0, 1), (73, .invokevirtual 411, 3), (76, .aload_n 0, 1)]
set_option maxRecDepth 100000 in
theorem xd_X14_pin_4 : xchk1 cX14_pin xk_X14_pin_4 = true := xwalk_of 62 (by decide +kernel)
set_option maxRecDepth 100000 in
def xk_X14_pin_5 : List (Nat × Instr × Nat) := [(77, .bipush 10, 2), (79, .iload_n 1, 1), (80, .iadd, 1), (81, .iload_n 2, 1), (82, .ifCond .eq 7, 3), (85, .iconst 0, 1), (86, .goto 10, 3), (89, .aload_n 0, 1), (90, .aload_n 3, 1)]
set_option maxRecDepth 100000 in
theorem xd_X14_pin_5 : xchk1 cX14_pin xk_X14_pin_5 = true := xwalk_of 77 (by decide +kernel)
set_option maxRecDepth 100000 in
def xk_X14_pin_6 : List (Nat × Instr × Nat) := [(91, .invokevirtual 503, 3), (94, .iconst 1, 1), (95, .iadd, 1), (96, .invokevirtual 516, 3), (99, .iconst 0, 1), (100, .istore 4, 2), (102, .iconst 0, 1), (103, .istore 5, 2), (105, .iload 5, 2)]
set_option maxRecDepth 100000 in
theorem xd_X14_pin_6 : xchk1 cX14_pin xk_X14_pin_6 = true := xwalk_of 91 (by decide +kernel)
set_option maxRecDepth 100000 in
def xk_X14_pin_7 : List (Nat × Instr × Nat) := [(107, .bipush 12, 2), (109, .if_icmp .ge 31, 3), (112, .iload 4, 2), (114, .aload_n 0, 1), (115, .bipush 10, 2), (117, .iload 5, 2), (119, .iadd, 1), (120, .invokevirtual 312, 3), (123, .ifCond .le 7, 3)]
set_option maxRecDepth 100000 in
theorem xd_X14_pin_7 : xchk1 cX14_pin xk_X14_pin_7 = true := xwalk_of 107 (by decide +kernel)
set_option maxRecDepth 100000 in
def xk_X14_pin_8 : List (Nat × Instr × Nat) := [(126, .iconst 1, 1), (127, .goto 4, 3), (130, .iconst 0, 1), (131, .iadd, 1), (132, .istore 4, 2), (134, .iinc 5 1, 3), (137, .goto (-32), 3), (140, .iload 4, 2), (142, .ireturn, 1)]
set_option maxRecDepth 100000 in
theorem xd_X14_pin_8 : xchk1 cX14_pin xk_X14_pin_8 = true := xwalk_of 126 (by decide +kernel)
set_option maxRecDepth 100000 in
def xk_X14_pin : XT (Instr × Nat) := [(15, xk_X14_pin_0),
  (32, xk_X14_pin_1),
  (47, xk_X14_pin_2),
  (62, xk_X14_pin_3),
  (77, xk_X14_pin_4),
  (91, xk_X14_pin_5),
  (107, xk_X14_pin_6),
  (126, xk_X14_pin_7),
  (100000, xk_X14_pin_8)]
set_option maxRecDepth 100000 in
theorem xd_X14_pin : xchk cX14_pin xk_X14_pin = true := (xchk_cons xd_X14_pin_0 (xchk_cons xd_X14_pin_1 (xchk_cons xd_X14_pin_2 (xchk_cons xd_X14_pin_3 (xchk_cons xd_X14_pin_4 (xchk_cons xd_X14_pin_5 (xchk_cons xd_X14_pin_6 (xchk_cons xd_X14_pin_7 (xchk_cons xd_X14_pin_8 xchk_nil)))))))))
set_option maxRecDepth 100000 in
def xk_X14_plan : XT (Instr × Nat) := [(6, [(0, .aload_n 0, 1), (1, .iconst 0, 1), (2, .putfield 134, 3), (5, .aload_n 0, 1)]),
  (12, [(6, .invokevirtual 523, 3), (9, .astore_n 1, 1), (10, .aload_n 0, 1), (11, .aload_n 0, 1)]),
  (20, [(12, .aload_n 1, 1), (13, .invokevirtual 326, 3), (16, .iconst 1, 1), (17, .invokevirtual 180, 3)]),
  (26, [(20, .ifCond .eq 5, 3), (23, .iconst 0, 1), (24, .ireturn, 1), (25, .aload_n 0, 1)]),
  (34, [(26, .aload_n 0, 1), (27, .invokevirtual 344, 3), (30, .aload_n 1, 1), (31, .invokevirtual 571, 3)]),
  (100000, [(34, .aload_n 0, 1), (35, .getfield 568, 3), (38, .ireturn, 1)])]
set_option maxRecDepth 100000 in
theorem xd_X14_plan : xchk cX14_plan xk_X14_plan = true := xchk_of (by decide +kernel)
set_option maxRecDepth 100000 in
def xk_X14_planAt : XT (Instr × Nat) := [(10, [(0, .aload_n 0, 1), (1, .iconst 0, 1), (2, .putfield 134, 3), (5, .aload_n 0, 1), (6, .invokevirtual 523, 3), (9, .astore_n 2, 1)]),
  (20, [(10, .aload_n 0, 1), (11, .aload_n 0, 1), (12, .aload_n 2, 1), (13, .invokevirtual 326, 3), (16, .iconst 1, 1), (17, .invokevirtual 180, 3)]),
  (30, [(20, .ifCond .eq 5, 3), (23, .iconst 0, 1), (24, .ireturn, 1), (25, .aload_n 0, 1), (26, .aload_n 0, 1), (27, .invokevirtual 344, 3)]),
  (38, [(30, .aload_n 2, 1), (31, .invokevirtual 571, 3), (34, .aload_n 0, 1), (35, .iload_n 1, 1), (36, .iconst 0, 1), (37, .aload_n 0, 1)]),
  (50, [(38, .getfield 568, 3), (41, .iconst 1, 1), (42, .isub, 1), (43, .invokestatic 158, 3), (46, .iconst 2, 1), (47, .invokevirtual 180, 3)]),
  (62, [(50, .ifCond .eq 7, 3), (53, .iconst 0, 1), (54, .goto 9, 3), (57, .aload_n 0, 1), (58, .getfield 130, 3), (61, .iload_n 1, 1)]),
  (100000, [(62, .iaload, 1), (63, .ireturn, 1)])]
set_option maxRecDepth 100000 in
theorem xd_X14_planAt : xchk cX14_planAt xk_X14_planAt = true := xchk_of (by decide +kernel)
set_option maxRecDepth 100000 in
def xk_X14_proof : XT (Instr × Nat) := [(6, [(0, .aload_n 0, 1), (1, .iconst 0, 1), (2, .putfield 134, 3), (5, .aload_n 0, 1)]),
  (100000, [(6, .invokevirtual 483, 3), (9, .aload_n 0, 1), (10, .getfield 459, 3), (13, .ireturn, 1)])]
set_option maxRecDepth 100000 in
theorem xd_X14_proof : xchk cX14_proof xk_X14_proof = true := xchk_of (by decide +kernel)
set_option maxRecDepth 100000 in
def xk_X14_proofAt : XT (Instr × Nat) := [(11, [(0, .aload_n 0, 1), (1, .iconst 0, 1), (2, .putfield 134, 3), (5, .aload_n 0, 1), (6, .invokevirtual 483, 3), (9, .aload_n 0, 1), (10, .iload_n 1, 1)]),
  (22, [(11, .iconst 0, 1), (12, .aload_n 0, 1), (13, .getfield 459, 3), (16, .iconst 1, 1), (17, .isub, 1), (18, .invokestatic 158, 3), (21, .iconst 1, 1)]),
  (35, [(22, .invokevirtual 180, 3), (25, .ifCond .ne 17, 3), (28, .aload_n 0, 1), (29, .iload_n 2, 1), (30, .iconst 0, 1), (31, .iconst 2, 1), (32, .invokestatic 158, 3)]),
  (48, [(35, .iconst 2, 1), (36, .invokevirtual 180, 3), (39, .ifCond .eq 5, 3), (42, .iconst 0, 1), (43, .ireturn, 1), (44, .iload_n 2, 1), (45, .ifCond .ne 12, 3)]),
  (59, [(48, .aload_n 0, 1), (49, .getfield 100, 3), (52, .iload_n 1, 1), (53, .iaload, 1), (54, .goto 36, 3), (57, .iload_n 2, 1), (58, .iconst 1, 1)]),
  (72, [(59, .if_icmp .ne 12, 3), (62, .aload_n 0, 1), (63, .getfield 103, 3), (66, .iload_n 1, 1), (67, .iaload, 1), (68, .goto 22, 3), (71, .aload_n 0, 1)]),
  (85, [(72, .getfield 94, 3), (75, .iload_n 1, 1), (76, .laload, 1), (77, .invokestatic 361, 3), (80, .aload_n 0, 1), (81, .getfield 97, 3), (84, .iload_n 1, 1)]),
  (100000, [(85, .laload, 1), (86, .invokestatic 361, 3), (89, .iadd, 1), (90, .ireturn, 1)])]
set_option maxRecDepth 100000 in
theorem xd_X14_proofAt : xchk cX14_proofAt xk_X14_proofAt = true := xchk_of (by decide +kernel)
set_option maxRecDepth 100000 in
def xk_X14_proofErrors_0 : List (Nat × Instr × Nat) := [(0, .aload_n 0, 1), (1, .invokevirtual 483, 3), (4, .aload_n 0, 1), (5, .getfield 459, 3), (8, .ifCond .le 39, 3), (11, .aload_n 0, 1), (12, .getfield 94, 3), (15, .aload_n 0, 1), (16, .getfield 459, 3), (19, .iconst 1, 1), (20, .isub, 1)]
set_option maxRecDepth 100000 in
theorem xd_X14_proofErrors_0 : xchk1 cX14_proofErrors xk_X14_proofErrors_0 = true := xwalk_of 0 (by decide +kernel)
set_option maxRecDepth 100000 in
def xk_X14_proofErrors_1 : List (Nat × Instr × Nat) := [(21, .laload, 1), (22, .lconst 0, 1), (23, .lcmp, 1), (24, .ifCond .ne 19, 3), (27, .aload_n 0, 1), (28, .getfield 97, 3), (31, .aload_n 0, 1), (32, .getfield 459, 3), (35, .iconst 1, 1), (36, .isub, 1), (37, .laload, 1)]
set_option maxRecDepth 100000 in
theorem xd_X14_proofErrors_1 : xchk1 cX14_proofErrors xk_X14_proofErrors_1 = true := xwalk_of 21 (by decide +kernel)
set_option maxRecDepth 100000 in
def xk_X14_proofErrors_2 : List (Nat × Instr × Nat) := [(38, .lconst 0, 1), (39, .lcmp, 1), (40, .ifCond .eq 7, 3), (43, .iconst 1, 1), (44, .goto 4, 3), (47, .iconst 0, 1), (48, .istore_n 1, 1), (49, .iconst 0, 1), (50, .istore_n 2, 1), (51, .iload_n 2, 1), (52, .aload_n 0, 1)]
set_option maxRecDepth 100000 in
theorem xd_X14_proofErrors_2 : xchk1 cX14_proofErrors xk_X14_proofErrors_2 = true := xwalk_of 38 (by decide +kernel)
set_option maxRecDepth 100000 in
def xk_X14_proofErrors_3 : List (Nat × Instr × Nat) := [(53, .getfield 459, 3), (56, .if_icmp .ge 157, 3), (59, .aload_n 0, 1), (60, .getfield 100, 3), (63, .iload_n 2, 1), (64, .iaload, 1), (65, .iconst (-1), 1), (66, .if_icmp .ne 6, 3), (69, .goto 138, 3), (72, .aload_n 0, 1), (73, .getfield 100, 3)]
set_option maxRecDepth 100000 in
theorem xd_X14_proofErrors_3 : xchk1 cX14_proofErrors xk_X14_proofErrors_3 = true := xwalk_of 53 (by decide +kernel)
set_option maxRecDepth 100000 in
def xk_X14_proofErrors_4 : List (Nat × Instr × Nat) := [(76, .iload_n 2, 1), (77, .iaload, 1), (78, .istore_n 3, 1), (79, .aload_n 0, 1), (80, .getfield 103, 3), (83, .iload_n 2, 1), (84, .iaload, 1), (85, .istore 4, 2), (87, .aload_n 0, 1), (88, .getfield 94, 3), (91, .iload_n 3, 1)]
set_option maxRecDepth 100000 in
theorem xd_X14_proofErrors_4 : xchk1 cX14_proofErrors xk_X14_proofErrors_4 = true := xwalk_of 76 (by decide +kernel)
set_option maxRecDepth 100000 in
def xk_X14_proofErrors_5 : List (Nat × Instr × Nat) := [(92, .laload, 1), (93, .aload_n 0, 1), (94, .getfield 97, 3), (97, .iload 4, 2), (99, .laload, 1), (100, .land, 1), (101, .aload_n 0, 1), (102, .getfield 97, 3), (105, .iload_n 3, 1), (106, .laload, 1), (107, .aload_n 0, 1)]
set_option maxRecDepth 100000 in
theorem xd_X14_proofErrors_5 : xchk1 cX14_proofErrors xk_X14_proofErrors_5 = true := xwalk_of 92 (by decide +kernel)
set_option maxRecDepth 100000 in
def xk_X14_proofErrors_6 : List (Nat × Instr × Nat) := [(108, .getfield 94, 3), (111, .iload 4, 2), (113, .laload, 1), (114, .land, 1), (115, .lor, 1), (116, .lstore 5, 2), (118, .aload_n 0, 1), (119, .getfield 94, 3), (122, .iload_n 3, 1), (123, .laload, 1), (124, .aload_n 0, 1)]
set_option maxRecDepth 100000 in
theorem xd_X14_proofErrors_6 : xchk1 cX14_proofErrors xk_X14_proofErrors_6 = true := xwalk_of 108 (by decide +kernel)
set_option maxRecDepth 100000 in
def xk_X14_proofErrors_7 : List (Nat × Instr × Nat) := [(125, .getfield 94, 3), (128, .iload 4, 2), (130, .laload, 1), (131, .lor, 1), (132, .lload 5, 2), (134, .ldc2_w 359, 3), (137, .lxor, 1), (138, .land, 1), (139, .lstore 7, 2), (141, .aload_n 0, 1), (142, .getfield 97, 3)]
set_option maxRecDepth 100000 in
theorem xd_X14_proofErrors_7 : xchk1 cX14_proofErrors xk_X14_proofErrors_7 = true := xwalk_of 125 (by decide +kernel)
set_option maxRecDepth 100000 in
def xk_X14_proofErrors_8 : List (Nat × Instr × Nat) := [(145, .iload_n 3, 1), (146, .laload, 1), (147, .aload_n 0, 1), (148, .getfield 97, 3), (151, .iload 4, 2), (153, .laload, 1), (154, .lor, 1), (155, .lload 5, 2), (157, .ldc2_w 359, 3), (160, .lxor, 1), (161, .land, 1)]
set_option maxRecDepth 100000 in
theorem xd_X14_proofErrors_8 : xchk1 cX14_proofErrors xk_X14_proofErrors_8 = true := xwalk_of 145 (by decide +kernel)
set_option maxRecDepth 100000 in
def xk_X14_proofErrors_9 : List (Nat × Instr × Nat) := [(162, .lstore 9, 2), (164, .iload_n 1, 1), (165, .ifCond .ne 36, 3), (168, .lload 5, 2), (170, .invokestatic 361, 3), (173, .iconst 1, 1), (174, .if_icmp .ne 27, 3), (177, .lload 7, 2), (179, .aload_n 0, 1), (180, .getfield 94, 3), (183, .iload_n 2, 1)]
set_option maxRecDepth 100000 in
theorem xd_X14_proofErrors_9 : xchk1 cX14_proofErrors xk_X14_proofErrors_9 = true := xwalk_of 162 (by decide +kernel)
set_option maxRecDepth 100000 in
def xk_X14_proofErrors_10 : List (Nat × Instr × Nat) := [(184, .laload, 1), (185, .lcmp, 1), (186, .ifCond .ne 15, 3), (189, .lload 9, 2), (191, .aload_n 0, 1), (192, .getfield 97, 3), (195, .iload_n 2, 1), (196, .laload, 1), (197, .lcmp, 1), (198, .ifCond .eq 7, 3), (201, .iconst 1, 1)]
set_option maxRecDepth 100000 in
theorem xd_X14_proofErrors_10 : xchk1 cX14_proofErrors xk_X14_proofErrors_10 = true := xwalk_of 184 (by decide +kernel)
set_option maxRecDepth 100000 in
def xk_X14_proofErrors_11 : List (Nat × Instr × Nat) := [(202, .goto 4, 3), (205, .iconst 0, 1), (206, .istore_n 1, 1), (207, .iinc 2 1, 3), (210, .goto (-159), 3), (213, .iload_n 1, 1), (214, .ifCond .eq 7, 3), (217, .iconst 1, 1), (218, .goto 4, 3), (221, .iconst 0, 1), (222, .ireturn, 1)]
set_option maxRecDepth 100000 in
theorem xd_X14_proofErrors_11 : xchk1 cX14_proofErrors xk_X14_proofErrors_11 = true := xwalk_of 202 (by decide +kernel)
set_option maxRecDepth 100000 in
def xk_X14_proofErrors : XT (Instr × Nat) := [(21, xk_X14_proofErrors_0),
  (38, xk_X14_proofErrors_1),
  (53, xk_X14_proofErrors_2),
  (76, xk_X14_proofErrors_3),
  (92, xk_X14_proofErrors_4),
  (108, xk_X14_proofErrors_5),
  (125, xk_X14_proofErrors_6),
  (145, xk_X14_proofErrors_7),
  (162, xk_X14_proofErrors_8),
  (184, xk_X14_proofErrors_9),
  (202, xk_X14_proofErrors_10),
  (100000, xk_X14_proofErrors_11)]
set_option maxRecDepth 100000 in
theorem xd_X14_proofErrors : xchk cX14_proofErrors xk_X14_proofErrors = true := (xchk_cons xd_X14_proofErrors_0 (xchk_cons xd_X14_proofErrors_1 (xchk_cons xd_X14_proofErrors_2 (xchk_cons xd_X14_proofErrors_3 (xchk_cons xd_X14_proofErrors_4 (xchk_cons xd_X14_proofErrors_5 (xchk_cons xd_X14_proofErrors_6 (xchk_cons xd_X14_proofErrors_7 (xchk_cons xd_X14_proofErrors_8 (xchk_cons xd_X14_proofErrors_9 (xchk_cons xd_X14_proofErrors_10 (xchk_cons xd_X14_proofErrors_11 xchk_nil))))))))))))
set_option maxRecDepth 100000 in
def xk_X14_provide_0 : List (Nat × Instr × Nat) := [(0, .aload_n 0, 1), (1, .iconst 0, 1), (2, .putfield 134, 3), (5, .aload_n 0, 1), (6, .aload_n 0, 1), (7, .iload_n 1, 1), (8, .iload_n 2, 1), (9, .invokevirtual 493, 3), (12, .ifCond .eq 15, 3)]
set_option maxRecDepth 100000 in
theorem xd_X14_provide_0 : xchk1 cX14_provide xk_X14_provide_0 = true := xwalk_of 0 (by decide +kernel)
set_option maxRecDepth 100000 in
def xk_X14_provide_1 : List (Nat × Instr × Nat) := [(15, .aload_n 0, 1), (16, .iload_n 3, 1), (17, .invokevirtual 200, 3), (20, .ifCond .eq 7, 3), (23, .iconst 1, 1), (24, .goto 4, 3), (27, .iconst 0, 1), (28, .iconst 1, 1), (29, .invokevirtual 180, 3)]
set_option maxRecDepth 100000 in
theorem xd_X14_provide_1 : xchk1 cX14_provide xk_X14_provide_1 = true := xwalk_of 15 (by decide +kernel)
set_option maxRecDepth 100000 in
def xk_X14_provide_2 : List (Nat × Instr × Nat) := [(32, .ifCond .ne 29, 3), (35, .aload_n 0, 1), (36, .iload_n 3, 1), (37, .iload_n 1, 1), (38, .if_icmp .eq 15, 3), (41, .iload 4, 2), (43, .invokestatic 486, 3), (46, .ifCond .eq 7, 3), (49, .iconst 1, 1)]
set_option maxRecDepth 100000 in
theorem xd_X14_provide_2 : xchk1 cX14_provide xk_X14_provide_2 = true := xwalk_of 32 (by decide +kernel)
set_option maxRecDepth 100000 in
def xk_X14_provide_3 : List (Nat × Instr × Nat) := [(50, .goto 4, 3), (53, .iconst 0, 1), (54, .iconst 2, 1), (55, .invokevirtual 180, 3), (58, .ifCond .eq 5, 3), (61, .iconst 0, 1), (62, .ireturn, 1), (63, .aload_n 0, 1), (64, .iload_n 1, 1)]
set_option maxRecDepth 100000 in
theorem xd_X14_provide_3 : xchk1 cX14_provide xk_X14_provide_3 = true := xwalk_of 50 (by decide +kernel)
set_option maxRecDepth 100000 in
def xk_X14_provide_4 : List (Nat × Instr × Nat) := [(65, .iload_n 2, 1), (66, .invokevirtual 290, 3), (69, .istore 5, 2), (71, .aload_n 0, 1), (72, .aload_n 0, 1), (73, .iload 5, 2), (75, .bipush 15, 2), (77, .invokevirtual 163, 3), (80, .iconst 2, 1)]
set_option maxRecDepth 100000 in
theorem xd_X14_provide_4 : xchk1 cX14_provide xk_X14_provide_4 = true := xwalk_of 65 (by decide +kernel)
set_option maxRecDepth 100000 in
def xk_X14_provide_5 : List (Nat × Instr × Nat) := [(81, .if_icmp .ge 16, 3), (84, .aload_n 0, 1), (85, .iload 5, 2), (87, .invokevirtual 496, 3), (90, .ifCond .ne 7, 3), (93, .iconst 1, 1), (94, .goto 4, 3), (97, .iconst 0, 1), (98, .iconst 3, 1)]
set_option maxRecDepth 100000 in
theorem xd_X14_provide_5 : xchk1 cX14_provide xk_X14_provide_5 = true := xwalk_of 81 (by decide +kernel)
set_option maxRecDepth 100000 in
def xk_X14_provide_6 : List (Nat × Instr × Nat) := [(99, .invokevirtual 180, 3), (102, .ifCond .eq 5, 3), (105, .iconst 0, 1), (106, .ireturn, 1), (107, .aload_n 0, 1), (108, .invokevirtual 411, 3), (111, .aload_n 0, 1), (112, .iload 5, 2), (114, .bipush 15, 2)]
set_option maxRecDepth 100000 in
theorem xd_X14_provide_6 : xchk1 cX14_provide xk_X14_provide_6 = true := xwalk_of 99 (by decide +kernel)
set_option maxRecDepth 100000 in
def xk_X14_provide_7 : List (Nat × Instr × Nat) := [(116, .invokevirtual 163, 3), (119, .istore 6, 2), (121, .aload_n 0, 1), (122, .iload 5, 2), (124, .bipush 16, 2), (126, .iconst 2, 1), (127, .iload 6, 2), (129, .imul, 1), (130, .iadd, 1)]
set_option maxRecDepth 100000 in
theorem xd_X14_provide_7 : xchk1 cX14_provide xk_X14_provide_7 = true := xwalk_of 116 (by decide +kernel)
set_option maxRecDepth 100000 in
def xk_X14_provide_8 : List (Nat × Instr × Nat) := [(131, .iload_n 3, 1), (132, .invokevirtual 489, 3), (135, .aload_n 0, 1), (136, .iload 5, 2), (138, .bipush 16, 2), (140, .iconst 2, 1), (141, .iload 6, 2), (143, .imul, 1), (144, .iadd, 1)]
set_option maxRecDepth 100000 in
theorem xd_X14_provide_8 : xchk1 cX14_provide xk_X14_provide_8 = true := xwalk_of 131 (by decide +kernel)
set_option maxRecDepth 100000 in
def xk_X14_provide_9 : List (Nat × Instr × Nat) := [(145, .iconst 1, 1), (146, .iadd, 1), (147, .iload 4, 2), (149, .invokevirtual 489, 3), (152, .aload_n 0, 1), (153, .iload 5, 2), (155, .bipush 15, 2), (157, .iload 6, 2), (159, .iconst 1, 1)]
set_option maxRecDepth 100000 in
theorem xd_X14_provide_9 : xchk1 cX14_provide xk_X14_provide_9 = true := xwalk_of 145 (by decide +kernel)
set_option maxRecDepth 100000 in
def xk_X14_provide_10 : List (Nat × Instr × Nat) := [(160, .iadd, 1), (161, .invokevirtual 489, 3), (164, .iload 6, 2), (166, .iconst 1, 1), (167, .iadd, 1), (168, .ireturn, 1)]
set_option maxRecDepth 100000 in
theorem xd_X14_provide_10 : xchk1 cX14_provide xk_X14_provide_10 = true := xwalk_of 160 (by decide +kernel)
set_option maxRecDepth 100000 in
def xk_X14_provide : XT (Instr × Nat) := [(15, xk_X14_provide_0),
  (32, xk_X14_provide_1),
  (50, xk_X14_provide_2),
  (65, xk_X14_provide_3),
  (81, xk_X14_provide_4),
  (99, xk_X14_provide_5),
  (116, xk_X14_provide_6),
  (131, xk_X14_provide_7),
  (145, xk_X14_provide_8),
  (160, xk_X14_provide_9),
  (100000, xk_X14_provide_10)]
set_option maxRecDepth 100000 in
theorem xd_X14_provide : xchk cX14_provide xk_X14_provide = true := (xchk_cons xd_X14_provide_0 (xchk_cons xd_X14_provide_1 (xchk_cons xd_X14_provide_2 (xchk_cons xd_X14_provide_3 (xchk_cons xd_X14_provide_4 (xchk_cons xd_X14_provide_5 (xchk_cons xd_X14_provide_6 (xchk_cons xd_X14_provide_7 (xchk_cons xd_X14_provide_8 (xchk_cons xd_X14_provide_9 (xchk_cons xd_X14_provide_10 xchk_nil)))))))))))
set_option maxRecDepth 100000 in
def xk_X14_put : XT (Instr × Nat) := [(7, [(0, .aload_n 0, 1), (1, .getfield 9, 3), (4, .iconst 5, 1), (5, .bipush 20, 2)]),
  (11, [(7, .iload_n 1, 1), (8, .imul, 1), (9, .iadd, 1), (10, .iload_n 2, 1)]),
  (100000, [(11, .iadd, 1), (12, .iload_n 3, 1), (13, .iastore, 1), (14, .return_, 1)])]
set_option maxRecDepth 100000 in
theorem xd_X14_put : xchk cX14_put xk_X14_put = true := xchk_of (by decide +kernel)
set_option maxRecDepth 100000 in
def xk_X14_putGoal : XT (Instr × Nat) := [(6, [(0, .aload_n 1, 1), (1, .iconst 0, 1), (2, .aload_n 0, 1), (3, .getfield 9, 3)]),
  (14, [(6, .sipush 805, 3), (9, .aload_n 0, 1), (10, .getfield 9, 3), (13, .iconst 1, 1)]),
  (20, [(14, .iaload, 1), (15, .sipush 291, 3), (18, .imul, 1), (19, .iadd, 1)]),
  (28, [(20, .bipush 35, 2), (22, .iadd, 1), (23, .bipush 12, 2), (25, .invokestatic 140, 3)]),
  (100000, [(28, .return_, 1)])]
set_option maxRecDepth 100000 in
theorem xd_X14_putGoal : xchk cX14_putGoal xk_X14_putGoal = true := xchk_of (by decide +kernel)
set_option maxRecDepth 100000 in
def xk_X14_putRoot : XT (Instr × Nat) := [(8, [(0, .aload_n 0, 1), (1, .getfield 9, 3), (4, .sipush 805, 3), (7, .aload_n 0, 1)]),
  (16, [(8, .getfield 9, 3), (11, .iconst 1, 1), (12, .iaload, 1), (13, .sipush 291, 3)]),
  (20, [(16, .imul, 1), (17, .iadd, 1), (18, .iload_n 1, 1), (19, .iadd, 1)]),
  (100000, [(20, .iload_n 2, 1), (21, .iastore, 1), (22, .return_, 1)])]
set_option maxRecDepth 100000 in
theorem xd_X14_putRoot : xchk cX14_putRoot xk_X14_putRoot = true := xchk_of (by decide +kernel)
set_option maxRecDepth 100000 in
def xk_X14_quota : XT (Instr × Nat) := [(7, [(0, .aload_n 0, 1), (1, .iconst 0, 1), (2, .putfield 134, 3), (5, .aload_n 0, 1), (6, .iload_n 1, 1)]),
  (17, [(7, .iconst 0, 1), (8, .ldc 133, 2), (10, .invokestatic 158, 3), (13, .iconst 1, 1), (14, .invokevirtual 180, 3)]),
  (26, [(17, .ifCond .eq 5, 3), (20, .iconst 0, 1), (21, .ireturn, 1), (22, .aload_n 0, 1), (23, .invokevirtual 411, 3)]),
  (34, [(26, .aload_n 0, 1), (27, .bipush 22, 2), (29, .invokevirtual 312, 3), (32, .istore_n 2, 1), (33, .aload_n 0, 1)]),
  (100000, [(34, .bipush 22, 2), (36, .iload_n 1, 1), (37, .invokevirtual 516, 3), (40, .iload_n 2, 1), (41, .ireturn, 1)])]
set_option maxRecDepth 100000 in
theorem xd_X14_quota : xchk cX14_quota xk_X14_quota = true := xchk_of (by decide +kernel)
set_option maxRecDepth 100000 in
def xk_X14_reach_0 : List (Nat × Instr × Nat) := [(0, .iconst 0, 1), (1, .istore_n 2, 1), (2, .iload_n 2, 1), (3, .bipush 12, 2), (5, .if_icmp .ge 23, 3), (8, .aload_n 0, 1), (9, .getfield 118, 3), (12, .iload_n 2, 1), (13, .iconst (-1), 1), (14, .iastore, 1), (15, .aload_n 0, 1)]
set_option maxRecDepth 100000 in
theorem xd_X14_reach_0 : xchk1 cX14_reach xk_X14_reach_0 = true := xwalk_of 0 (by decide +kernel)
set_option maxRecDepth 100000 in
def xk_X14_reach_1 : List (Nat × Instr × Nat) := [(16, .getfield 121, 3), (19, .iload_n 2, 1), (20, .iconst (-1), 1), (21, .iastore, 1), (22, .iinc 2 1, 3), (25, .goto (-23), 3), (28, .iconst 0, 1), (29, .istore_n 2, 1), (30, .iload_n 2, 1), (31, .aload_n 0, 1), (32, .iconst 0, 1)]
set_option maxRecDepth 100000 in
theorem xd_X14_reach_1 : xchk1 cX14_reach xk_X14_reach_1 = true := xwalk_of 16 (by decide +kernel)
set_option maxRecDepth 100000 in
def xk_X14_reach_2 : List (Nat × Instr × Nat) := [(33, .invokevirtual 312, 3), (36, .if_icmp .ge 83, 3), (39, .iconst 0, 1), (40, .istore_n 3, 1), (41, .iload_n 3, 1), (42, .bipush 12, 2), (44, .if_icmp .ge 69, 3), (47, .aload_n 0, 1), (48, .iload_n 2, 1), (49, .invokevirtual 322, 3), (52, .ifnull 61, 3)]
set_option maxRecDepth 100000 in
theorem xd_X14_reach_2 : xchk1 cX14_reach xk_X14_reach_2 = true := xwalk_of 33 (by decide +kernel)
set_option maxRecDepth 100000 in
def xk_X14_reach_3 : List (Nat × Instr × Nat) := [(55, .aload_n 1, 1), (56, .iload_n 3, 1), (57, .iaload, 1), (58, .iconst (-1), 1), (59, .if_icmp .eq 48, 3), (62, .aload_n 0, 1), (63, .getfield 121, 3), (66, .iload_n 3, 1), (67, .iaload, 1), (68, .iconst (-1), 1), (69, .if_icmp .ne 38, 3)]
set_option maxRecDepth 100000 in
theorem xd_X14_reach_3 : xchk1 cX14_reach xk_X14_reach_3 = true := xwalk_of 55 (by decide +kernel)
set_option maxRecDepth 100000 in
def xk_X14_reach_4 : List (Nat × Instr × Nat) := [(72, .aload_n 0, 1), (73, .aload_n 0, 1), (74, .iload_n 2, 1), (75, .invokevirtual 322, 3), (78, .aload_n 0, 1), (79, .aload_n 1, 1), (80, .iload_n 3, 1), (81, .invokevirtual 297, 3), (84, .invokevirtual 301, 3), (87, .ifCond .eq 20, 3), (90, .aload_n 0, 1)]
set_option maxRecDepth 100000 in
theorem xd_X14_reach_4 : xchk1 cX14_reach xk_X14_reach_4 = true := xwalk_of 72 (by decide +kernel)
set_option maxRecDepth 100000 in
def xk_X14_reach_5 : List (Nat × Instr × Nat) := [(91, .getfield 118, 3), (94, .iload_n 3, 1), (95, .bipush 100, 2), (97, .iload_n 2, 1), (98, .iadd, 1), (99, .iastore, 1), (100, .aload_n 0, 1), (101, .getfield 121, 3), (104, .iload_n 3, 1), (105, .iconst 1, 1), (106, .iastore, 1)]
set_option maxRecDepth 100000 in
theorem xd_X14_reach_5 : xchk1 cX14_reach xk_X14_reach_5 = true := xwalk_of 91 (by decide +kernel)
set_option maxRecDepth 100000 in
def xk_X14_reach_6 : List (Nat × Instr × Nat) := [(107, .iinc 3 1, 3), (110, .goto (-69), 3), (113, .iinc 2 1, 3), (116, .goto (-86), 3), (119, .iconst 1, 1), (120, .istore_n 2, 1), (121, .iload_n 2, 1), (122, .bipush 12, 2), (124, .if_icmp .ge 102, 3), (127, .iconst 0, 1), (128, .istore_n 3, 1)]
set_option maxRecDepth 100000 in
theorem xd_X14_reach_6 : xchk1 cX14_reach xk_X14_reach_6 = true := xwalk_of 107 (by decide +kernel)
set_option maxRecDepth 100000 in
def xk_X14_reach_7 : List (Nat × Instr × Nat) := [(129, .iload_n 3, 1), (130, .bipush 12, 2), (132, .if_icmp .ge 88, 3), (135, .iconst 0, 1), (136, .istore 4, 2), (138, .iload 4, 2), (140, .bipush 12, 2), (142, .if_icmp .ge 72, 3), (145, .aload_n 0, 1), (146, .getfield 121, 3), (149, .iload_n 3, 1)]
set_option maxRecDepth 100000 in
theorem xd_X14_reach_7 : xchk1 cX14_reach xk_X14_reach_7 = true := xwalk_of 129 (by decide +kernel)
set_option maxRecDepth 100000 in
def xk_X14_reach_8 : List (Nat × Instr × Nat) := [(150, .iaload, 1), (151, .iload_n 2, 1), (152, .if_icmp .ne 62, 3), (155, .aload_n 1, 1), (156, .iload 4, 2), (158, .iaload, 1), (159, .iconst (-1), 1), (160, .if_icmp .eq 48, 3), (163, .aload_n 0, 1), (164, .getfield 121, 3), (167, .iload 4, 2)]
set_option maxRecDepth 100000 in
theorem xd_X14_reach_8 : xchk1 cX14_reach xk_X14_reach_8 = true := xwalk_of 150 (by decide +kernel)
set_option maxRecDepth 100000 in
def xk_X14_reach_9 : List (Nat × Instr × Nat) := [(169, .iaload, 1), (170, .iconst (-1), 1), (171, .if_icmp .ne 37, 3), (174, .aload_n 0, 1), (175, .aload_n 1, 1), (176, .iload_n 3, 1), (177, .aload_n 0, 1), (178, .aload_n 1, 1), (179, .iload 4, 2), (181, .invokevirtual 297, 3), (184, .invokevirtual 526, 3)]
set_option maxRecDepth 100000 in
theorem xd_X14_reach_9 : xchk1 cX14_reach xk_X14_reach_9 = true := xwalk_of 169 (by decide +kernel)
set_option maxRecDepth 100000 in
def xk_X14_reach_10 : List (Nat × Instr × Nat) := [(187, .ifCond .eq 21, 3), (190, .aload_n 0, 1), (191, .getfield 118, 3), (194, .iload 4, 2), (196, .iload_n 3, 1), (197, .iastore, 1), (198, .aload_n 0, 1), (199, .getfield 121, 3), (202, .iload 4, 2), (204, .iload_n 2, 1), (205, .iconst 1, 1)]
set_option maxRecDepth 100000 in
theorem xd_X14_reach_10 : xchk1 cX14_reach xk_X14_reach_10 = true := xwalk_of 187 (by decide +kernel)
set_option maxRecDepth 100000 in
def xk_X14_reach_11 : List (Nat × Instr × Nat) := [(206, .iadd, 1), (207, .iastore, 1), (208, .iinc 4 1, 3), (211, .goto (-73), 3), (214, .iinc 3 1, 3), (217, .goto (-88), 3), (220, .iinc 2 1, 3), (223, .goto (-102), 3), (226, .return_, 1)]
set_option maxRecDepth 100000 in
theorem xd_X14_reach_11 : xchk1 cX14_reach xk_X14_reach_11 = true := xwalk_of 206 (by decide +kernel)
set_option maxRecDepth 100000 in
def xk_X14_reach : XT (Instr × Nat) := [(16, xk_X14_reach_0),
  (33, xk_X14_reach_1),
  (55, xk_X14_reach_2),
  (72, xk_X14_reach_3),
  (91, xk_X14_reach_4),
  (107, xk_X14_reach_5),
  (129, xk_X14_reach_6),
  (150, xk_X14_reach_7),
  (169, xk_X14_reach_8),
  (187, xk_X14_reach_9),
  (206, xk_X14_reach_10),
  (100000, xk_X14_reach_11)]
set_option maxRecDepth 100000 in
theorem xd_X14_reach : xchk cX14_reach xk_X14_reach = true := (xchk_cons xd_X14_reach_0 (xchk_cons xd_X14_reach_1 (xchk_cons xd_X14_reach_2 (xchk_cons xd_X14_reach_3 (xchk_cons xd_X14_reach_4 (xchk_cons xd_X14_reach_5 (xchk_cons xd_X14_reach_6 (xchk_cons xd_X14_reach_7 (xchk_cons xd_X14_reach_8 (xchk_cons xd_X14_reach_9 (xchk_cons xd_X14_reach_10 (xchk_cons xd_X14_reach_11 xchk_nil))))))))))))
set_option maxRecDepth 100000 in
def xk_X14_readAtom : XT (Instr × Nat) := [(8, [(0, .aload_n 0, 1), (1, .invokevirtual 234, 3), (4, .ifCond .eq 21, 3), (7, .aload_n 0, 1)]),
  (18, [(8, .invokevirtual 237, 3), (11, .ifCond .eq 10, 3), (14, .aload_n 0, 1), (15, .invokevirtual 240, 3)]),
  (26, [(18, .ifCond .eq 7, 3), (21, .iconst 1, 1), (22, .goto 4, 3), (25, .iconst 0, 1)]),
  (100000, [(26, .ireturn, 1)])]
set_option maxRecDepth 100000 in
theorem xd_X14_readAtom : xchk cX14_readAtom xk_X14_readAtom = true := xchk_of (by decide +kernel)
set_option maxRecDepth 100000 in
def xk_X14_readBan : XT (Instr × Nat) := [(6, [(0, .aload_n 0, 1), (1, .invokevirtual 246, 3), (4, .aload_n 0, 1), (5, .aload_n 0, 1)]),
  (16, [(6, .invokevirtual 256, 3), (9, .ifCond .eq 14, 3), (12, .aload_n 0, 1), (13, .invokevirtual 253, 3)]),
  (24, [(16, .ifCond .eq 7, 3), (19, .iconst 1, 1), (20, .goto 4, 3), (23, .iconst 0, 1)]),
  (100000, [(24, .iconst 0, 1), (25, .invokevirtual 249, 3), (28, .areturn, 1)])]
set_option maxRecDepth 100000 in
theorem xd_X14_readBan : xchk cX14_readBan xk_X14_readBan = true := xchk_of (by decide +kernel)
set_option maxRecDepth 100000 in
def xk_X14_readLetter : XT (Instr × Nat) := [(11, [(0, .aload_n 0, 1), (1, .getfield 190, 3), (4, .ifCond .eq 8, 3), (7, .aload_n 0, 1), (8, .invokevirtual 206, 3)]),
  (20, [(11, .ireturn, 1), (12, .aload_n 0, 1), (13, .getfield 37, 3), (16, .aload_n 0, 1), (17, .getfield 231, 3)]),
  (29, [(20, .aload_n 0, 1), (21, .getfield 197, 3), (24, .iastore, 1), (25, .aload_n 0, 1), (26, .getfield 40, 3)]),
  (38, [(29, .aload_n 0, 1), (30, .getfield 231, 3), (33, .aload_n 0, 1), (34, .getfield 219, 3), (37, .iastore, 1)]),
  (45, [(38, .aload_n 0, 1), (39, .dup, 1), (40, .getfield 231, 3), (43, .iconst 1, 1), (44, .iadd, 1)]),
  (100000, [(45, .putfield 231, 3), (48, .aload_n 0, 1), (49, .invokevirtual 210, 3), (52, .iconst 1, 1), (53, .ireturn, 1)])]
set_option maxRecDepth 100000 in
theorem xd_X14_readLetter : xchk cX14_readLetter xk_X14_readLetter = true := xchk_of (by decide +kernel)
set_option maxRecDepth 100000 in
def xk_X14_readNeed : XT (Instr × Nat) := [(14, [(0, .aload_n 0, 1), (1, .invokevirtual 246, 3), (4, .aload_n 0, 1), (5, .invokevirtual 234, 3), (8, .ifCond .ne 10, 3), (11, .aload_n 0, 1), (12, .iconst 0, 1), (13, .iconst 0, 1)]),
  (31, [(14, .invokevirtual 249, 3), (17, .areturn, 1), (18, .aload_n 0, 1), (19, .bipush 35, 2), (21, .invokevirtual 213, 3), (24, .ifCond .eq 40, 3), (27, .aload_n 0, 1), (28, .invokevirtual 210, 3)]),
  (47, [(31, .aload_n 0, 1), (32, .aload_n 0, 1), (33, .getfield 190, 3), (36, .iconst 5, 1), (37, .if_icmp .eq 10, 3), (40, .aload_n 0, 1), (41, .invokevirtual 240, 3), (44, .ifCond .eq 14, 3)]),
  (63, [(47, .aload_n 0, 1), (48, .invokevirtual 253, 3), (51, .ifCond .eq 7, 3), (54, .iconst 1, 1), (55, .goto 4, 3), (58, .iconst 0, 1), (59, .iconst 1, 1), (60, .invokevirtual 249, 3)]),
  (79, [(63, .areturn, 1), (64, .aload_n 0, 1), (65, .invokevirtual 237, 3), (68, .ifCond .eq 10, 3), (71, .aload_n 0, 1), (72, .invokevirtual 240, 3), (75, .ifCond .eq 7, 3), (78, .iconst 1, 1)]),
  (94, [(79, .goto 4, 3), (82, .iconst 0, 1), (83, .istore_n 1, 1), (84, .iload_n 1, 1), (85, .ifCond .eq 24, 3), (88, .aload_n 0, 1), (89, .bipush 124, 2), (91, .invokevirtual 213, 3)]),
  (110, [(94, .ifCond .eq 15, 3), (97, .aload_n 0, 1), (98, .invokevirtual 210, 3), (101, .aload_n 0, 1), (102, .invokevirtual 256, 3), (105, .istore_n 1, 1), (106, .goto (-22), 3), (109, .aload_n 0, 1)]),
  (126, [(110, .iload_n 1, 1), (111, .ifCond .eq 14, 3), (114, .aload_n 0, 1), (115, .invokevirtual 253, 3), (118, .ifCond .eq 7, 3), (121, .iconst 1, 1), (122, .goto 4, 3), (125, .iconst 0, 1)]),
  (100000, [(126, .iconst 0, 1), (127, .invokevirtual 249, 3), (130, .areturn, 1)])]
set_option maxRecDepth 100000 in
theorem xd_X14_readNeed : xchk cX14_readNeed xk_X14_readNeed = true := xchk_of (by decide +kernel)
set_option maxRecDepth 100000 in
def xk_X14_readRange : XT (Instr × Nat) := [(6, [(0, .aload_n 0, 1), (1, .invokevirtual 228, 3), (4, .istore_n 1, 1), (5, .iload_n 1, 1)]),
  (15, [(6, .ifCond .eq 24, 3), (9, .aload_n 0, 1), (10, .bipush 44, 2), (12, .invokevirtual 213, 3)]),
  (23, [(15, .ifCond .eq 15, 3), (18, .aload_n 0, 1), (19, .invokevirtual 210, 3), (22, .aload_n 0, 1)]),
  (31, [(23, .invokevirtual 228, 3), (26, .istore_n 1, 1), (27, .goto (-22), 3), (30, .iload_n 1, 1)]),
  (100000, [(31, .ireturn, 1)])]
set_option maxRecDepth 100000 in
theorem xd_X14_readRange : xchk cX14_readRange xk_X14_readRange = true := xchk_of (by decide +kernel)
set_option maxRecDepth 100000 in
def xk_X14_readRangeOf : XT (Instr × Nat) := [(9, [(0, .aload_n 0, 1), (1, .invokevirtual 246, 3), (4, .aload_n 0, 1), (5, .getfield 37, 3), (8, .iconst 0, 1)]),
  (16, [(9, .iload_n 1, 1), (10, .iastore, 1), (11, .aload_n 0, 1), (12, .getfield 40, 3), (15, .iconst 0, 1)]),
  (23, [(16, .iconst 0, 1), (17, .iastore, 1), (18, .aload_n 0, 1), (19, .iconst 1, 1), (20, .putfield 231, 3)]),
  (32, [(23, .aload_n 0, 1), (24, .aload_n 0, 1), (25, .invokevirtual 240, 3), (28, .ifCond .eq 14, 3), (31, .aload_n 0, 1)]),
  (43, [(32, .invokevirtual 253, 3), (35, .ifCond .eq 7, 3), (38, .iconst 1, 1), (39, .goto 4, 3), (42, .iconst 0, 1)]),
  (100000, [(43, .iconst 0, 1), (44, .invokevirtual 249, 3), (47, .areturn, 1)])]
set_option maxRecDepth 100000 in
theorem xd_X14_readRangeOf : xchk cX14_readRangeOf xk_X14_readRangeOf = true := xchk_of (by decide +kernel)
set_option maxRecDepth 100000 in
def xk_X14_readSpan_0 : List (Nat × Instr × Nat) := [(0, .aload_n 0, 1), (1, .bipush 42, 2), (3, .invokevirtual 213, 3), (6, .ifCond .eq 15, 3), (9, .aload_n 0, 1), (10, .invokevirtual 210, 3), (13, .aload_n 0, 1), (14, .iconst 0, 1), (15, .iconst 0, 1), (16, .iconst 0, 1)]
set_option maxRecDepth 100000 in
theorem xd_X14_readSpan_0 : xchk1 cX14_readSpan xk_X14_readSpan_0 = true := xwalk_of 0 (by decide +kernel)
set_option maxRecDepth 100000 in
def xk_X14_readSpan_1 : List (Nat × Instr × Nat) := [(17, .invokevirtual 222, 3), (20, .ireturn, 1), (21, .aload_n 0, 1), (22, .bipush 61, 2), (24, .invokevirtual 213, 3), (27, .ifCond .eq 7, 3), (30, .iconst 1, 1), (31, .goto 56, 3), (34, .aload_n 0, 1), (35, .bipush 62, 2)]
set_option maxRecDepth 100000 in
theorem xd_X14_readSpan_1 : xchk1 cX14_readSpan xk_X14_readSpan_1 = true := xwalk_of 17 (by decide +kernel)
set_option maxRecDepth 100000 in
def xk_X14_readSpan_2 : List (Nat × Instr × Nat) := [(37, .invokevirtual 213, 3), (40, .ifCond .eq 7, 3), (43, .iconst 2, 1), (44, .goto 43, 3), (47, .aload_n 0, 1), (48, .bipush 60, 2), (50, .invokevirtual 213, 3), (53, .ifCond .eq 7, 3), (56, .iconst 3, 1), (57, .goto 30, 3)]
set_option maxRecDepth 100000 in
theorem xd_X14_readSpan_2 : xchk1 cX14_readSpan xk_X14_readSpan_2 = true := xwalk_of 37 (by decide +kernel)
set_option maxRecDepth 100000 in
def xk_X14_readSpan_3 : List (Nat × Instr × Nat) := [(60, .aload_n 0, 1), (61, .bipush 94, 2), (63, .invokevirtual 213, 3), (66, .ifCond .eq 7, 3), (69, .iconst 4, 1), (70, .goto 17, 3), (73, .aload_n 0, 1), (74, .bipush 126, 2), (76, .invokevirtual 213, 3), (79, .ifCond .eq 7, 3)]
set_option maxRecDepth 100000 in
theorem xd_X14_readSpan_3 : xchk1 cX14_readSpan xk_X14_readSpan_3 = true := xwalk_of 60 (by decide +kernel)
set_option maxRecDepth 100000 in
def xk_X14_readSpan_4 : List (Nat × Instr × Nat) := [(82, .iconst 5, 1), (83, .goto 4, 3), (86, .iconst (-1), 1), (87, .istore_n 1, 1), (88, .iload_n 1, 1), (89, .iconst (-1), 1), (90, .if_icmp .eq 36, 3), (93, .aload_n 0, 1), (94, .invokevirtual 210, 3), (97, .aload_n 0, 1)]
set_option maxRecDepth 100000 in
theorem xd_X14_readSpan_4 : xchk1 cX14_readSpan xk_X14_readSpan_4 = true := xwalk_of 82 (by decide +kernel)
set_option maxRecDepth 100000 in
def xk_X14_readSpan_5 : List (Nat × Instr × Nat) := [(98, .invokevirtual 225, 3), (101, .ifCond .eq 23, 3), (104, .aload_n 0, 1), (105, .iload_n 1, 1), (106, .aload_n 0, 1), (107, .getfield 216, 3), (110, .aload_n 0, 1), (111, .getfield 216, 3), (114, .invokevirtual 222, 3), (117, .ifCond .eq 7, 3)]
set_option maxRecDepth 100000 in
theorem xd_X14_readSpan_5 : xchk1 cX14_readSpan xk_X14_readSpan_5 = true := xwalk_of 98 (by decide +kernel)
set_option maxRecDepth 100000 in
def xk_X14_readSpan_6 : List (Nat × Instr × Nat) := [(120, .iconst 1, 1), (121, .goto 4, 3), (124, .iconst 0, 1), (125, .ireturn, 1), (126, .aload_n 0, 1), (127, .invokevirtual 225, 3), (130, .ifCond .ne 5, 3), (133, .iconst 0, 1), (134, .ireturn, 1), (135, .aload_n 0, 1)]
set_option maxRecDepth 100000 in
theorem xd_X14_readSpan_6 : xchk1 cX14_readSpan xk_X14_readSpan_6 = true := xwalk_of 120 (by decide +kernel)
set_option maxRecDepth 100000 in
def xk_X14_readSpan_7 : List (Nat × Instr × Nat) := [(136, .getfield 216, 3), (139, .istore_n 2, 1), (140, .aload_n 0, 1), (141, .getfield 190, 3), (144, .iconst 3, 1), (145, .if_icmp .eq 11, 3), (148, .aload_n 0, 1), (149, .iconst 1, 1), (150, .iload_n 2, 1), (151, .iload_n 2, 1)]
set_option maxRecDepth 100000 in
theorem xd_X14_readSpan_7 : xchk1 cX14_readSpan xk_X14_readSpan_7 = true := xwalk_of 136 (by decide +kernel)
set_option maxRecDepth 100000 in
def xk_X14_readSpan_8 : List (Nat × Instr × Nat) := [(152, .invokevirtual 222, 3), (155, .ireturn, 1), (156, .aload_n 0, 1), (157, .getfield 187, 3), (160, .istore_n 3, 1), (161, .aload_n 0, 1), (162, .invokevirtual 210, 3), (165, .aload_n 0, 1), (166, .invokevirtual 225, 3), (169, .ifCond .ne 5, 3)]
set_option maxRecDepth 100000 in
theorem xd_X14_readSpan_8 : xchk1 cX14_readSpan xk_X14_readSpan_8 = true := xwalk_of 152 (by decide +kernel)
set_option maxRecDepth 100000 in
def xk_X14_readSpan_9 : List (Nat × Instr × Nat) := [(172, .iconst 0, 1), (173, .ireturn, 1), (174, .aload_n 0, 1), (175, .getfield 216, 3), (178, .iload_n 2, 1), (179, .if_icmp .ge 10, 3), (182, .aload_n 0, 1), (183, .iload_n 3, 1), (184, .putfield 203, 3), (187, .iconst 0, 1)]
set_option maxRecDepth 100000 in
theorem xd_X14_readSpan_9 : xchk1 cX14_readSpan xk_X14_readSpan_9 = true := xwalk_of 172 (by decide +kernel)
set_option maxRecDepth 100000 in
def xk_X14_readSpan_10 : List (Nat × Instr × Nat) := [(188, .ireturn, 1), (189, .aload_n 0, 1), (190, .bipush 6, 2), (192, .iload_n 2, 1), (193, .aload_n 0, 1), (194, .getfield 216, 3), (197, .invokevirtual 222, 3), (200, .ireturn, 1)]
set_option maxRecDepth 100000 in
theorem xd_X14_readSpan_10 : xchk1 cX14_readSpan xk_X14_readSpan_10 = true := xwalk_of 188 (by decide +kernel)
set_option maxRecDepth 100000 in
def xk_X14_readSpan : XT (Instr × Nat) := [(17, xk_X14_readSpan_0),
  (37, xk_X14_readSpan_1),
  (60, xk_X14_readSpan_2),
  (82, xk_X14_readSpan_3),
  (98, xk_X14_readSpan_4),
  (120, xk_X14_readSpan_5),
  (136, xk_X14_readSpan_6),
  (152, xk_X14_readSpan_7),
  (172, xk_X14_readSpan_8),
  (188, xk_X14_readSpan_9),
  (100000, xk_X14_readSpan_10)]
set_option maxRecDepth 100000 in
theorem xd_X14_readSpan : xchk cX14_readSpan xk_X14_readSpan = true := (xchk_cons xd_X14_readSpan_0 (xchk_cons xd_X14_readSpan_1 (xchk_cons xd_X14_readSpan_2 (xchk_cons xd_X14_readSpan_3 (xchk_cons xd_X14_readSpan_4 (xchk_cons xd_X14_readSpan_5 (xchk_cons xd_X14_readSpan_6 (xchk_cons xd_X14_readSpan_7 (xchk_cons xd_X14_readSpan_8 (xchk_cons xd_X14_readSpan_9 (xchk_cons xd_X14_readSpan_10 xchk_nil)))))))))))
set_option maxRecDepth 100000 in
def xk_X14_readVersion : XT (Instr × Nat) := [(16, [(0, .aload_n 0, 1), (1, .getfield 190, 3), (4, .iconst 1, 1), (5, .if_icmp .eq 8, 3), (8, .aload_n 0, 1), (9, .invokevirtual 206, 3), (12, .ireturn, 1), (13, .sipush 10000, 3)]),
  (29, [(16, .aload_n 0, 1), (17, .getfield 197, 3), (20, .imul, 1), (21, .istore_n 1, 1), (22, .aload_n 0, 1), (23, .invokevirtual 210, 3), (26, .aload_n 0, 1), (27, .bipush 46, 2)]),
  (45, [(29, .invokevirtual 213, 3), (32, .ifCond .ne 8, 3), (35, .aload_n 0, 1), (36, .invokevirtual 206, 3), (39, .ireturn, 1), (40, .aload_n 0, 1), (41, .invokevirtual 210, 3), (44, .aload_n 0, 1)]),
  (60, [(45, .getfield 190, 3), (48, .iconst 1, 1), (49, .if_icmp .eq 8, 3), (52, .aload_n 0, 1), (53, .invokevirtual 206, 3), (56, .ireturn, 1), (57, .iload_n 1, 1), (58, .bipush 100, 2)]),
  (71, [(60, .aload_n 0, 1), (61, .getfield 197, 3), (64, .imul, 1), (65, .bipush 99, 2), (67, .iadd, 1), (68, .iadd, 1), (69, .istore_n 1, 1), (70, .aload_n 0, 1)]),
  (88, [(71, .invokevirtual 210, 3), (74, .aload_n 0, 1), (75, .bipush 33, 2), (77, .invokevirtual 213, 3), (80, .ifCond .eq 47, 3), (83, .aload_n 0, 1), (84, .invokevirtual 210, 3), (87, .aload_n 0, 1)]),
  (105, [(88, .getfield 190, 3), (91, .iconst 1, 1), (92, .if_icmp .ne 16, 3), (95, .aload_n 0, 1), (96, .getfield 197, 3), (99, .iconst 1, 1), (100, .bipush 98, 2), (102, .invokestatic 158, 3)]),
  (120, [(105, .ifCond .ne 8, 3), (108, .aload_n 0, 1), (109, .invokevirtual 206, 3), (112, .ireturn, 1), (113, .iload_n 1, 1), (114, .aload_n 0, 1), (115, .getfield 197, 3), (118, .bipush 99, 2)]),
  (132, [(120, .isub, 1), (121, .iadd, 1), (122, .istore_n 1, 1), (123, .aload_n 0, 1), (124, .invokevirtual 210, 3), (127, .aload_n 0, 1), (128, .iload_n 1, 1), (129, .putfield 216, 3)]),
  (100000, [(132, .iconst 1, 1), (133, .ireturn, 1)])]
set_option maxRecDepth 100000 in
theorem xd_X14_readVersion : xchk cX14_readVersion xk_X14_readVersion = true := xchk_of (by decide +kernel)
set_option maxRecDepth 100000 in
def xk_X14_record : XT (Instr × Nat) := [(9, [(0, .aload_n 0, 1), (1, .getfield 9, 3), (4, .iconst 0, 1), (5, .aload_n 0, 1), (6, .getfield 13, 3)]),
  (20, [(9, .aload_n 0, 1), (10, .getfield 137, 3), (13, .sipush 1957, 3), (16, .imul, 1), (17, .sipush 1957, 3)]),
  (29, [(20, .invokestatic 140, 3), (23, .aload_n 0, 1), (24, .aload_n 0, 1), (25, .getfield 137, 3), (28, .iconst 1, 1)]),
  (37, [(29, .iadd, 1), (30, .bipush 10, 2), (32, .irem, 1), (33, .putfield 137, 3), (36, .aload_n 0, 1)]),
  (45, [(37, .bipush 10, 2), (39, .aload_n 0, 1), (40, .getfield 146, 3), (43, .iconst 1, 1), (44, .iadd, 1)]),
  (56, [(45, .invokestatic 149, 3), (48, .putfield 146, 3), (51, .aload_n 0, 1), (52, .dup, 1), (53, .getfield 155, 3)]),
  (100000, [(56, .iconst 1, 1), (57, .iadd, 1), (58, .putfield 155, 3), (61, .return_, 1)])]
set_option maxRecDepth 100000 in
theorem xd_X14_record : xchk cX14_record xk_X14_record = true := xchk_of (by decide +kernel)
set_option maxRecDepth 100000 in
def xk_X14_refused : XT (Instr × Nat) := [(6, [(0, .iload_n 1, 1), (1, .ifCond .ne 8, 3), (4, .aload_n 0, 1), (5, .iload_n 2, 1)]),
  (14, [(6, .putfield 134, 3), (9, .iload_n 1, 1), (10, .ifCond .ne 7, 3), (13, .iconst 1, 1)]),
  (100000, [(14, .goto 4, 3), (17, .iconst 0, 1), (18, .ireturn, 1)])]
set_option maxRecDepth 100000 in
theorem xd_X14_refused : xchk cX14_refused xk_X14_refused = true := xchk_of (by decide +kernel)
set_option maxRecDepth 100000 in
def xk_X14_root : XT (Instr × Nat) := [(7, [(0, .aload_n 0, 1), (1, .iconst 0, 1), (2, .putfield 134, 3), (5, .aload_n 0, 1), (6, .iload_n 1, 1)]),
  (16, [(7, .iconst 0, 1), (8, .iconst 2, 1), (9, .invokestatic 158, 3), (12, .iconst 1, 1), (13, .invokevirtual 180, 3)]),
  (25, [(16, .ifCond .eq 5, 3), (19, .iconst 0, 1), (20, .ireturn, 1), (21, .aload_n 0, 1), (22, .invokevirtual 411, 3)]),
  (32, [(25, .aload_n 0, 1), (26, .getfield 9, 3), (29, .iconst 1, 1), (30, .iaload, 1), (31, .istore_n 2, 1)]),
  (39, [(32, .aload_n 0, 1), (33, .getfield 9, 3), (36, .iconst 1, 1), (37, .iload_n 1, 1), (38, .iastore, 1)]),
  (100000, [(39, .iload_n 2, 1), (40, .ireturn, 1)])]
set_option maxRecDepth 100000 in
theorem xd_X14_root : xchk cX14_root xk_X14_root = true := xchk_of (by decide +kernel)
set_option maxRecDepth 100000 in
def xk_X14_rootAt : XT (Instr × Nat) := [(8, [(0, .aload_n 0, 1), (1, .getfield 9, 3), (4, .sipush 805, 3), (7, .aload_n 0, 1)]),
  (16, [(8, .getfield 9, 3), (11, .iconst 1, 1), (12, .iaload, 1), (13, .sipush 291, 3)]),
  (20, [(16, .imul, 1), (17, .iadd, 1), (18, .iload_n 1, 1), (19, .iadd, 1)]),
  (100000, [(20, .iaload, 1), (21, .ireturn, 1)])]
set_option maxRecDepth 100000 in
theorem xd_X14_rootAt : xchk cX14_rootAt xk_X14_rootAt = true := xchk_of (by decide +kernel)
set_option maxRecDepth 100000 in
def xk_X14_scriptAt : XT (Instr × Nat) := [(7, [(0, .aload_n 0, 1), (1, .iconst 0, 1), (2, .putfield 134, 3), (5, .aload_n 0, 1), (6, .aload_n 0, 1)]),
  (16, [(7, .invokevirtual 523, 3), (10, .invokevirtual 554, 3), (13, .aload_n 0, 1), (14, .iload_n 1, 1), (15, .iconst 0, 1)]),
  (25, [(16, .aload_n 0, 1), (17, .getfield 545, 3), (20, .invokestatic 557, 3), (23, .iconst 1, 1), (24, .isub, 1)]),
  (36, [(25, .invokestatic 158, 3), (28, .iconst 1, 1), (29, .invokevirtual 180, 3), (32, .ifCond .eq 7, 3), (35, .iconst 0, 1)]),
  (45, [(36, .goto 9, 3), (39, .aload_n 0, 1), (40, .getfield 127, 3), (43, .iload_n 1, 1), (44, .iaload, 1)]),
  (100000, [(45, .ireturn, 1)])]
set_option maxRecDepth 100000 in
theorem xd_X14_scriptAt : xchk cX14_scriptAt xk_X14_scriptAt = true := xchk_of (by decide +kernel)
set_option maxRecDepth 100000 in
def xk_X14_scripts : XT (Instr × Nat) := [(6, [(0, .aload_n 0, 1), (1, .iconst 0, 1), (2, .putfield 134, 3), (5, .aload_n 0, 1)]),
  (14, [(6, .aload_n 0, 1), (7, .invokevirtual 523, 3), (10, .invokevirtual 554, 3), (13, .aload_n 0, 1)]),
  (100000, [(14, .getfield 545, 3), (17, .ireturn, 1)])]
set_option maxRecDepth 100000 in
theorem xd_X14_scripts : xchk cX14_scripts xk_X14_scripts = true := xchk_of (by decide +kernel)
set_option maxRecDepth 100000 in
def xk_X14_search_0 : List (Nat × Instr × Nat) := [(0, .lload_n 1, 1), (1, .lstore 5, 2), (3, .lload_n 3, 1), (4, .lstore 7, 2), (6, .iconst (-1), 1), (7, .istore 9, 2), (9, .iconst 1, 1), (10, .istore 10, 2), (12, .iload 10, 2), (14, .ifCond .eq 168, 3), (17, .iconst 0, 1), (18, .istore 10, 2), (20, .iconst (-1), 1)]
set_option maxRecDepth 100000 in
theorem xd_X14_search_0 : xchk1 cX14_search xk_X14_search_0 = true := xwalk_of 0 (by decide +kernel)
set_option maxRecDepth 100000 in
def xk_X14_search_1 : List (Nat × Instr × Nat) := [(21, .istore 9, 2), (23, .iconst 0, 1), (24, .istore 11, 2), (26, .iload 11, 2), (28, .aload_n 0, 1), (29, .getfield 330, 3), (32, .if_icmp .ge 147, 3), (35, .aload_n 0, 1), (36, .getfield 69, 3), (39, .ifCond .ne 13, 3), (42, .aload_n 0, 1), (43, .getfield 65, 3), (46, .iload 11, 2)]
set_option maxRecDepth 100000 in
theorem xd_X14_search_1 : xchk1 cX14_search xk_X14_search_1 = true := xwalk_of 21 (by decide +kernel)
set_option maxRecDepth 100000 in
def xk_X14_search_2 : List (Nat × Instr × Nat) := [(48, .baload, 1), (49, .ifCond .eq 124, 3), (52, .aload_n 0, 1), (53, .getfield 46, 3), (56, .iload 11, 2), (58, .laload, 1), (59, .lload 5, 2), (61, .land, 1), (62, .lconst 0, 1), (63, .lcmp, 1), (64, .ifCond .ne 109, 3), (67, .aload_n 0, 1), (68, .getfield 50, 3)]
set_option maxRecDepth 100000 in
theorem xd_X14_search_2 : xchk1 cX14_search xk_X14_search_2 = true := xwalk_of 48 (by decide +kernel)
set_option maxRecDepth 100000 in
def xk_X14_search_3 : List (Nat × Instr × Nat) := [(71, .iload 11, 2), (73, .laload, 1), (74, .lload 7, 2), (76, .land, 1), (77, .lconst 0, 1), (78, .lcmp, 1), (79, .ifCond .eq 6, 3), (82, .goto 91, 3), (85, .aload_n 0, 1), (86, .getfield 46, 3), (89, .iload 11, 2), (91, .laload, 1), (92, .lload 7, 2)]
set_option maxRecDepth 100000 in
theorem xd_X14_search_3 : xchk1 cX14_search xk_X14_search_3 = true := xwalk_of 71 (by decide +kernel)
set_option maxRecDepth 100000 in
def xk_X14_search_4 : List (Nat × Instr × Nat) := [(94, .ldc2_w 359, 3), (97, .lxor, 1), (98, .land, 1), (99, .lstore 12, 2), (101, .aload_n 0, 1), (102, .getfield 50, 3), (105, .iload 11, 2), (107, .laload, 1), (108, .lload 5, 2), (110, .ldc2_w 359, 3), (113, .lxor, 1), (114, .land, 1), (115, .lstore 14, 2)]
set_option maxRecDepth 100000 in
theorem xd_X14_search_4 : xchk1 cX14_search xk_X14_search_4 = true := xwalk_of 94 (by decide +kernel)
set_option maxRecDepth 100000 in
def xk_X14_search_5 : List (Nat × Instr × Nat) := [(117, .lload 12, 2), (119, .invokestatic 361, 3), (122, .lload 14, 2), (124, .invokestatic 361, 3), (127, .iadd, 1), (128, .istore 16, 2), (130, .iload 16, 2), (132, .ifCond .ne 5, 3), (135, .iconst 0, 1), (136, .ireturn, 1), (137, .iload 16, 2), (139, .iconst 1, 1), (140, .if_icmp .ne 23, 3)]
set_option maxRecDepth 100000 in
theorem xd_X14_search_5 : xchk1 cX14_search xk_X14_search_5 = true := xwalk_of 117 (by decide +kernel)
set_option maxRecDepth 100000 in
def xk_X14_search_6 : List (Nat × Instr × Nat) := [(143, .lload 5, 2), (145, .lload 12, 2), (147, .lor, 1), (148, .lstore 5, 2), (150, .lload 7, 2), (152, .lload 14, 2), (154, .lor, 1), (155, .lstore 7, 2), (157, .iconst 1, 1), (158, .istore 10, 2), (160, .goto 13, 3), (163, .iload 9, 2), (165, .iconst (-1), 1)]
set_option maxRecDepth 100000 in
theorem xd_X14_search_6 : xchk1 cX14_search xk_X14_search_6 = true := xwalk_of 143 (by decide +kernel)
set_option maxRecDepth 100000 in
def xk_X14_search_7 : List (Nat × Instr × Nat) := [(166, .if_icmp .ne 7, 3), (169, .iload 11, 2), (171, .istore 9, 2), (173, .iinc 11 1, 3), (176, .goto (-150), 3), (179, .goto (-167), 3), (182, .aload_n 0, 1), (183, .getfield 73, 3), (186, .iconst (-1), 1), (187, .if_icmp .eq 20, 3), (190, .aload_n 0, 1), (191, .lload 5, 2), (193, .lload 7, 2)]
set_option maxRecDepth 100000 in
theorem xd_X14_search_7 : xchk1 cX14_search xk_X14_search_7 = true := xwalk_of 166 (by decide +kernel)
set_option maxRecDepth 100000 in
def xk_X14_search_8 : List (Nat × Instr × Nat) := [(195, .invokevirtual 367, 3), (198, .aload_n 0, 1), (199, .getfield 73, 3), (202, .if_icmp .le 5, 3), (205, .iconst 0, 1), (206, .ireturn, 1), (207, .iload 9, 2), (209, .iconst (-1), 1), (210, .if_icmp .ne 17, 3), (213, .aload_n 0, 1), (214, .lload 5, 2), (216, .putfield 371, 3), (219, .aload_n 0, 1)]
set_option maxRecDepth 100000 in
theorem xd_X14_search_8 : xchk1 cX14_search xk_X14_search_8 = true := xwalk_of 195 (by decide +kernel)
set_option maxRecDepth 100000 in
def xk_X14_search_9 : List (Nat × Instr × Nat) := [(220, .lload 7, 2), (222, .putfield 375, 3), (225, .iconst 1, 1), (226, .ireturn, 1), (227, .aload_n 0, 1), (228, .getfield 46, 3), (231, .iload 9, 2), (233, .laload, 1), (234, .lload 7, 2), (236, .ldc2_w 359, 3), (239, .lxor, 1), (240, .land, 1), (241, .lstore 11, 2)]
set_option maxRecDepth 100000 in
theorem xd_X14_search_9 : xchk1 cX14_search xk_X14_search_9 = true := xwalk_of 220 (by decide +kernel)
set_option maxRecDepth 100000 in
def xk_X14_search_10 : List (Nat × Instr × Nat) := [(243, .lload 11, 2), (245, .lconst 0, 1), (246, .lcmp, 1), (247, .ifCond .eq 8, 3), (250, .lload 11, 2), (252, .goto 17, 3), (255, .aload_n 0, 1), (256, .getfield 50, 3), (259, .iload 9, 2), (261, .laload, 1), (262, .lload 5, 2), (264, .ldc2_w 359, 3), (267, .lxor, 1)]
set_option maxRecDepth 100000 in
theorem xd_X14_search_10 : xchk1 cX14_search xk_X14_search_10 = true := xwalk_of 243 (by decide +kernel)
set_option maxRecDepth 100000 in
def xk_X14_search_11 : List (Nat × Instr × Nat) := [(268, .land, 1), (269, .invokestatic 378, 3), (272, .lstore 13, 2), (274, .lload 11, 2), (276, .lconst 0, 1), (277, .lcmp, 1), (278, .ifCond .eq 37, 3), (281, .aload_n 0, 1), (282, .lload 5, 2), (284, .lload 13, 2), (286, .lor, 1), (287, .lload 7, 2), (289, .invokevirtual 382, 3)]
set_option maxRecDepth 100000 in
theorem xd_X14_search_11 : xchk1 cX14_search xk_X14_search_11 = true := xwalk_of 268 (by decide +kernel)
set_option maxRecDepth 100000 in
def xk_X14_search_12 : List (Nat × Instr × Nat) := [(292, .ifCond .ne 17, 3), (295, .aload_n 0, 1), (296, .lload 5, 2), (298, .lload 7, 2), (300, .lload 13, 2), (302, .lor, 1), (303, .invokevirtual 382, 3), (306, .ifCond .eq 7, 3), (309, .iconst 1, 1), (310, .goto 4, 3), (313, .iconst 0, 1), (314, .ireturn, 1), (315, .aload_n 0, 1)]
set_option maxRecDepth 100000 in
theorem xd_X14_search_12 : xchk1 cX14_search xk_X14_search_12 = true := xwalk_of 292 (by decide +kernel)
set_option maxRecDepth 100000 in
def xk_X14_search_13 : List (Nat × Instr × Nat) := [(316, .lload 5, 2), (318, .lload 7, 2), (320, .lload 13, 2), (322, .lor, 1), (323, .invokevirtual 382, 3), (326, .ifCond .ne 17, 3), (329, .aload_n 0, 1), (330, .lload 5, 2), (332, .lload 13, 2), (334, .lor, 1), (335, .lload 7, 2), (337, .invokevirtual 382, 3), (340, .ifCond .eq 7, 3)]
set_option maxRecDepth 100000 in
theorem xd_X14_search_13 : xchk1 cX14_search xk_X14_search_13 = true := xwalk_of 316 (by decide +kernel)
set_option maxRecDepth 100000 in
def xk_X14_search_14 : List (Nat × Instr × Nat) := [(343, .iconst 1, 1), (344, .goto 4, 3), (347, .iconst 0, 1), (348, .ireturn, 1)]
set_option maxRecDepth 100000 in
theorem xd_X14_search_14 : xchk1 cX14_search xk_X14_search_14 = true := xwalk_of 343 (by decide +kernel)
set_option maxRecDepth 100000 in
def xk_X14_search : XT (Instr × Nat) := [(21, xk_X14_search_0),
  (48, xk_X14_search_1),
  (71, xk_X14_search_2),
  (94, xk_X14_search_3),
  (117, xk_X14_search_4),
  (143, xk_X14_search_5),
  (166, xk_X14_search_6),
  (195, xk_X14_search_7),
  (220, xk_X14_search_8),
  (243, xk_X14_search_9),
  (268, xk_X14_search_10),
  (292, xk_X14_search_11),
  (316, xk_X14_search_12),
  (343, xk_X14_search_13),
  (100000, xk_X14_search_14)]
set_option maxRecDepth 100000 in
theorem xd_X14_search : xchk cX14_search xk_X14_search = true := (xchk_cons xd_X14_search_0 (xchk_cons xd_X14_search_1 (xchk_cons xd_X14_search_2 (xchk_cons xd_X14_search_3 (xchk_cons xd_X14_search_4 (xchk_cons xd_X14_search_5 (xchk_cons xd_X14_search_6 (xchk_cons xd_X14_search_7 (xchk_cons xd_X14_search_8 (xchk_cons xd_X14_search_9 (xchk_cons xd_X14_search_10 (xchk_cons xd_X14_search_11 (xchk_cons xd_X14_search_12 (xchk_cons xd_X14_search_13 (xchk_cons xd_X14_search_14 xchk_nil)))))))))))))))
set_option maxRecDepth 100000 in
def xk_X14_setAt : XT (Instr × Nat) := [(6, [(0, .bipush 12, 2), (2, .newarray .int, 2), (4, .astore_n 2, 1), (5, .aload_n 0, 1)]),
  (12, [(6, .getfield 9, 3), (9, .iload_n 1, 1), (10, .aload_n 2, 1), (11, .iconst 0, 1)]),
  (100000, [(12, .bipush 12, 2), (14, .invokestatic 140, 3), (17, .aload_n 2, 1), (18, .areturn, 1)])]
set_option maxRecDepth 100000 in
theorem xd_X14_setAt : xchk cX14_setAt xk_X14_setAt = true := xchk_of (by decide +kernel)
set_option maxRecDepth 100000 in
def xk_X14_setMany : XT (Instr × Nat) := [(5, [(0, .iconst 1, 1), (1, .istore_n 1, 1), (2, .iconst 0, 1), (3, .istore_n 2, 1), (4, .iload_n 2, 1)]),
  (14, [(5, .aload_n 0, 1), (6, .getfield 9, 3), (9, .iconst 0, 1), (10, .iaload, 1), (11, .if_icmp .ge 41, 3)]),
  (23, [(14, .iload_n 1, 1), (15, .sipush 5000, 3), (18, .if_icmp .gt 34, 3), (21, .iload_n 1, 1), (22, .aload_n 0, 1)]),
  (30, [(23, .iload_n 2, 1), (24, .invokevirtual 352, 3), (27, .arraylength, 1), (28, .iconst 1, 1), (29, .iadd, 1)]),
  (39, [(30, .aload_n 0, 1), (31, .iload_n 2, 1), (32, .invokevirtual 422, 3), (35, .ifCond .eq 7, 3), (38, .iconst 2, 1)]),
  (46, [(39, .goto 4, 3), (42, .iconst 1, 1), (43, .imul, 1), (44, .imul, 1), (45, .istore_n 1, 1)]),
  (100000, [(46, .iinc 2 1, 3), (49, .goto (-45), 3), (52, .iload_n 1, 1), (53, .ireturn, 1)])]
set_option maxRecDepth 100000 in
theorem xd_X14_setMany : xchk cX14_setMany xk_X14_setMany = true := xchk_of (by decide +kernel)
set_option maxRecDepth 100000 in
def xk_X14_share : XT (Instr × Nat) := [(6, [(0, .aload_n 0, 1), (1, .iconst 0, 1), (2, .putfield 134, 3), (5, .aload_n 0, 1)]),
  (13, [(6, .bipush 22, 2), (8, .invokevirtual 312, 3), (11, .istore_n 1, 1), (12, .iload_n 1, 1)]),
  (21, [(13, .ifCond .ne 7, 3), (16, .fconst 0, 1), (17, .goto 15, 3), (20, .aload_n 0, 1)]),
  (29, [(21, .aload_n 0, 1), (22, .invokevirtual 344, 3), (25, .invokevirtual 583, 3), (28, .i2f, 1)]),
  (100000, [(29, .iload_n 1, 1), (30, .i2f, 1), (31, .fdiv, 1), (32, .freturn, 1)])]
set_option maxRecDepth 100000 in
theorem xd_X14_share : xchk cX14_share xk_X14_share = true := xchk_of (by decide +kernel)
set_option maxRecDepth 100000 in
def xk_X14_size : XT (Instr × Nat) := [(6, [(0, .aload_n 0, 1), (1, .iconst 0, 1), (2, .putfield 134, 3), (5, .aload_n 0, 1)]),
  (100000, [(6, .aload_n 0, 1), (7, .invokevirtual 344, 3), (10, .invokevirtual 583, 3), (13, .ireturn, 1)])]
set_option maxRecDepth 100000 in
theorem xd_X14_size : xchk cX14_size xk_X14_size = true := xchk_of (by decide +kernel)
set_option maxRecDepth 100000 in
def xk_X14_sizeOf : XT (Instr × Nat) := [(5, [(0, .iconst 0, 1), (1, .istore_n 2, 1), (2, .iconst 0, 1), (3, .istore_n 3, 1), (4, .iload_n 3, 1)]),
  (13, [(5, .bipush 12, 2), (7, .if_icmp .ge 34, 3), (10, .iload_n 2, 1), (11, .aload_n 1, 1), (12, .iload_n 3, 1)]),
  (22, [(13, .iaload, 1), (14, .iconst (-1), 1), (15, .if_icmp .ne 7, 3), (18, .iconst 0, 1), (19, .goto 14, 3)]),
  (29, [(22, .aload_n 0, 1), (23, .aload_n 0, 1), (24, .aload_n 1, 1), (25, .iload_n 3, 1), (26, .invokevirtual 297, 3)]),
  (38, [(29, .iconst 3, 1), (30, .invokevirtual 163, 3), (33, .iadd, 1), (34, .istore_n 2, 1), (35, .iinc 3 1, 3)]),
  (100000, [(38, .goto (-34), 3), (41, .iload_n 2, 1), (42, .ireturn, 1)])]
set_option maxRecDepth 100000 in
theorem xd_X14_sizeOf : xchk cX14_sizeOf xk_X14_sizeOf = true := xchk_of (by decide +kernel)
set_option maxRecDepth 100000 in
def xk_X14_slotIn : XT (Instr × Nat) := [(4, [(0, .aload_n 1, 1), (1, .iload_n 2, 1), (2, .iaload, 1), (3, .iconst (-1), 1)]),
  (12, [(4, .if_icmp .ne 7, 3), (7, .iconst (-1), 1), (8, .goto 15, 3), (11, .aload_n 0, 1)]),
  (16, [(12, .iload_n 2, 1), (13, .aload_n 1, 1), (14, .iload_n 2, 1), (15, .iaload, 1)]),
  (100000, [(16, .ldc_w 289, 3), (19, .irem, 1), (20, .invokevirtual 290, 3), (23, .ireturn, 1)])]
set_option maxRecDepth 100000 in
theorem xd_X14_slotIn : xchk cX14_slotIn xk_X14_slotIn = true := xchk_of (by decide +kernel)
set_option maxRecDepth 100000 in
def xk_X14_slotOf : XT (Instr × Nat) := [(7, [(0, .iconst 0, 1), (1, .istore_n 3, 1), (2, .iload_n 3, 1), (3, .aload_n 0, 1), (4, .getfield 9, 3)]),
  (14, [(7, .iconst 4, 1), (8, .iaload, 1), (9, .if_icmp .ge 31, 3), (12, .aload_n 0, 1), (13, .iload_n 3, 1)]),
  (23, [(14, .iconst 0, 1), (15, .invokevirtual 163, 3), (18, .iload_n 1, 1), (19, .if_icmp .ne 15, 3), (22, .aload_n 0, 1)]),
  (32, [(23, .iload_n 3, 1), (24, .iconst 1, 1), (25, .invokevirtual 163, 3), (28, .iload_n 2, 1), (29, .if_icmp .ne 5, 3)]),
  (41, [(32, .iload_n 3, 1), (33, .ireturn, 1), (34, .iinc 3 1, 3), (37, .goto (-35), 3), (40, .iconst (-1), 1)]),
  (100000, [(41, .ireturn, 1)])]
set_option maxRecDepth 100000 in
theorem xd_X14_slotOf : xchk cX14_slotOf xk_X14_slotOf = true := xchk_of (by decide +kernel)
set_option maxRecDepth 100000 in
def xk_X14_solve : XT (Instr × Nat) := [(6, [(0, .aload_n 0, 1), (1, .iconst 0, 1), (2, .putfield 134, 3), (5, .aload_n 0, 1)]),
  (12, [(6, .iload_n 1, 1), (7, .invokevirtual 407, 3), (10, .astore_n 2, 1), (11, .aload_n 0, 1)]),
  (20, [(12, .invokevirtual 411, 3), (15, .aload_n 2, 1), (16, .ifnonnull 5, 3), (19, .iconst (-1), 1)]),
  (26, [(20, .ireturn, 1), (21, .aload_n 0, 1), (22, .aload_n 2, 1), (23, .invokevirtual 414, 3)]),
  (100000, [(26, .aload_n 2, 1), (27, .invokestatic 418, 3), (30, .ireturn, 1)])]
set_option maxRecDepth 100000 in
theorem xd_X14_solve : xchk cX14_solve xk_X14_solve = true := xchk_of (by decide +kernel)
set_option maxRecDepth 100000 in
def xk_X14_sort : XT (Instr × Nat) := [(12, [(0, .bipush 8, 2), (2, .newarray .int, 2), (4, .astore_n 2, 1), (5, .iconst 0, 1), (6, .istore_n 3, 1), (7, .iconst 0, 1), (8, .istore 4, 2), (10, .iload 4, 2)]),
  (25, [(12, .aload_n 0, 1), (13, .getfield 9, 3), (16, .iconst 4, 1), (17, .iaload, 1), (18, .if_icmp .ge 74, 3), (21, .aload_n 0, 1), (22, .iload 4, 2), (24, .iconst 0, 1)]),
  (41, [(25, .invokevirtual 163, 3), (28, .iload_n 1, 1), (29, .if_icmp .ne 57, 3), (32, .iload_n 3, 1), (33, .istore 5, 2), (35, .iload 5, 2), (37, .ifCond .le 40, 3), (40, .aload_n 0, 1)]),
  (52, [(41, .aload_n 2, 1), (42, .iload 5, 2), (44, .iconst 1, 1), (45, .isub, 1), (46, .iaload, 1), (47, .iconst 1, 1), (48, .invokevirtual 163, 3), (51, .aload_n 0, 1)]),
  (67, [(52, .iload 4, 2), (54, .iconst 1, 1), (55, .invokevirtual 163, 3), (58, .if_icmp .le 19, 3), (61, .aload_n 2, 1), (62, .iload 5, 2), (64, .aload_n 2, 1), (65, .iload 5, 2)]),
  (80, [(67, .iconst 1, 1), (68, .isub, 1), (69, .iaload, 1), (70, .iastore, 1), (71, .iinc 5 (-1), 3), (74, .goto (-39), 3), (77, .aload_n 2, 1), (78, .iload 5, 2)]),
  (97, [(80, .iload 4, 2), (82, .iastore, 1), (83, .iinc 3 1, 3), (86, .iinc 4 1, 3), (89, .goto (-79), 3), (92, .iload_n 3, 1), (93, .newarray .int, 2), (95, .astore 4, 2)]),
  (100000, [(97, .aload_n 2, 1), (98, .iconst 0, 1), (99, .aload 4, 2), (101, .iconst 0, 1), (102, .iload_n 3, 1), (103, .invokestatic 140, 3), (106, .aload 4, 2), (108, .areturn, 1)])]
set_option maxRecDepth 100000 in
theorem xd_X14_sort : xchk cX14_sort xk_X14_sort = true := xchk_of (by decide +kernel)
set_option maxRecDepth 100000 in
def xk_X14_startText : XT (Instr × Nat) := [(6, [(0, .aload_n 0, 1), (1, .iconst 0, 1), (2, .putfield 184, 3), (5, .aload_n 0, 1)]),
  (12, [(6, .iconst 0, 1), (7, .putfield 231, 3), (10, .aload_n 0, 1), (11, .iconst 0, 1)]),
  (100000, [(12, .putfield 219, 3), (15, .aload_n 0, 1), (16, .invokevirtual 210, 3), (19, .return_, 1)])]
set_option maxRecDepth 100000 in
theorem xd_X14_startText : xchk cX14_startText xk_X14_startText = true := xchk_of (by decide +kernel)
set_option maxRecDepth 100000 in
def xk_X14_sumWrong : XT (Instr × Nat) := [(6, [(0, .aload_n 0, 1), (1, .iconst 0, 1), (2, .putfield 134, 3), (5, .aload_n 0, 1)]),
  (12, [(6, .aload_n 0, 1), (7, .iload_n 1, 1), (8, .invokevirtual 539, 3), (11, .iconst 1, 1)]),
  (22, [(12, .invokevirtual 180, 3), (15, .ifCond .eq 7, 3), (18, .iconst 0, 1), (19, .goto 16, 3)]),
  (31, [(22, .aload_n 0, 1), (23, .getfield 9, 3), (26, .sipush 1714, 3), (29, .bipush 81, 2)]),
  (35, [(31, .iload_n 1, 1), (32, .imul, 1), (33, .iadd, 1), (34, .iaload, 1)]),
  (100000, [(35, .ireturn, 1)])]
set_option maxRecDepth 100000 in
theorem xd_X14_sumWrong : xchk cX14_sumWrong xk_X14_sumWrong = true := xchk_of (by decide +kernel)
set_option maxRecDepth 100000 in
def xk_X14_surelyChanged_0 : List (Nat × Instr × Nat) := [(0, .iconst 0, 1), (1, .istore 5, 2), (3, .iconst 0, 1), (4, .istore 6, 2), (6, .iload 6, 2), (8, .aload_n 0, 1), (9, .getfield 9, 3), (12, .iconst 0, 1), (13, .iaload, 1)]
set_option maxRecDepth 100000 in
theorem xd_X14_surelyChanged_0 : xchk1 cX14_surelyChanged xk_X14_surelyChanged_0 = true := xwalk_of 0 (by decide +kernel)
set_option maxRecDepth 100000 in
def xk_X14_surelyChanged_1 : List (Nat × Instr × Nat) := [(14, .if_icmp .ge 156, 3), (17, .aload_n 0, 1), (18, .aload_n 0, 1), (19, .getfield 76, 3), (22, .iload 6, 2), (24, .invokevirtual 297, 3), (27, .istore 7, 2), (29, .aload_n 0, 1), (30, .getfield 76, 3)]
set_option maxRecDepth 100000 in
theorem xd_X14_surelyChanged_1 : xchk1 cX14_surelyChanged xk_X14_surelyChanged_1 = true := xwalk_of 14 (by decide +kernel)
set_option maxRecDepth 100000 in
def xk_X14_surelyChanged_2 : List (Nat × Instr × Nat) := [(33, .iload 6, 2), (35, .invokestatic 293, 3), (38, .istore 8, 2), (40, .iload 8, 2), (42, .ifCond .eq 7, 3), (45, .lload_n 3, 1), (46, .goto 4, 3), (49, .lload_n 1, 1), (50, .iload 6, 2)]
set_option maxRecDepth 100000 in
theorem xd_X14_surelyChanged_2 : xchk1 cX14_surelyChanged xk_X14_surelyChanged_2 = true := xwalk_of 33 (by decide +kernel)
set_option maxRecDepth 100000 in
def xk_X14_surelyChanged_3 : List (Nat × Instr × Nat) := [(52, .invokestatic 341, 3), (55, .land, 1), (56, .lconst 0, 1), (57, .lcmp, 1), (58, .ifCond .ne 21, 3), (61, .iload 7, 2), (63, .iconst (-1), 1), (64, .if_icmp .eq 19, 3), (67, .lload_n 3, 1)]
set_option maxRecDepth 100000 in
theorem xd_X14_surelyChanged_3 : xchk1 cX14_surelyChanged xk_X14_surelyChanged_3 = true := xwalk_of 52 (by decide +kernel)
set_option maxRecDepth 100000 in
def xk_X14_surelyChanged_4 : List (Nat × Instr × Nat) := [(68, .iload 7, 2), (70, .invokestatic 333, 3), (73, .land, 1), (74, .lconst 0, 1), (75, .lcmp, 1), (76, .ifCond .eq 7, 3), (79, .iconst 1, 1), (80, .goto 4, 3), (83, .iconst 0, 1)]
set_option maxRecDepth 100000 in
theorem xd_X14_surelyChanged_4 : xchk1 cX14_surelyChanged xk_X14_surelyChanged_4 = true := xwalk_of 68 (by decide +kernel)
set_option maxRecDepth 100000 in
def xk_X14_surelyChanged_5 : List (Nat × Instr × Nat) := [(84, .istore 9, 2), (86, .iconst 0, 1), (87, .istore 10, 2), (89, .iload 10, 2), (91, .aload_n 0, 1), (92, .getfield 9, 3), (95, .iconst 4, 1), (96, .iaload, 1), (97, .if_icmp .ge 52, 3)]
set_option maxRecDepth 100000 in
theorem xd_X14_surelyChanged_5 : xchk1 cX14_surelyChanged xk_X14_surelyChanged_5 = true := xwalk_of 84 (by decide +kernel)
set_option maxRecDepth 100000 in
def xk_X14_surelyChanged_6 : List (Nat × Instr × Nat) := [(100, .iload 9, 2), (102, .ifCond .ne 34, 3), (105, .aload_n 0, 1), (106, .iload 10, 2), (108, .iconst 0, 1), (109, .invokevirtual 163, 3), (112, .iload 6, 2), (114, .if_icmp .ne 26, 3), (117, .iload 10, 2)]
set_option maxRecDepth 100000 in
theorem xd_X14_surelyChanged_6 : xchk1 cX14_surelyChanged xk_X14_surelyChanged_6 = true := xwalk_of 100 (by decide +kernel)
set_option maxRecDepth 100000 in
def xk_X14_surelyChanged_7 : List (Nat × Instr × Nat) := [(119, .iload 7, 2), (121, .if_icmp .eq 19, 3), (124, .lload_n 1, 1), (125, .iload 10, 2), (127, .invokestatic 333, 3), (130, .land, 1), (131, .lconst 0, 1), (132, .lcmp, 1), (133, .ifCond .eq 7, 3)]
set_option maxRecDepth 100000 in
theorem xd_X14_surelyChanged_7 : xchk1 cX14_surelyChanged xk_X14_surelyChanged_7 = true := xwalk_of 119 (by decide +kernel)
set_option maxRecDepth 100000 in
def xk_X14_surelyChanged_8 : List (Nat × Instr × Nat) := [(136, .iconst 1, 1), (137, .goto 4, 3), (140, .iconst 0, 1), (141, .istore 9, 2), (143, .iinc 10 1, 3), (146, .goto (-57), 3), (149, .iload 5, 2), (151, .iload 9, 2), (153, .ifCond .eq 7, 3)]
set_option maxRecDepth 100000 in
theorem xd_X14_surelyChanged_8 : xchk1 cX14_surelyChanged xk_X14_surelyChanged_8 = true := xwalk_of 136 (by decide +kernel)
set_option maxRecDepth 100000 in
def xk_X14_surelyChanged_9 : List (Nat × Instr × Nat) := [(156, .iconst 1, 1), (157, .goto 4, 3), (160, .iconst 0, 1), (161, .iadd, 1), (162, .istore 5, 2), (164, .iinc 6 1, 3), (167, .goto (-161), 3), (170, .iload 5, 2), (172, .ireturn, 1)]
set_option maxRecDepth 100000 in
theorem xd_X14_surelyChanged_9 : xchk1 cX14_surelyChanged xk_X14_surelyChanged_9 = true := xwalk_of 156 (by decide +kernel)
set_option maxRecDepth 100000 in
def xk_X14_surelyChanged : XT (Instr × Nat) := [(14, xk_X14_surelyChanged_0),
  (33, xk_X14_surelyChanged_1),
  (52, xk_X14_surelyChanged_2),
  (68, xk_X14_surelyChanged_3),
  (84, xk_X14_surelyChanged_4),
  (100, xk_X14_surelyChanged_5),
  (119, xk_X14_surelyChanged_6),
  (136, xk_X14_surelyChanged_7),
  (156, xk_X14_surelyChanged_8),
  (100000, xk_X14_surelyChanged_9)]
set_option maxRecDepth 100000 in
theorem xd_X14_surelyChanged : xchk cX14_surelyChanged xk_X14_surelyChanged = true := (xchk_cons xd_X14_surelyChanged_0 (xchk_cons xd_X14_surelyChanged_1 (xchk_cons xd_X14_surelyChanged_2 (xchk_cons xd_X14_surelyChanged_3 (xchk_cons xd_X14_surelyChanged_4 (xchk_cons xd_X14_surelyChanged_5 (xchk_cons xd_X14_surelyChanged_6 (xchk_cons xd_X14_surelyChanged_7 (xchk_cons xd_X14_surelyChanged_8 (xchk_cons xd_X14_surelyChanged_9 xchk_nil))))))))))
set_option maxRecDepth 100000 in
def xk_X14_takeLock : XT (Instr × Nat) := [(7, [(0, .aload_n 0, 1), (1, .iconst 0, 1), (2, .putfield 134, 3), (5, .aload_n 0, 1), (6, .iload_n 1, 1)]),
  (18, [(7, .invokestatic 533, 3), (10, .iconst 1, 1), (11, .invokevirtual 180, 3), (14, .ifCond .eq 5, 3), (17, .iconst 0, 1)]),
  (27, [(18, .ireturn, 1), (19, .aload_n 0, 1), (20, .invokevirtual 411, 3), (23, .aload_n 0, 1), (24, .sipush 1678, 3)]),
  (35, [(27, .bipush 12, 2), (29, .iload_n 1, 1), (30, .imul, 1), (31, .iadd, 1), (32, .invokevirtual 286, 3)]),
  (42, [(35, .astore_n 2, 1), (36, .aload_n 0, 1), (37, .aload_n 2, 1), (38, .invokevirtual 414, 3), (41, .aload_n 0, 1)]),
  (53, [(42, .aload_n 2, 1), (43, .invokevirtual 439, 3), (46, .ifCond .eq 7, 3), (49, .iconst 1, 1), (50, .goto 4, 3)]),
  (100000, [(53, .iconst 0, 1), (54, .ireturn, 1)])]
set_option maxRecDepth 100000 in
theorem xd_X14_takeLock : xchk cX14_takeLock xk_X14_takeLock = true := xchk_of (by decide +kernel)
set_option maxRecDepth 100000 in
def xk_X14_taken : XT (Instr × Nat) := [(14, [(0, .aload_n 0, 1), (1, .iconst 0, 1), (2, .putfield 177, 3), (5, .aload_n 0, 1), (6, .iload_n 1, 1), (7, .ifCond .eq 7, 3), (10, .iconst (-1), 1), (11, .goto 7, 3)]),
  (28, [(14, .aload_n 0, 1), (15, .getfield 203, 3), (18, .putfield 25, 3), (21, .iload_n 1, 1), (22, .ifCond .ne 5, 3), (25, .aconst_null, 1), (26, .areturn, 1), (27, .aload_n 0, 1)]),
  (42, [(28, .getfield 231, 3), (31, .newarray .int, 2), (33, .astore_n 3, 1), (34, .aload_n 0, 1), (35, .getfield 231, 3), (38, .iconst 1, 1), (39, .iadd, 1), (40, .newarray .int, 2)]),
  (55, [(42, .astore 4, 2), (44, .iconst 3, 1), (45, .aload_n 0, 1), (46, .getfield 219, 3), (49, .imul, 1), (50, .newarray .int, 2), (52, .astore 5, 2), (54, .aload_n 0, 1)]),
  (69, [(55, .getfield 37, 3), (58, .iconst 0, 1), (59, .aload_n 3, 1), (60, .iconst 0, 1), (61, .aload_n 0, 1), (62, .getfield 231, 3), (65, .invokestatic 140, 3), (68, .aload_n 0, 1)]),
  (85, [(69, .getfield 40, 3), (72, .iconst 0, 1), (73, .aload 4, 2), (75, .iconst 0, 1), (76, .aload_n 0, 1), (77, .getfield 231, 3), (80, .invokestatic 140, 3), (83, .aload 4, 2)]),
  (99, [(85, .aload_n 0, 1), (86, .getfield 231, 3), (89, .aload_n 0, 1), (90, .getfield 219, 3), (93, .iastore, 1), (94, .aload_n 0, 1), (95, .getfield 43, 3), (98, .iconst 0, 1)]),
  (113, [(99, .aload 5, 2), (101, .iconst 0, 1), (102, .aload 5, 2), (104, .arraylength, 1), (105, .invokestatic 140, 3), (108, .new 16, 3), (111, .dup, 1), (112, .iload_n 2, 1)]),
  (100000, [(113, .aload_n 3, 1), (114, .aload 4, 2), (116, .aload 5, 2), (118, .invokespecial 243, 3), (121, .areturn, 1)])]
set_option maxRecDepth 100000 in
theorem xd_X14_taken : xchk cX14_taken xk_X14_taken = true := xchk_of (by decide +kernel)
