/-! printed by gen_tab.py: code tables -/
set_option maxRecDepth 100000 in
def xk_X7_choose_0 : List (Nat × Instr × Nat) := [(0, .aload_n 0, 1), (1, .getfield 41, 3), (4, .aload_n 0, 1), (5, .getfield 20, 3), (8, .aload_n 0, 1), (9, .getfield 44, 3), (12, .ldc2_w 115, 3), (15, .lxor, 1), (16, .land, 1), (17, .lor, 1)]
set_option maxRecDepth 100000 in
theorem xd_X7_choose_0 : xchk1 cX7_choose xk_X7_choose_0 = true := xwalk_of 0 (by decide +kernel)
set_option maxRecDepth 100000 in
def xk_X7_choose_1 : List (Nat × Instr × Nat) := [(18, .lstore_n 1, 1), (19, .sipush 128, 3), (22, .istore_n 3, 1), (23, .lconst 0, 1), (24, .lstore 4, 2), (26, .lconst 0, 1), (27, .lstore 6, 2), (29, .iconst 0, 1), (30, .istore 8, 2), (32, .iload 8, 2)]
set_option maxRecDepth 100000 in
theorem xd_X7_choose_1 : xchk1 cX7_choose xk_X7_choose_1 = true := xwalk_of 18 (by decide +kernel)
set_option maxRecDepth 100000 in
def xk_X7_choose_2 : List (Nat × Instr × Nat) := [(34, .aload_n 0, 1), (35, .getfield 35, 3), (38, .if_icmp .ge 175, 3), (41, .aload_n 0, 1), (42, .getfield 28, 3), (45, .iload 8, 2), (47, .laload, 1), (48, .lload_n 1, 1), (49, .land, 1), (50, .lconst 0, 1)]
set_option maxRecDepth 100000 in
theorem xd_X7_choose_2 : xchk1 cX7_choose xk_X7_choose_2 = true := xwalk_of 34 (by decide +kernel)
set_option maxRecDepth 100000 in
def xk_X7_choose_3 : List (Nat × Instr × Nat) := [(51, .lcmp, 1), (52, .ifCond .ne 155, 3), (55, .aload_n 0, 1), (56, .getfield 32, 3), (59, .iload 8, 2), (61, .laload, 1), (62, .lload_n 1, 1), (63, .ldc2_w 115, 3), (66, .lxor, 1), (67, .land, 1)]
set_option maxRecDepth 100000 in
theorem xd_X7_choose_3 : xchk1 cX7_choose xk_X7_choose_3 = true := xwalk_of 51 (by decide +kernel)
set_option maxRecDepth 100000 in
def xk_X7_choose_4 : List (Nat × Instr × Nat) := [(68, .lconst 0, 1), (69, .lcmp, 1), (70, .ifCond .ne 137, 3), (73, .aload_n 0, 1), (74, .iload 8, 2), (76, .invokevirtual 117, 3), (79, .ifCond .eq 128, 3), (82, .aload_n 0, 1), (83, .getfield 28, 3), (86, .iload 8, 2)]
set_option maxRecDepth 100000 in
theorem xd_X7_choose_4 : xchk1 cX7_choose xk_X7_choose_4 = true := xwalk_of 68 (by decide +kernel)
set_option maxRecDepth 100000 in
def xk_X7_choose_5 : List (Nat × Instr × Nat) := [(88, .laload, 1), (89, .aload_n 0, 1), (90, .getfield 44, 3), (93, .ldc2_w 115, 3), (96, .lxor, 1), (97, .land, 1), (98, .lstore 9, 2), (100, .aload_n 0, 1), (101, .getfield 32, 3), (104, .iload 8, 2)]
set_option maxRecDepth 100000 in
theorem xd_X7_choose_5 : xchk1 cX7_choose xk_X7_choose_5 = true := xwalk_of 88 (by decide +kernel)
set_option maxRecDepth 100000 in
def xk_X7_choose_6 : List (Nat × Instr × Nat) := [(106, .laload, 1), (107, .aload_n 0, 1), (108, .getfield 41, 3), (111, .ldc2_w 115, 3), (114, .lxor, 1), (115, .land, 1), (116, .lstore 11, 2), (118, .lload 9, 2), (120, .invokestatic 135, 3), (123, .lload 11, 2)]
set_option maxRecDepth 100000 in
theorem xd_X7_choose_6 : xchk1 cX7_choose xk_X7_choose_6 = true := xwalk_of 106 (by decide +kernel)
set_option maxRecDepth 100000 in
def xk_X7_choose_7 : List (Nat × Instr × Nat) := [(125, .invokestatic 135, 3), (128, .iadd, 1), (129, .istore 13, 2), (131, .iload 13, 2), (133, .iload_n 3, 1), (134, .if_icmp .ge 7, 3), (137, .iconst 1, 1), (138, .goto 4, 3), (141, .iconst 0, 1), (142, .istore 14, 2)]
set_option maxRecDepth 100000 in
theorem xd_X7_choose_7 : xchk1 cX7_choose xk_X7_choose_7 = true := xwalk_of 125 (by decide +kernel)
set_option maxRecDepth 100000 in
def xk_X7_choose_8 : List (Nat × Instr × Nat) := [(144, .iload 14, 2), (146, .ifCond .eq 8, 3), (149, .lload 9, 2), (151, .goto 19, 3), (154, .iload 13, 2), (156, .iload_n 3, 1), (157, .if_icmp .ne 11, 3), (160, .lload 4, 2), (162, .lload 9, 2), (164, .lor, 1)]
set_option maxRecDepth 100000 in
theorem xd_X7_choose_8 : xchk1 cX7_choose xk_X7_choose_8 = true := xwalk_of 144 (by decide +kernel)
set_option maxRecDepth 100000 in
def xk_X7_choose_9 : List (Nat × Instr × Nat) := [(165, .goto 5, 3), (168, .lload 4, 2), (170, .lstore 4, 2), (172, .iload 14, 2), (174, .ifCond .eq 8, 3), (177, .lload 11, 2), (179, .goto 19, 3), (182, .iload 13, 2), (184, .iload_n 3, 1), (185, .if_icmp .ne 11, 3)]
set_option maxRecDepth 100000 in
theorem xd_X7_choose_9 : xchk1 cX7_choose xk_X7_choose_9 = true := xwalk_of 165 (by decide +kernel)
set_option maxRecDepth 100000 in
def xk_X7_choose_10 : List (Nat × Instr × Nat) := [(188, .lload 6, 2), (190, .lload 11, 2), (192, .lor, 1), (193, .goto 5, 3), (196, .lload 6, 2), (198, .lstore 6, 2), (200, .iload 13, 2), (202, .iload_n 3, 1), (203, .invokestatic 141, 3), (206, .istore_n 3, 1)]
set_option maxRecDepth 100000 in
theorem xd_X7_choose_10 : xchk1 cX7_choose xk_X7_choose_10 = true := xwalk_of 188 (by decide +kernel)
set_option maxRecDepth 100000 in
def xk_X7_choose_11 : List (Nat × Instr × Nat) := [(207, .iinc 8 1, 3), (210, .goto (-178), 3), (213, .aload_n 0, 1), (214, .lload 4, 2), (216, .lload 6, 2), (218, .invokevirtual 206, 3), (221, .ireturn, 1)]
set_option maxRecDepth 100000 in
theorem xd_X7_choose_11 : xchk1 cX7_choose xk_X7_choose_11 = true := xwalk_of 207 (by decide +kernel)
set_option maxRecDepth 100000 in
def xk_X7_choose : XT (Instr × Nat) := [(18, xk_X7_choose_0),
  (34, xk_X7_choose_1),
  (51, xk_X7_choose_2),
  (68, xk_X7_choose_3),
  (88, xk_X7_choose_4),
  (106, xk_X7_choose_5),
  (125, xk_X7_choose_6),
  (144, xk_X7_choose_7),
  (165, xk_X7_choose_8),
  (188, xk_X7_choose_9),
  (207, xk_X7_choose_10),
  (100000, xk_X7_choose_11)]
set_option maxRecDepth 100000 in
theorem xd_X7_choose : xchk cX7_choose xk_X7_choose = true := (xchk_cons xd_X7_choose_0 (xchk_cons xd_X7_choose_1 (xchk_cons xd_X7_choose_2 (xchk_cons xd_X7_choose_3 (xchk_cons xd_X7_choose_4 (xchk_cons xd_X7_choose_5 (xchk_cons xd_X7_choose_6 (xchk_cons xd_X7_choose_7 (xchk_cons xd_X7_choose_8 (xchk_cons xd_X7_choose_9 (xchk_cons xd_X7_choose_10 (xchk_cons xd_X7_choose_11 xchk_nil))))))))))))
set_option maxRecDepth 100000 in
def xk_X7_deepen : XT (Instr × Nat) := [(6, [(0, .aload_n 0, 1), (1, .dup, 1), (2, .getfield 47, 3), (5, .aload_n 0, 1)]),
  (15, [(6, .getfield 47, 3), (9, .bipush 64, 2), (11, .if_icmp .gt 7, 3), (14, .iconst 1, 1)]),
  (23, [(15, .goto 4, 3), (18, .iconst 0, 1), (19, .iadd, 1), (20, .putfield 47, 3)]),
  (31, [(23, .aload_n 0, 1), (24, .getfield 50, 3), (27, .aload_n 0, 1), (28, .getfield 47, 3)]),
  (100000, [(31, .lconst 0, 1), (32, .lastore, 1), (33, .return_, 1)])]
set_option maxRecDepth 100000 in
theorem xd_X7_deepen : xchk cX7_deepen xk_X7_deepen = true := xchk_of (by decide +kernel)
set_option maxRecDepth 100000 in
def xk_X7_draw : XT (Instr × Nat) := [(10, [(0, .iconst (-1), 1), (1, .istore_n 1, 1), (2, .iconst 0, 1), (3, .istore_n 2, 1), (4, .iload_n 2, 1), (5, .bipush 64, 2), (7, .if_icmp .ge 97, 3)]),
  (23, [(10, .iload_n 1, 1), (11, .iconst (-1), 1), (12, .if_icmp .ne 92, 3), (15, .aload_n 0, 1), (16, .getfield 57, 3), (19, .aload_n 0, 1), (20, .getfield 41, 3)]),
  (38, [(23, .aload_n 0, 1), (24, .getfield 44, 3), (27, .lor, 1), (28, .invokestatic 135, 3), (31, .if_icmp .ge 73, 3), (34, .aload_n 0, 1), (35, .getfield 53, 3)]),
  (49, [(38, .aload_n 0, 1), (39, .getfield 57, 3), (42, .iaload, 1), (43, .istore_n 3, 1), (44, .aload_n 0, 1), (45, .dup, 1), (46, .getfield 57, 3)]),
  (61, [(49, .iconst 1, 1), (50, .iadd, 1), (51, .putfield 57, 3), (54, .aload_n 0, 1), (55, .iload_n 3, 1), (56, .bipush 64, 2), (58, .if_icmp .ge 10, 3)]),
  (72, [(61, .iload_n 3, 1), (62, .bipush 64, 2), (64, .iadd, 1), (65, .goto 7, 3), (68, .iload_n 3, 1), (69, .bipush 64, 2), (71, .isub, 1)]),
  (84, [(72, .invokevirtual 184, 3), (75, .istore_n 1, 1), (76, .iload_n 1, 1), (77, .iconst (-1), 1), (78, .if_icmp .ne 20, 3), (81, .iload_n 3, 1), (82, .bipush 52, 2)]),
  (98, [(84, .if_icmp .lt 14, 3), (87, .iload_n 3, 1), (88, .bipush 64, 2), (90, .if_icmp .ge 8, 3), (93, .aload_n 0, 1), (94, .invokevirtual 188, 3), (97, .istore_n 1, 1)]),
  (100000, [(98, .iinc 2 1, 3), (101, .goto (-97), 3), (104, .iload_n 1, 1), (105, .ireturn, 1)])]
set_option maxRecDepth 100000 in
theorem xd_X7_draw : xchk cX7_draw xk_X7_draw = true := xchk_of (by decide +kernel)
set_option maxRecDepth 100000 in
def xk_X7_forget_0 : List (Nat × Instr × Nat) := [(0, .aload_n 0, 1), (1, .getfield 35, 3), (4, .aload_n 0, 1), (5, .getfield 38, 3), (8, .iadd, 1), (9, .iconst 2, 1), (10, .idiv, 1), (11, .istore_n 1, 1), (12, .aload_n 0, 1)]
set_option maxRecDepth 100000 in
theorem xd_X7_forget_0 : xchk1 cX7_forget xk_X7_forget_0 = true := xwalk_of 0 (by decide +kernel)
set_option maxRecDepth 100000 in
def xk_X7_forget_1 : List (Nat × Instr × Nat) := [(13, .getfield 35, 3), (16, .istore_n 2, 1), (17, .aload_n 0, 1), (18, .getfield 35, 3), (21, .istore_n 3, 1), (22, .iload_n 3, 1), (23, .aload_n 0, 1), (24, .getfield 38, 3), (27, .if_icmp .ge 113, 3)]
set_option maxRecDepth 100000 in
theorem xd_X7_forget_1 : xchk1 cX7_forget xk_X7_forget_1 = true := xwalk_of 13 (by decide +kernel)
set_option maxRecDepth 100000 in
def xk_X7_forget_2 : List (Nat × Instr × Nat) := [(30, .iload_n 3, 1), (31, .iload_n 1, 1), (32, .if_icmp .lt 7, 3), (35, .iconst 1, 1), (36, .goto 4, 3), (39, .iconst 0, 1), (40, .istore 4, 2), (42, .iconst 0, 1), (43, .istore 5, 2)]
set_option maxRecDepth 100000 in
theorem xd_X7_forget_2 : xchk1 cX7_forget xk_X7_forget_2 = true := xwalk_of 30 (by decide +kernel)
set_option maxRecDepth 100000 in
def xk_X7_forget_3 : List (Nat × Instr × Nat) := [(45, .iload 5, 2), (47, .aload_n 0, 1), (48, .getfield 41, 3), (51, .aload_n 0, 1), (52, .getfield 44, 3), (55, .lor, 1), (56, .invokestatic 135, 3), (59, .if_icmp .ge 43, 3), (62, .aload_n 0, 1)]
set_option maxRecDepth 100000 in
theorem xd_X7_forget_3 : xchk1 cX7_forget xk_X7_forget_3 = true := xwalk_of 45 (by decide +kernel)
set_option maxRecDepth 100000 in
def xk_X7_forget_4 : List (Nat × Instr × Nat) := [(63, .getfield 53, 3), (66, .iload 5, 2), (68, .iaload, 1), (69, .bipush 64, 2), (71, .irem, 1), (72, .istore 6, 2), (74, .aload_n 0, 1), (75, .getfield 60, 3), (78, .iload 6, 2)]
set_option maxRecDepth 100000 in
theorem xd_X7_forget_4 : xchk1 cX7_forget xk_X7_forget_4 = true := xwalk_of 63 (by decide +kernel)
set_option maxRecDepth 100000 in
def xk_X7_forget_5 : List (Nat × Instr × Nat) := [(80, .iaload, 1), (81, .iload_n 3, 1), (82, .if_icmp .ne 14, 3), (85, .aload_n 0, 1), (86, .getfield 60, 3), (89, .iload 6, 2), (91, .iload_n 2, 1), (92, .iastore, 1), (93, .iconst 1, 1)]
set_option maxRecDepth 100000 in
theorem xd_X7_forget_5 : xchk1 cX7_forget xk_X7_forget_5 = true := xwalk_of 80 (by decide +kernel)
set_option maxRecDepth 100000 in
def xk_X7_forget_6 : List (Nat × Instr × Nat) := [(94, .istore 4, 2), (96, .iinc 5 1, 3), (99, .goto (-54), 3), (102, .iload 4, 2), (104, .ifCond .eq 30, 3), (107, .aload_n 0, 1), (108, .getfield 28, 3), (111, .iload_n 2, 1), (112, .aload_n 0, 1)]
set_option maxRecDepth 100000 in
theorem xd_X7_forget_6 : xchk1 cX7_forget xk_X7_forget_6 = true := xwalk_of 94 (by decide +kernel)
set_option maxRecDepth 100000 in
def xk_X7_forget_7 : List (Nat × Instr × Nat) := [(113, .getfield 28, 3), (116, .iload_n 3, 1), (117, .laload, 1), (118, .lastore, 1), (119, .aload_n 0, 1), (120, .getfield 32, 3), (123, .iload_n 2, 1), (124, .aload_n 0, 1), (125, .getfield 32, 3)]
set_option maxRecDepth 100000 in
theorem xd_X7_forget_7 : xchk1 cX7_forget xk_X7_forget_7 = true := xwalk_of 113 (by decide +kernel)
set_option maxRecDepth 100000 in
def xk_X7_forget_8 : List (Nat × Instr × Nat) := [(128, .iload_n 3, 1), (129, .laload, 1), (130, .lastore, 1), (131, .iinc 2 1, 3), (134, .iinc 3 1, 3), (137, .goto (-115), 3), (140, .aload_n 0, 1), (141, .iload_n 2, 1), (142, .putfield 38, 3)]
set_option maxRecDepth 100000 in
theorem xd_X7_forget_8 : xchk1 cX7_forget xk_X7_forget_8 = true := xwalk_of 128 (by decide +kernel)
set_option maxRecDepth 100000 in
def xk_X7_forget_9 : List (Nat × Instr × Nat) := [(145, .return_, 1)]
set_option maxRecDepth 100000 in
theorem xd_X7_forget_9 : xchk1 cX7_forget xk_X7_forget_9 = true := xwalk_of 145 (by decide +kernel)
set_option maxRecDepth 100000 in
def xk_X7_forget : XT (Instr × Nat) := [(13, xk_X7_forget_0),
  (30, xk_X7_forget_1),
  (45, xk_X7_forget_2),
  (63, xk_X7_forget_3),
  (80, xk_X7_forget_4),
  (94, xk_X7_forget_5),
  (113, xk_X7_forget_6),
  (128, xk_X7_forget_7),
  (145, xk_X7_forget_8),
  (100000, xk_X7_forget_9)]
set_option maxRecDepth 100000 in
theorem xd_X7_forget : xchk cX7_forget xk_X7_forget = true := (xchk_cons xd_X7_forget_0 (xchk_cons xd_X7_forget_1 (xchk_cons xd_X7_forget_2 (xchk_cons xd_X7_forget_3 (xchk_cons xd_X7_forget_4 (xchk_cons xd_X7_forget_5 (xchk_cons xd_X7_forget_6 (xchk_cons xd_X7_forget_7 (xchk_cons xd_X7_forget_8 (xchk_cons xd_X7_forget_9 xchk_nil))))))))))
set_option maxRecDepth 100000 in
def xk_X7_found : XT (Instr × Nat) := [(8, [(0, .aload_n 0, 1), (1, .getfield 41, 3), (4, .aload_n 0, 1), (5, .getfield 20, 3)]),
  (16, [(8, .aload_n 0, 1), (9, .getfield 44, 3), (12, .ldc2_w 115, 3), (15, .lxor, 1)]),
  (22, [(16, .land, 1), (17, .lor, 1), (18, .ldc2_w 182, 3), (21, .land, 1)]),
  (100000, [(22, .lreturn, 1)])]
set_option maxRecDepth 100000 in
theorem xd_X7_found : xchk cX7_found xk_X7_found = true := xchk_of (by decide +kernel)
set_option maxRecDepth 100000 in
def xk_X7_hasEmpty : XT (Instr × Nat) := [(7, [(0, .iconst 0, 1), (1, .istore_n 1, 1), (2, .iload_n 1, 1), (3, .aload_n 0, 1), (4, .getfield 75, 3)]),
  (18, [(7, .getfield 86, 3), (10, .if_icmp .ge 45, 3), (13, .aload_n 0, 1), (14, .getfield 13, 3), (17, .iload_n 1, 1)]),
  (27, [(18, .baload, 1), (19, .ifCond .ne 30, 3), (22, .aload_n 0, 1), (23, .getfield 28, 3), (26, .iload_n 1, 1)]),
  (34, [(27, .laload, 1), (28, .aload_n 0, 1), (29, .getfield 32, 3), (32, .iload_n 1, 1), (33, .laload, 1)]),
  (41, [(34, .lor, 1), (35, .lconst 0, 1), (36, .lcmp, 1), (37, .ifCond .ne 12, 3), (40, .aload_n 0, 1)]),
  (48, [(41, .getfield 17, 3), (44, .iload_n 1, 1), (45, .iconst 1, 1), (46, .bastore, 1), (47, .iconst 1, 1)]),
  (100000, [(48, .ireturn, 1), (49, .iinc 1 1, 3), (52, .goto (-50), 3), (55, .iconst 0, 1), (56, .ireturn, 1)])]
set_option maxRecDepth 100000 in
theorem xd_X7_hasEmpty : xchk cX7_hasEmpty xk_X7_hasEmpty = true := xchk_of (by decide +kernel)
set_option maxRecDepth 100000 in
def xk_X7_heaviest : XT (Instr × Nat) := [(9, [(0, .iconst (-1), 1), (1, .istore 5, 2), (3, .iconst (-1), 1), (4, .istore 6, 2), (6, .iconst 0, 1), (7, .istore 7, 2)]),
  (19, [(9, .iload 7, 2), (11, .bipush 64, 2), (13, .if_icmp .ge 66, 3), (16, .lload_n 1, 1), (17, .lload_n 3, 1), (18, .lor, 1)]),
  (26, [(19, .iload 7, 2), (21, .lshr, 1), (22, .lconst 1, 1), (23, .land, 1), (24, .lconst 0, 1), (25, .lcmp, 1)]),
  (38, [(26, .ifCond .eq 47, 3), (29, .aload_n 0, 1), (30, .getfield 69, 3), (33, .iload 7, 2), (35, .iaload, 1), (36, .iload 6, 2)]),
  (50, [(38, .if_icmp .le 35, 3), (41, .aload_n 0, 1), (42, .getfield 69, 3), (45, .iload 7, 2), (47, .iaload, 1), (48, .istore 6, 2)]),
  (57, [(50, .lload_n 1, 1), (51, .iload 7, 2), (53, .lshr, 1), (54, .lconst 1, 1), (55, .land, 1), (56, .lconst 0, 1)]),
  (70, [(57, .lcmp, 1), (58, .ifCond .eq 8, 3), (61, .iload 7, 2), (63, .goto 8, 3), (66, .bipush 64, 2), (68, .iload 7, 2)]),
  (100000, [(70, .iadd, 1), (71, .istore 5, 2), (73, .iinc 7 1, 3), (76, .goto (-67), 3), (79, .iload 5, 2), (81, .ireturn, 1)])]
set_option maxRecDepth 100000 in
theorem xd_X7_heaviest : xchk cX7_heaviest xk_X7_heaviest = true := xchk_of (by decide +kernel)
set_option maxRecDepth 100000 in
def xk_X7_init : XT (Instr × Nat) := [(17, [(0, .aload_n 0, 1), (1, .invokespecial 7, 3), (4, .aload_n 0, 1), (5, .sipush 3712, 3), (8, .newarray .boolean, 2), (10, .putfield 13, 3), (13, .aload_n 0, 1), (14, .sipush 3712, 3)]),
  (33, [(17, .newarray .boolean, 2), (19, .putfield 17, 3), (22, .aload_n 0, 1), (23, .lconst 0, 1), (24, .putfield 20, 3), (27, .aload_n 0, 1), (28, .bipush 12, 2), (30, .putfield 24, 3)]),
  (51, [(33, .aload_n 0, 1), (34, .sipush 3926, 3), (37, .newarray .long, 2), (39, .putfield 28, 3), (42, .aload_n 0, 1), (43, .sipush 3926, 3), (46, .newarray .long, 2), (48, .putfield 32, 3)]),
  (63, [(51, .aload_n 0, 1), (52, .iconst 0, 1), (53, .putfield 35, 3), (56, .aload_n 0, 1), (57, .iconst 0, 1), (58, .putfield 38, 3), (61, .aload_n 0, 1), (62, .lconst 0, 1)]),
  (77, [(63, .putfield 41, 3), (66, .aload_n 0, 1), (67, .lconst 0, 1), (68, .putfield 44, 3), (71, .aload_n 0, 1), (72, .iconst 0, 1), (73, .putfield 47, 3), (76, .aload_n 0, 1)]),
  (93, [(77, .bipush 66, 2), (79, .newarray .long, 2), (81, .putfield 50, 3), (84, .aload_n 0, 1), (85, .bipush 64, 2), (87, .newarray .int, 2), (89, .putfield 53, 3), (92, .aload_n 0, 1)]),
  (109, [(93, .iconst 0, 1), (94, .putfield 57, 3), (97, .aload_n 0, 1), (98, .bipush 64, 2), (100, .newarray .int, 2), (102, .putfield 60, 3), (105, .aload_n 0, 1), (106, .sipush 7848, 3)]),
  (126, [(109, .newarray .int, 2), (111, .putfield 63, 3), (114, .aload_n 0, 1), (115, .sipush 7976, 3), (118, .newarray .int, 2), (120, .putfield 66, 3), (123, .aload_n 0, 1), (124, .bipush 64, 2)]),
  (141, [(126, .newarray .int, 2), (128, .putfield 69, 3), (131, .aload_n 0, 1), (132, .iconst 1, 1), (133, .putfield 72, 3), (136, .aload_n 0, 1), (137, .aload_n 1, 1), (138, .putfield 75, 3)]),
  (100000, [(141, .return_, 1)])]
set_option maxRecDepth 100000 in
theorem xd_X7_init : xchk cX7_init xk_X7_init = true := xchk_of (by decide +kernel)
set_option maxRecDepth 100000 in
def xk_X7_isCovered : XT (Instr × Nat) := [(7, [(0, .aload_n 0, 1), (1, .getfield 28, 3), (4, .iload_n 1, 1), (5, .laload, 1), (6, .aload_n 0, 1)]),
  (18, [(7, .getfield 28, 3), (10, .sipush 3925, 3), (13, .laload, 1), (14, .ldc2_w 115, 3), (17, .lxor, 1)]),
  (25, [(18, .land, 1), (19, .aload_n 0, 1), (20, .getfield 32, 3), (23, .iload_n 1, 1), (24, .laload, 1)]),
  (36, [(25, .aload_n 0, 1), (26, .getfield 32, 3), (29, .sipush 3925, 3), (32, .laload, 1), (33, .ldc2_w 115, 3)]),
  (43, [(36, .lxor, 1), (37, .land, 1), (38, .lor, 1), (39, .lload_n 2, 1), (40, .ldc2_w 115, 3)]),
  (50, [(43, .lxor, 1), (44, .land, 1), (45, .lconst 0, 1), (46, .lcmp, 1), (47, .ifCond .ne 7, 3)]),
  (100000, [(50, .iconst 1, 1), (51, .goto 4, 3), (54, .iconst 0, 1), (55, .ireturn, 1)])]
set_option maxRecDepth 100000 in
theorem xd_X7_isCovered : xchk cX7_isCovered xk_X7_isCovered = true := xchk_of (by decide +kernel)
set_option maxRecDepth 100000 in
def xk_X7_isTaken : XT (Instr × Nat) := [(8, [(0, .iload_n 1, 1), (1, .aload_n 0, 1), (2, .getfield 75, 3), (5, .getfield 86, 3)]),
  (16, [(8, .if_icmp .ge 12, 3), (11, .aload_n 0, 1), (12, .getfield 13, 3), (15, .iload_n 1, 1)]),
  (24, [(16, .baload, 1), (17, .ifCond .ne 7, 3), (20, .iconst 1, 1), (21, .goto 4, 3)]),
  (100000, [(24, .iconst 0, 1), (25, .ireturn, 1)])]
set_option maxRecDepth 100000 in
theorem xd_X7_isTaken : xchk cX7_isTaken xk_X7_isTaken = true := xchk_of (by decide +kernel)
set_option maxRecDepth 100000 in
def xk_X7_join : XT (Instr × Nat) := [(15, [(0, .iload_n 1, 1), (1, .aload_n 0, 1), (2, .getfield 75, 3), (5, .getfield 86, 3), (8, .if_icmp .ge 10, 3), (11, .aload_n 0, 1), (12, .getfield 17, 3)]),
  (26, [(15, .iload_n 1, 1), (16, .iconst 1, 1), (17, .bastore, 1), (18, .aload_n 0, 1), (19, .getfield 28, 3), (22, .sipush 3925, 3), (25, .aload_n 0, 1)]),
  (39, [(26, .getfield 28, 3), (29, .sipush 3925, 3), (32, .laload, 1), (33, .aload_n 0, 1), (34, .getfield 28, 3), (37, .iload_n 1, 1), (38, .laload, 1)]),
  (48, [(39, .lor, 1), (40, .lload_n 2, 1), (41, .ldc2_w 115, 3), (44, .lxor, 1), (45, .land, 1), (46, .lastore, 1), (47, .aload_n 0, 1)]),
  (63, [(48, .getfield 32, 3), (51, .sipush 3925, 3), (54, .aload_n 0, 1), (55, .getfield 32, 3), (58, .sipush 3925, 3), (61, .laload, 1), (62, .aload_n 0, 1)]),
  (74, [(63, .getfield 32, 3), (66, .iload_n 1, 1), (67, .laload, 1), (68, .lor, 1), (69, .lload_n 2, 1), (70, .ldc2_w 115, 3), (73, .lxor, 1)]),
  (83, [(74, .land, 1), (75, .lastore, 1), (76, .aload_n 0, 1), (77, .getfield 28, 3), (80, .iload_n 1, 1), (81, .laload, 1), (82, .aload_n 0, 1)]),
  (100000, [(83, .getfield 32, 3), (86, .iload_n 1, 1), (87, .laload, 1), (88, .lor, 1), (89, .lreturn, 1)])]
set_option maxRecDepth 100000 in
theorem xd_X7_join : xchk cX7_join xk_X7_join = true := xchk_of (by decide +kernel)
set_option maxRecDepth 100000 in
def xk_X7_keep : XT (Instr × Nat) := [(12, [(0, .aload_n 0, 1), (1, .getfield 38, 3), (4, .istore_n 1, 1), (5, .aload_n 0, 1), (6, .dup, 1), (7, .getfield 38, 3), (10, .iconst 1, 1), (11, .iadd, 1)]),
  (28, [(12, .putfield 38, 3), (15, .aload_n 0, 1), (16, .getfield 28, 3), (19, .iload_n 1, 1), (20, .aload_n 0, 1), (21, .getfield 28, 3), (24, .sipush 3925, 3), (27, .laload, 1)]),
  (42, [(28, .lastore, 1), (29, .aload_n 0, 1), (30, .getfield 32, 3), (33, .iload_n 1, 1), (34, .aload_n 0, 1), (35, .getfield 32, 3), (38, .sipush 3925, 3), (41, .laload, 1)]),
  (54, [(42, .lastore, 1), (43, .aload_n 0, 1), (44, .iload_n 1, 1), (45, .invokevirtual 121, 3), (48, .aload_n 0, 1), (49, .getfield 28, 3), (52, .iload_n 1, 1), (53, .laload, 1)]),
  (66, [(54, .aload_n 0, 1), (55, .getfield 41, 3), (58, .land, 1), (59, .aload_n 0, 1), (60, .getfield 32, 3), (63, .iload_n 1, 1), (64, .laload, 1), (65, .aload_n 0, 1)]),
  (78, [(66, .getfield 44, 3), (69, .land, 1), (70, .lor, 1), (71, .lconst 0, 1), (72, .lcmp, 1), (73, .ifCond .ne 42, 3), (76, .aload_n 0, 1), (77, .aload_n 0, 1)]),
  (92, [(78, .getfield 28, 3), (81, .iload_n 1, 1), (82, .laload, 1), (83, .aload_n 0, 1), (84, .getfield 44, 3), (87, .ldc2_w 115, 3), (90, .lxor, 1), (91, .land, 1)]),
  (106, [(92, .aload_n 0, 1), (93, .getfield 32, 3), (96, .iload_n 1, 1), (97, .laload, 1), (98, .aload_n 0, 1), (99, .getfield 41, 3), (102, .ldc2_w 115, 3), (105, .lxor, 1)]),
  (100000, [(106, .land, 1), (107, .iconst (-1), 1), (108, .invokestatic 124, 3), (111, .iload_n 1, 1), (112, .invokevirtual 132, 3), (115, .return_, 1)])]
set_option maxRecDepth 100000 in
theorem xd_X7_keep : xchk cX7_keep xk_X7_keep = true := xchk_of (by decide +kernel)
set_option maxRecDepth 100000 in
def xk_X7_levelBelow : XT (Instr × Nat) := [(9, [(0, .aload_n 0, 1), (1, .getfield 28, 3), (4, .sipush 3925, 3), (7, .laload, 1), (8, .aload_n 0, 1)]),
  (18, [(9, .getfield 32, 3), (12, .sipush 3925, 3), (15, .laload, 1), (16, .lor, 1), (17, .lstore_n 1, 1)]),
  (25, [(18, .aload_n 0, 1), (19, .getfield 47, 3), (22, .iconst 1, 1), (23, .isub, 1), (24, .istore_n 3, 1)]),
  (34, [(25, .iload_n 3, 1), (26, .ifCond .le 22, 3), (29, .lload_n 1, 1), (30, .aload_n 0, 1), (31, .getfield 50, 3)]),
  (39, [(34, .iload_n 3, 1), (35, .laload, 1), (36, .land, 1), (37, .lconst 0, 1), (38, .lcmp, 1)]),
  (100000, [(39, .ifCond .ne 9, 3), (42, .iinc 3 (-1), 3), (45, .goto (-20), 3), (48, .iload_n 3, 1), (49, .ireturn, 1)])]
set_option maxRecDepth 100000 in
theorem xd_X7_levelBelow : xchk cX7_levelBelow xk_X7_levelBelow = true := xchk_of (by decide +kernel)
set_option maxRecDepth 100000 in
def xk_X7_link : XT (Instr × Nat) := [(6, [(0, .aload_n 0, 1), (1, .getfield 63, 3), (4, .iload_n 1, 1), (5, .iload_n 2, 1)]),
  (12, [(6, .iastore, 1), (7, .aload_n 0, 1), (8, .getfield 66, 3), (11, .iload_n 1, 1)]),
  (20, [(12, .aload_n 0, 1), (13, .getfield 66, 3), (16, .sipush 7848, 3), (19, .iload_n 2, 1)]),
  (24, [(20, .iadd, 1), (21, .iaload, 1), (22, .iastore, 1), (23, .aload_n 0, 1)]),
  (32, [(24, .getfield 66, 3), (27, .sipush 7848, 3), (30, .iload_n 2, 1), (31, .iadd, 1)]),
  (100000, [(32, .iload_n 1, 1), (33, .iastore, 1), (34, .return_, 1)])]
set_option maxRecDepth 100000 in
theorem xd_X7_link : xchk cX7_link xk_X7_link = true := xchk_of (by decide +kernel)
set_option maxRecDepth 100000 in
def xk_X7_load_0 : List (Nat × Instr × Nat) := [(0, .aload_n 0, 1), (1, .lload_n 1, 1), (2, .putfield 20, 3), (5, .aload_n 0, 1), (6, .iload_n 3, 1), (7, .putfield 24, 3), (10, .aload_n 0, 1), (11, .lconst 0, 1), (12, .putfield 41, 3)]
set_option maxRecDepth 100000 in
theorem xd_X7_load_0 : xchk1 cX7_load xk_X7_load_0 = true := xwalk_of 0 (by decide +kernel)
set_option maxRecDepth 100000 in
def xk_X7_load_1 : List (Nat × Instr × Nat) := [(15, .aload_n 0, 1), (16, .lconst 0, 1), (17, .putfield 44, 3), (20, .aload_n 0, 1), (21, .iconst 0, 1), (22, .putfield 47, 3), (25, .aload_n 0, 1), (26, .getfield 50, 3), (29, .iconst 0, 1)]
set_option maxRecDepth 100000 in
theorem xd_X7_load_1 : xchk1 cX7_load xk_X7_load_1 = true := xwalk_of 15 (by decide +kernel)
set_option maxRecDepth 100000 in
def xk_X7_load_2 : List (Nat × Instr × Nat) := [(30, .lconst 0, 1), (31, .lastore, 1), (32, .aload_n 0, 1), (33, .iconst 0, 1), (34, .putfield 57, 3), (37, .aload_n 0, 1), (38, .iconst 1, 1), (39, .putfield 72, 3), (42, .aload_n 0, 1)]
set_option maxRecDepth 100000 in
theorem xd_X7_load_2 : xchk1 cX7_load xk_X7_load_2 = true := xwalk_of 30 (by decide +kernel)
set_option maxRecDepth 100000 in
def xk_X7_load_3 : List (Nat × Instr × Nat) := [(43, .getfield 69, 3), (46, .iconst 0, 1), (47, .invokestatic 79, 3), (50, .aload_n 0, 1), (51, .getfield 75, 3), (54, .getfield 85, 3), (57, .iconst 0, 1), (58, .aload_n 0, 1), (59, .getfield 28, 3)]
set_option maxRecDepth 100000 in
theorem xd_X7_load_3 : xchk1 cX7_load xk_X7_load_3 = true := xwalk_of 43 (by decide +kernel)
set_option maxRecDepth 100000 in
def xk_X7_load_4 : List (Nat × Instr × Nat) := [(62, .iconst 0, 1), (63, .aload_n 0, 1), (64, .getfield 75, 3), (67, .getfield 86, 3), (70, .invokestatic 89, 3), (73, .aload_n 0, 1), (74, .getfield 75, 3), (77, .getfield 95, 3), (80, .iconst 0, 1)]
set_option maxRecDepth 100000 in
theorem xd_X7_load_4 : xchk1 cX7_load xk_X7_load_4 = true := xwalk_of 62 (by decide +kernel)
set_option maxRecDepth 100000 in
def xk_X7_load_5 : List (Nat × Instr × Nat) := [(81, .aload_n 0, 1), (82, .getfield 32, 3), (85, .iconst 0, 1), (86, .aload_n 0, 1), (87, .getfield 75, 3), (90, .getfield 86, 3), (93, .invokestatic 89, 3), (96, .aload_n 0, 1), (97, .aload_n 0, 1)]
set_option maxRecDepth 100000 in
theorem xd_X7_load_5 : xchk1 cX7_load xk_X7_load_5 = true := xwalk_of 81 (by decide +kernel)
set_option maxRecDepth 100000 in
def xk_X7_load_6 : List (Nat × Instr × Nat) := [(98, .getfield 75, 3), (101, .getfield 86, 3), (104, .putfield 35, 3), (107, .aload_n 0, 1), (108, .getfield 75, 3), (111, .getfield 96, 3), (114, .getfield 100, 3), (117, .istore 4, 2), (119, .iconst 0, 1)]
set_option maxRecDepth 100000 in
theorem xd_X7_load_6 : xchk1 cX7_load xk_X7_load_6 = true := xwalk_of 98 (by decide +kernel)
set_option maxRecDepth 100000 in
def xk_X7_load_7 : List (Nat × Instr × Nat) := [(120, .istore 5, 2), (122, .iload 5, 2), (124, .iload 4, 2), (126, .if_icmp .ge 24, 3), (129, .aload_n 0, 1), (130, .getfield 24, 3), (133, .iload 4, 2), (135, .if_icmp .ge 15, 3), (138, .aload_n 0, 1)]
set_option maxRecDepth 100000 in
theorem xd_X7_load_7 : xchk1 cX7_load xk_X7_load_7 = true := xwalk_of 120 (by decide +kernel)
set_option maxRecDepth 100000 in
def xk_X7_load_8 : List (Nat × Instr × Nat) := [(139, .iload 5, 2), (141, .invokevirtual 105, 3), (144, .iinc 5 1, 3), (147, .goto (-25), 3), (150, .aload_n 0, 1), (151, .aload_n 0, 1), (152, .getfield 35, 3), (155, .putfield 38, 3), (158, .aload_n 0, 1)]
set_option maxRecDepth 100000 in
theorem xd_X7_load_8 : xchk1 cX7_load xk_X7_load_8 = true := xwalk_of 139 (by decide +kernel)
set_option maxRecDepth 100000 in
def xk_X7_load_9 : List (Nat × Instr × Nat) := [(159, .invokevirtual 109, 3), (162, .return_, 1)]
set_option maxRecDepth 100000 in
theorem xd_X7_load_9 : xchk1 cX7_load xk_X7_load_9 = true := xwalk_of 159 (by decide +kernel)
set_option maxRecDepth 100000 in
def xk_X7_load : XT (Instr × Nat) := [(15, xk_X7_load_0),
  (30, xk_X7_load_1),
  (43, xk_X7_load_2),
  (62, xk_X7_load_3),
  (81, xk_X7_load_4),
  (98, xk_X7_load_5),
  (120, xk_X7_load_6),
  (139, xk_X7_load_7),
  (159, xk_X7_load_8),
  (100000, xk_X7_load_9)]
set_option maxRecDepth 100000 in
theorem xd_X7_load : xchk cX7_load xk_X7_load = true := (xchk_cons xd_X7_load_0 (xchk_cons xd_X7_load_1 (xchk_cons xd_X7_load_2 (xchk_cons xd_X7_load_3 (xchk_cons xd_X7_load_4 (xchk_cons xd_X7_load_5 (xchk_cons xd_X7_load_6 (xchk_cons xd_X7_load_7 (xchk_cons xd_X7_load_8 (xchk_cons xd_X7_load_9 xchk_nil))))))))))
set_option maxRecDepth 100000 in
def xk_X7_pick : XT (Instr × Nat) := [(14, [(0, .iload 4, 2), (2, .ifCond .lt 23, 3), (5, .iload 4, 2), (7, .bipush 64, 2), (9, .if_icmp .ge 16, 3), (12, .lload_n 0, 1), (13, .lconst 1, 1)]),
  (26, [(14, .iload 4, 2), (16, .lshl, 1), (17, .ldc2_w 115, 3), (20, .lxor, 1), (21, .land, 1), (22, .goto 4, 3), (25, .lload_n 0, 1)]),
  (39, [(26, .lstore 5, 2), (28, .lload 5, 2), (30, .lconst 0, 1), (31, .lcmp, 1), (32, .ifCond .eq 15, 3), (35, .lload 5, 2), (37, .lload 5, 2)]),
  (49, [(39, .lneg, 1), (40, .land, 1), (41, .lconst 1, 1), (42, .lsub, 1), (43, .invokestatic 135, 3), (46, .ireturn, 1), (47, .iload 4, 2)]),
  (61, [(49, .bipush 64, 2), (51, .if_icmp .lt 19, 3), (54, .lload_n 2, 1), (55, .lconst 1, 1), (56, .iload 4, 2), (58, .bipush 64, 2), (60, .isub, 1)]),
  (73, [(61, .lshl, 1), (62, .ldc2_w 115, 3), (65, .lxor, 1), (66, .land, 1), (67, .goto 4, 3), (70, .lload_n 2, 1), (71, .lstore 5, 2)]),
  (86, [(73, .lload 5, 2), (75, .lconst 0, 1), (76, .lcmp, 1), (77, .ifCond .eq 20, 3), (80, .bipush 64, 2), (82, .lload 5, 2), (84, .lload 5, 2)]),
  (97, [(86, .lneg, 1), (87, .land, 1), (88, .lconst 1, 1), (89, .lsub, 1), (90, .invokestatic 135, 3), (93, .iadd, 1), (94, .goto 4, 3)]),
  (100000, [(97, .iconst (-1), 1), (98, .ireturn, 1)])]
set_option maxRecDepth 100000 in
theorem xd_X7_pick : xchk cX7_pick xk_X7_pick = true := xchk_of (by decide +kernel)
set_option maxRecDepth 100000 in
def xk_X7_put : XT (Instr × Nat) := [(8, [(0, .lconst 1, 1), (1, .iload_n 1, 1), (2, .bipush 64, 2), (4, .irem, 1), (5, .lshl, 1), (6, .lstore_n 3, 1), (7, .aload_n 0, 1)]),
  (22, [(8, .getfield 41, 3), (11, .aload_n 0, 1), (12, .getfield 44, 3), (15, .lor, 1), (16, .invokestatic 135, 3), (19, .istore 5, 2), (21, .iload_n 1, 1)]),
  (38, [(22, .ifCond .lt 81, 3), (25, .iload 5, 2), (27, .bipush 64, 2), (29, .if_icmp .ge 74, 3), (32, .aload_n 0, 1), (33, .getfield 53, 3), (36, .iload 5, 2)]),
  (48, [(38, .iload_n 1, 1), (39, .iastore, 1), (40, .aload_n 0, 1), (41, .getfield 60, 3), (44, .iload_n 1, 1), (45, .bipush 64, 2), (47, .irem, 1)]),
  (59, [(48, .iload_n 2, 1), (49, .iastore, 1), (50, .aload_n 0, 1), (51, .getfield 50, 3), (54, .aload_n 0, 1), (55, .getfield 47, 3), (58, .dup2, 1)]),
  (68, [(59, .laload, 1), (60, .lload_n 3, 1), (61, .lor, 1), (62, .lastore, 1), (63, .aload_n 0, 1), (64, .dup, 1), (65, .getfield 41, 3)]),
  (80, [(68, .iload_n 1, 1), (69, .bipush 64, 2), (71, .if_icmp .ge 7, 3), (74, .lload_n 3, 1), (75, .goto 4, 3), (78, .lconst 0, 1), (79, .lor, 1)]),
  (94, [(80, .putfield 41, 3), (83, .aload_n 0, 1), (84, .dup, 1), (85, .getfield 44, 3), (88, .iload_n 1, 1), (89, .bipush 64, 2), (91, .if_icmp .ge 7, 3)]),
  (100000, [(94, .lconst 0, 1), (95, .goto 4, 3), (98, .lload_n 3, 1), (99, .lor, 1), (100, .putfield 44, 3), (103, .return_, 1)])]
set_option maxRecDepth 100000 in
theorem xd_X7_put : xchk cX7_put xk_X7_put = true := xchk_of (by decide +kernel)
set_option maxRecDepth 100000 in
def xk_X7_putAll : XT (Instr × Nat) := [(10, [(0, .iconst 0, 1), (1, .istore 5, 2), (3, .iload 5, 2), (5, .bipush 52, 2), (7, .if_icmp .ge 48, 3)]),
  (16, [(10, .lload_n 1, 1), (11, .lload_n 3, 1), (12, .lor, 1), (13, .iload 5, 2), (15, .lshr, 1)]),
  (23, [(16, .lconst 1, 1), (17, .land, 1), (18, .lconst 0, 1), (19, .lcmp, 1), (20, .ifCond .eq 29, 3)]),
  (29, [(23, .aload_n 0, 1), (24, .lload_n 1, 1), (25, .iload 5, 2), (27, .lshr, 1), (28, .lconst 1, 1)]),
  (37, [(29, .land, 1), (30, .lconst 0, 1), (31, .lcmp, 1), (32, .ifCond .eq 8, 3), (35, .iload 5, 2)]),
  (46, [(37, .goto 8, 3), (40, .bipush 64, 2), (42, .iload 5, 2), (44, .iadd, 1), (45, .iconst (-1), 1)]),
  (100000, [(46, .invokevirtual 132, 3), (49, .iinc 5 1, 3), (52, .goto (-49), 3), (55, .return_, 1)])]
set_option maxRecDepth 100000 in
theorem xd_X7_putAll : xchk cX7_putAll xk_X7_putAll = true := xchk_of (by decide +kernel)
set_option maxRecDepth 100000 in
def xk_X7_spread : XT (Instr × Nat) := [(12, [(0, .aload_n 0, 1), (1, .getfield 41, 3), (4, .ldc2_w 191, 3), (7, .land, 1), (8, .invokestatic 135, 3), (11, .istore_n 1, 1)]),
  (22, [(12, .iconst 0, 1), (13, .istore_n 2, 1), (14, .iload_n 2, 1), (15, .aload_n 0, 1), (16, .getfield 75, 3), (19, .getfield 96, 3)]),
  (36, [(22, .getfield 100, 3), (25, .if_icmp .ge 49, 3), (28, .iload_n 1, 1), (29, .aload_n 0, 1), (30, .getfield 24, 3), (33, .if_icmp .ne 41, 3)]),
  (47, [(36, .aload_n 0, 1), (37, .getfield 41, 3), (40, .aload_n 0, 1), (41, .getfield 44, 3), (44, .lor, 1), (45, .bipush 52, 2)]),
  (53, [(47, .iload_n 2, 1), (48, .iadd, 1), (49, .lshr, 1), (50, .lconst 1, 1), (51, .land, 1), (52, .lconst 0, 1)]),
  (62, [(53, .lcmp, 1), (54, .ifCond .ne 14, 3), (57, .aload_n 0, 1), (58, .bipush 116, 2), (60, .iload_n 2, 1), (61, .iadd, 1)]),
  (76, [(62, .sipush 3924, 3), (65, .invokevirtual 132, 3), (68, .iinc 2 1, 3), (71, .goto (-57), 3), (74, .iload_n 1, 1), (75, .aload_n 0, 1)]),
  (100000, [(76, .getfield 24, 3), (79, .if_icmp .le 9, 3), (82, .sipush 3924, 3), (85, .goto 4, 3), (88, .iconst (-1), 1), (89, .ireturn, 1)])]
set_option maxRecDepth 100000 in
theorem xd_X7_spread : xchk cX7_spread xk_X7_spread = true := xchk_of (by decide +kernel)
set_option maxRecDepth 100000 in
def xk_X7_tellChange : XT (Instr × Nat) := [(10, [(0, .iconst 0, 1), (1, .istore_n 2, 1), (2, .iload_n 2, 1), (3, .bipush 52, 2), (5, .if_icmp .ge 93, 3), (8, .lconst 1, 1), (9, .iload_n 2, 1)]),
  (23, [(10, .lshl, 1), (11, .lstore_n 3, 1), (12, .aload_n 0, 1), (13, .getfield 75, 3), (16, .getfield 96, 3), (19, .getfield 112, 3), (22, .iload_n 1, 1)]),
  (32, [(23, .laload, 1), (24, .lload_n 3, 1), (25, .land, 1), (26, .lconst 0, 1), (27, .lcmp, 1), (28, .ifCond .eq 64, 3), (31, .aload_n 0, 1)]),
  (49, [(32, .getfield 35, 3), (35, .sipush 3764, 3), (38, .if_icmp .ge 54, 3), (41, .aload_n 0, 1), (42, .getfield 28, 3), (45, .aload_n 0, 1), (46, .getfield 35, 3)]),
  (57, [(49, .lconst 1, 1), (50, .bipush 52, 2), (52, .iload_n 1, 1), (53, .iadd, 1), (54, .lshl, 1), (55, .lload_n 3, 1), (56, .aload_n 0, 1)]),
  (68, [(57, .getfield 20, 3), (60, .land, 1), (61, .lor, 1), (62, .lastore, 1), (63, .aload_n 0, 1), (64, .getfield 32, 3), (67, .aload_n 0, 1)]),
  (81, [(68, .getfield 35, 3), (71, .lload_n 3, 1), (72, .aload_n 0, 1), (73, .getfield 20, 3), (76, .ldc2_w 115, 3), (79, .lxor, 1), (80, .land, 1)]),
  (92, [(81, .lastore, 1), (82, .aload_n 0, 1), (83, .dup, 1), (84, .getfield 35, 3), (87, .iconst 1, 1), (88, .iadd, 1), (89, .putfield 35, 3)]),
  (100000, [(92, .iinc 2 1, 3), (95, .goto (-93), 3), (98, .return_, 1)])]
set_option maxRecDepth 100000 in
theorem xd_X7_tellChange : xchk cX7_tellChange xk_X7_tellChange = true := xchk_of (by decide +kernel)
set_option maxRecDepth 100000 in
def xk_X7_trace_0 : List (Nat × Instr × Nat) := [(0, .aload_n 0, 1), (1, .getfield 32, 3), (4, .sipush 3924, 3), (7, .aload_n 0, 1), (8, .getfield 41, 3), (11, .ldc2_w 191, 3), (14, .land, 1), (15, .lastore, 1), (16, .aload_n 0, 1), (17, .getfield 28, 3)]
set_option maxRecDepth 100000 in
theorem xd_X7_trace_0 : xchk1 cX7_trace xk_X7_trace_0 = true := xwalk_of 0 (by decide +kernel)
set_option maxRecDepth 100000 in
def xk_X7_trace_1 : List (Nat × Instr × Nat) := [(20, .sipush 3925, 3), (23, .lconst 0, 1), (24, .lastore, 1), (25, .aload_n 0, 1), (26, .getfield 32, 3), (29, .sipush 3925, 3), (32, .lconst 0, 1), (33, .lastore, 1), (34, .aload_n 0, 1), (35, .iload_n 1, 1)]
set_option maxRecDepth 100000 in
theorem xd_X7_trace_1 : xchk1 cX7_trace xk_X7_trace_1 = true := xwalk_of 20 (by decide +kernel)
set_option maxRecDepth 100000 in
def xk_X7_trace_2 : List (Nat × Instr × Nat) := [(36, .lconst 0, 1), (37, .invokevirtual 193, 3), (40, .lstore_n 2, 1), (41, .iconst 0, 1), (42, .istore 4, 2), (44, .aload_n 0, 1), (45, .getfield 41, 3), (48, .aload_n 0, 1), (49, .getfield 44, 3), (52, .lor, 1)]
set_option maxRecDepth 100000 in
theorem xd_X7_trace_2 : xchk1 cX7_trace xk_X7_trace_2 = true := xwalk_of 36 (by decide +kernel)
set_option maxRecDepth 100000 in
def xk_X7_trace_3 : List (Nat × Instr × Nat) := [(53, .invokestatic 135, 3), (56, .iconst 1, 1), (57, .isub, 1), (58, .istore 5, 2), (60, .iload 5, 2), (62, .ifCond .lt 141, 3), (65, .lconst 1, 1), (66, .aload_n 0, 1), (67, .getfield 53, 3), (70, .iload 5, 2)]
set_option maxRecDepth 100000 in
theorem xd_X7_trace_3 : xchk1 cX7_trace xk_X7_trace_3 = true := xwalk_of 53 (by decide +kernel)
set_option maxRecDepth 100000 in
def xk_X7_trace_4 : List (Nat × Instr × Nat) := [(72, .iaload, 1), (73, .bipush 64, 2), (75, .irem, 1), (76, .lshl, 1), (77, .lstore 6, 2), (79, .aload_n 0, 1), (80, .getfield 60, 3), (83, .aload_n 0, 1), (84, .getfield 53, 3), (87, .iload 5, 2)]
set_option maxRecDepth 100000 in
theorem xd_X7_trace_4 : xchk1 cX7_trace xk_X7_trace_4 = true := xwalk_of 72 (by decide +kernel)
set_option maxRecDepth 100000 in
def xk_X7_trace_5 : List (Nat × Instr × Nat) := [(89, .iaload, 1), (90, .bipush 64, 2), (92, .irem, 1), (93, .iaload, 1), (94, .istore 8, 2), (96, .aload_n 0, 1), (97, .getfield 28, 3), (100, .sipush 3925, 3), (103, .laload, 1), (104, .aload_n 0, 1)]
set_option maxRecDepth 100000 in
theorem xd_X7_trace_5 : xchk1 cX7_trace xk_X7_trace_5 = true := xwalk_of 89 (by decide +kernel)
set_option maxRecDepth 100000 in
def xk_X7_trace_6 : List (Nat × Instr × Nat) := [(105, .getfield 32, 3), (108, .sipush 3925, 3), (111, .laload, 1), (112, .lor, 1), (113, .lstore 9, 2), (115, .iload 4, 2), (117, .ifCond .ne 30, 3), (120, .aload_n 0, 1), (121, .getfield 47, 3), (124, .iconst 1, 1)]
set_option maxRecDepth 100000 in
theorem xd_X7_trace_6 : xchk1 cX7_trace xk_X7_trace_6 = true := xwalk_of 105 (by decide +kernel)
set_option maxRecDepth 100000 in
def xk_X7_trace_7 : List (Nat × Instr × Nat) := [(125, .if_icmp .le 26, 3), (128, .lload 9, 2), (130, .aload_n 0, 1), (131, .getfield 50, 3), (134, .aload_n 0, 1), (135, .getfield 47, 3), (138, .laload, 1), (139, .land, 1), (140, .invokestatic 135, 3), (143, .iconst 1, 1)]
set_option maxRecDepth 100000 in
theorem xd_X7_trace_7 : xchk1 cX7_trace xk_X7_trace_7 = true := xwalk_of 125 (by decide +kernel)
set_option maxRecDepth 100000 in
def xk_X7_trace_8 : List (Nat × Instr × Nat) := [(144, .if_icmp .ne 7, 3), (147, .iconst 1, 1), (148, .goto 4, 3), (151, .iconst 0, 1), (152, .istore 4, 2), (154, .iload 8, 2), (156, .iconst (-1), 1), (157, .if_icmp .eq 40, 3), (160, .lload 9, 2), (162, .lload 6, 2)]
set_option maxRecDepth 100000 in
theorem xd_X7_trace_8 : xchk1 cX7_trace xk_X7_trace_8 = true := xwalk_of 144 (by decide +kernel)
set_option maxRecDepth 100000 in
def xk_X7_trace_9 : List (Nat × Instr × Nat) := [(164, .land, 1), (165, .lconst 0, 1), (166, .lcmp, 1), (167, .ifCond .eq 30, 3), (170, .iload 4, 2), (172, .ifCond .eq 14, 3), (175, .aload_n 0, 1), (176, .iload 8, 2), (178, .lload 6, 2), (180, .invokevirtual 197, 3)]
set_option maxRecDepth 100000 in
theorem xd_X7_trace_9 : xchk1 cX7_trace xk_X7_trace_9 = true := xwalk_of 164 (by decide +kernel)
set_option maxRecDepth 100000 in
def xk_X7_trace_10 : List (Nat × Instr × Nat) := [(183, .ifCond .eq 14, 3), (186, .lload_n 2, 1), (187, .aload_n 0, 1), (188, .iload 8, 2), (190, .lload 6, 2), (192, .invokevirtual 193, 3), (195, .lor, 1), (196, .lstore_n 2, 1), (197, .iinc 5 (-1), 3), (200, .goto (-140), 3)]
set_option maxRecDepth 100000 in
theorem xd_X7_trace_10 : xchk1 cX7_trace xk_X7_trace_10 = true := xwalk_of 183 (by decide +kernel)
set_option maxRecDepth 100000 in
def xk_X7_trace_11 : List (Nat × Instr × Nat) := [(203, .aload_n 0, 1), (204, .lload_n 2, 1), (205, .invokevirtual 201, 3), (208, .return_, 1)]
set_option maxRecDepth 100000 in
theorem xd_X7_trace_11 : xchk1 cX7_trace xk_X7_trace_11 = true := xwalk_of 203 (by decide +kernel)
set_option maxRecDepth 100000 in
def xk_X7_trace : XT (Instr × Nat) := [(20, xk_X7_trace_0),
  (36, xk_X7_trace_1),
  (53, xk_X7_trace_2),
  (72, xk_X7_trace_3),
  (89, xk_X7_trace_4),
  (105, xk_X7_trace_5),
  (125, xk_X7_trace_6),
  (144, xk_X7_trace_7),
  (164, xk_X7_trace_8),
  (183, xk_X7_trace_9),
  (203, xk_X7_trace_10),
  (100000, xk_X7_trace_11)]
set_option maxRecDepth 100000 in
theorem xd_X7_trace : xchk cX7_trace xk_X7_trace = true := (xchk_cons xd_X7_trace_0 (xchk_cons xd_X7_trace_1 (xchk_cons xd_X7_trace_2 (xchk_cons xd_X7_trace_3 (xchk_cons xd_X7_trace_4 (xchk_cons xd_X7_trace_5 (xchk_cons xd_X7_trace_6 (xchk_cons xd_X7_trace_7 (xchk_cons xd_X7_trace_8 (xchk_cons xd_X7_trace_9 (xchk_cons xd_X7_trace_10 (xchk_cons xd_X7_trace_11 xchk_nil))))))))))))
set_option maxRecDepth 100000 in
def xk_X7_visit_0 : List (Nat × Instr × Nat) := [(0, .iconst (-1), 1), (1, .istore_n 2, 1), (2, .aload_n 0, 1), (3, .getfield 66, 3), (6, .sipush 7848, 3), (9, .iload_n 1, 1), (10, .iadd, 1), (11, .iaload, 1), (12, .istore_n 3, 1), (13, .aload_n 0, 1), (14, .getfield 66, 3)]
set_option maxRecDepth 100000 in
theorem xd_X7_visit_0 : xchk1 cX7_visit xk_X7_visit_0 = true := xwalk_of 0 (by decide +kernel)
set_option maxRecDepth 100000 in
def xk_X7_visit_1 : List (Nat × Instr × Nat) := [(17, .sipush 7848, 3), (20, .iload_n 1, 1), (21, .iadd, 1), (22, .iconst (-1), 1), (23, .iastore, 1), (24, .iconst 0, 1), (25, .istore 4, 2), (27, .iload 4, 2), (29, .sipush 7848, 3), (32, .if_icmp .ge 188, 3), (35, .iload_n 3, 1)]
set_option maxRecDepth 100000 in
theorem xd_X7_visit_1 : xchk1 cX7_visit xk_X7_visit_1 = true := xwalk_of 17 (by decide +kernel)
set_option maxRecDepth 100000 in
def xk_X7_visit_2 : List (Nat × Instr × Nat) := [(36, .iconst (-1), 1), (37, .if_icmp .eq 183, 3), (40, .aload_n 0, 1), (41, .getfield 66, 3), (44, .iload_n 3, 1), (45, .iaload, 1), (46, .istore 5, 2), (48, .iload_n 3, 1), (49, .iconst 2, 1), (50, .idiv, 1), (51, .istore 6, 2)]
set_option maxRecDepth 100000 in
theorem xd_X7_visit_2 : xchk1 cX7_visit xk_X7_visit_2 = true := xwalk_of 36 (by decide +kernel)
set_option maxRecDepth 100000 in
def xk_X7_visit_3 : List (Nat × Instr × Nat) := [(53, .aload_n 0, 1), (54, .getfield 63, 3), (57, .iload_n 3, 1), (58, .iconst 2, 1), (59, .irem, 1), (60, .ifCond .ne 9, 3), (63, .iload_n 3, 1), (64, .iconst 1, 1), (65, .iadd, 1), (66, .goto 6, 3), (69, .iload_n 3, 1)]
set_option maxRecDepth 100000 in
theorem xd_X7_visit_3 : xchk1 cX7_visit xk_X7_visit_3 = true := xwalk_of 53 (by decide +kernel)
set_option maxRecDepth 100000 in
def xk_X7_visit_4 : List (Nat × Instr × Nat) := [(70, .iconst 1, 1), (71, .isub, 1), (72, .iaload, 1), (73, .istore 7, 2), (75, .iload_n 1, 1), (76, .istore 8, 2), (78, .iload_n 2, 1), (79, .iconst (-1), 1), (80, .if_icmp .ne 124, 3), (83, .aload_n 0, 1), (84, .getfield 28, 3)]
set_option maxRecDepth 100000 in
theorem xd_X7_visit_4 : xchk1 cX7_visit xk_X7_visit_4 = true := xwalk_of 70 (by decide +kernel)
set_option maxRecDepth 100000 in
def xk_X7_visit_5 : List (Nat × Instr × Nat) := [(87, .iload 6, 2), (89, .laload, 1), (90, .aload_n 0, 1), (91, .getfield 41, 3), (94, .land, 1), (95, .aload_n 0, 1), (96, .getfield 32, 3), (99, .iload 6, 2), (101, .laload, 1), (102, .aload_n 0, 1), (103, .getfield 44, 3)]
set_option maxRecDepth 100000 in
theorem xd_X7_visit_5 : xchk1 cX7_visit xk_X7_visit_5 = true := xwalk_of 87 (by decide +kernel)
set_option maxRecDepth 100000 in
def xk_X7_visit_6 : List (Nat × Instr × Nat) := [(106, .land, 1), (107, .lor, 1), (108, .lconst 0, 1), (109, .lcmp, 1), (110, .ifCond .ne 94, 3), (113, .aload_n 0, 1), (114, .getfield 28, 3), (117, .iload 6, 2), (119, .laload, 1), (120, .aload_n 0, 1), (121, .getfield 44, 3)]
set_option maxRecDepth 100000 in
theorem xd_X7_visit_6 : xchk1 cX7_visit xk_X7_visit_6 = true := xwalk_of 106 (by decide +kernel)
set_option maxRecDepth 100000 in
def xk_X7_visit_7 : List (Nat × Instr × Nat) := [(124, .ldc2_w 115, 3), (127, .lxor, 1), (128, .land, 1), (129, .lstore 9, 2), (131, .aload_n 0, 1), (132, .getfield 32, 3), (135, .iload 6, 2), (137, .laload, 1), (138, .aload_n 0, 1), (139, .getfield 41, 3), (142, .ldc2_w 115, 3)]
set_option maxRecDepth 100000 in
theorem xd_X7_visit_7 : xchk1 cX7_visit xk_X7_visit_7 = true := xwalk_of 124 (by decide +kernel)
set_option maxRecDepth 100000 in
def xk_X7_visit_8 : List (Nat × Instr × Nat) := [(145, .lxor, 1), (146, .land, 1), (147, .lstore 11, 2), (149, .lload 9, 2), (151, .lload 11, 2), (153, .iload 7, 2), (155, .invokestatic 124, 3), (158, .istore 13, 2), (160, .iload 13, 2), (162, .iconst (-1), 1), (163, .if_icmp .ne 7, 3)]
set_option maxRecDepth 100000 in
theorem xd_X7_visit_8 : xchk1 cX7_visit xk_X7_visit_8 = true := xwalk_of 145 (by decide +kernel)
set_option maxRecDepth 100000 in
def xk_X7_visit_9 : List (Nat × Instr × Nat) := [(166, .iload_n 1, 1), (167, .goto 5, 3), (170, .iload 13, 2), (172, .istore 8, 2), (174, .lload 9, 2), (176, .lload 11, 2), (178, .lor, 1), (179, .lconst 0, 1), (180, .lcmp, 1), (181, .ifCond .ne 9, 3), (184, .iload 6, 2)]
set_option maxRecDepth 100000 in
theorem xd_X7_visit_9 : xchk1 cX7_visit xk_X7_visit_9 = true := xwalk_of 166 (by decide +kernel)
set_option maxRecDepth 100000 in
def xk_X7_visit_10 : List (Nat × Instr × Nat) := [(186, .istore_n 2, 1), (187, .goto 17, 3), (190, .iload 13, 2), (192, .iconst (-1), 1), (193, .if_icmp .ne 11, 3), (196, .aload_n 0, 1), (197, .iload 7, 2), (199, .iload 6, 2), (201, .invokevirtual 132, 3), (204, .aload_n 0, 1), (205, .iload_n 3, 1)]
set_option maxRecDepth 100000 in
theorem xd_X7_visit_10 : xchk1 cX7_visit xk_X7_visit_10 = true := xwalk_of 186 (by decide +kernel)
set_option maxRecDepth 100000 in
def xk_X7_visit_11 : List (Nat × Instr × Nat) := [(206, .iload 8, 2), (208, .invokevirtual 128, 3), (211, .iload 5, 2), (213, .istore_n 3, 1), (214, .iinc 4 1, 3), (217, .goto (-190), 3), (220, .iload_n 2, 1), (221, .ireturn, 1)]
set_option maxRecDepth 100000 in
theorem xd_X7_visit_11 : xchk1 cX7_visit xk_X7_visit_11 = true := xwalk_of 206 (by decide +kernel)
set_option maxRecDepth 100000 in
def xk_X7_visit : XT (Instr × Nat) := [(17, xk_X7_visit_0),
  (36, xk_X7_visit_1),
  (53, xk_X7_visit_2),
  (70, xk_X7_visit_3),
  (87, xk_X7_visit_4),
  (106, xk_X7_visit_5),
  (124, xk_X7_visit_6),
  (145, xk_X7_visit_7),
  (166, xk_X7_visit_8),
  (186, xk_X7_visit_9),
  (206, xk_X7_visit_10),
  (100000, xk_X7_visit_11)]
set_option maxRecDepth 100000 in
theorem xd_X7_visit : xchk cX7_visit xk_X7_visit = true := (xchk_cons xd_X7_visit_0 (xchk_cons xd_X7_visit_1 (xchk_cons xd_X7_visit_2 (xchk_cons xd_X7_visit_3 (xchk_cons xd_X7_visit_4 (xchk_cons xd_X7_visit_5 (xchk_cons xd_X7_visit_6 (xchk_cons xd_X7_visit_7 (xchk_cons xd_X7_visit_8 (xchk_cons xd_X7_visit_9 (xchk_cons xd_X7_visit_10 (xchk_cons xd_X7_visit_11 xchk_nil))))))))))))
set_option maxRecDepth 100000 in
def xk_X7_watch_0 : List (Nat × Instr × Nat) := [(0, .aload_n 0, 1), (1, .getfield 28, 3), (4, .iload_n 1, 1), (5, .laload, 1), (6, .aload_n 0, 1), (7, .getfield 44, 3), (10, .ldc2_w 115, 3), (13, .lxor, 1), (14, .land, 1), (15, .lstore_n 2, 1)]
set_option maxRecDepth 100000 in
theorem xd_X7_watch_0 : xchk1 cX7_watch xk_X7_watch_0 = true := xwalk_of 0 (by decide +kernel)
set_option maxRecDepth 100000 in
def xk_X7_watch_1 : List (Nat × Instr × Nat) := [(16, .aload_n 0, 1), (17, .getfield 32, 3), (20, .iload_n 1, 1), (21, .laload, 1), (22, .aload_n 0, 1), (23, .getfield 41, 3), (26, .ldc2_w 115, 3), (29, .lxor, 1), (30, .land, 1), (31, .lstore 4, 2)]
set_option maxRecDepth 100000 in
theorem xd_X7_watch_1 : xchk1 cX7_watch xk_X7_watch_1 = true := xwalk_of 16 (by decide +kernel)
set_option maxRecDepth 100000 in
def xk_X7_watch_2 : List (Nat × Instr × Nat) := [(33, .lload_n 2, 1), (34, .lload 4, 2), (36, .iconst (-1), 1), (37, .invokestatic 124, 3), (40, .istore 6, 2), (42, .lload_n 2, 1), (43, .lload 4, 2), (45, .iload 6, 2), (47, .invokestatic 124, 3), (50, .istore 7, 2)]
set_option maxRecDepth 100000 in
theorem xd_X7_watch_2 : xchk1 cX7_watch xk_X7_watch_2 = true := xwalk_of 33 (by decide +kernel)
set_option maxRecDepth 100000 in
def xk_X7_watch_3 : List (Nat × Instr × Nat) := [(52, .aload_n 0, 1), (53, .getfield 47, 3), (56, .istore 8, 2), (58, .iload 8, 2), (60, .ifCond .lt 76, 3), (63, .iload 7, 2), (65, .iconst (-1), 1), (66, .if_icmp .ne 70, 3), (69, .aload_n 0, 1), (70, .getfield 28, 3)]
set_option maxRecDepth 100000 in
theorem xd_X7_watch_3 : xchk1 cX7_watch xk_X7_watch_3 = true := xwalk_of 52 (by decide +kernel)
set_option maxRecDepth 100000 in
def xk_X7_watch_4 : List (Nat × Instr × Nat) := [(73, .iload_n 1, 1), (74, .laload, 1), (75, .aload_n 0, 1), (76, .getfield 50, 3), (79, .iload 8, 2), (81, .laload, 1), (82, .land, 1), (83, .lstore_n 2, 1), (84, .aload_n 0, 1), (85, .getfield 32, 3)]
set_option maxRecDepth 100000 in
theorem xd_X7_watch_4 : xchk1 cX7_watch xk_X7_watch_4 = true := xwalk_of 73 (by decide +kernel)
set_option maxRecDepth 100000 in
def xk_X7_watch_5 : List (Nat × Instr × Nat) := [(88, .iload_n 1, 1), (89, .laload, 1), (90, .aload_n 0, 1), (91, .getfield 50, 3), (94, .iload 8, 2), (96, .laload, 1), (97, .land, 1), (98, .lstore 4, 2), (100, .iload 6, 2), (102, .iconst (-1), 1)]
set_option maxRecDepth 100000 in
theorem xd_X7_watch_5 : xchk1 cX7_watch xk_X7_watch_5 = true := xwalk_of 88 (by decide +kernel)
set_option maxRecDepth 100000 in
def xk_X7_watch_6 : List (Nat × Instr × Nat) := [(103, .if_icmp .ne 13, 3), (106, .lload_n 2, 1), (107, .lload 4, 2), (109, .iconst (-1), 1), (110, .invokestatic 124, 3), (113, .goto 5, 3), (116, .iload 6, 2), (118, .istore 6, 2), (120, .lload_n 2, 1), (121, .lload 4, 2)]
set_option maxRecDepth 100000 in
theorem xd_X7_watch_6 : xchk1 cX7_watch xk_X7_watch_6 = true := xwalk_of 103 (by decide +kernel)
set_option maxRecDepth 100000 in
def xk_X7_watch_7 : List (Nat × Instr × Nat) := [(123, .iload 6, 2), (125, .invokestatic 124, 3), (128, .istore 7, 2), (130, .iinc 8 (-1), 3), (133, .goto (-75), 3), (136, .iload 6, 2), (138, .iconst (-1), 1), (139, .if_icmp .ne 4, 3), (142, .return_, 1), (143, .aload_n 0, 1)]
set_option maxRecDepth 100000 in
theorem xd_X7_watch_7 : xchk1 cX7_watch xk_X7_watch_7 = true := xwalk_of 123 (by decide +kernel)
set_option maxRecDepth 100000 in
def xk_X7_watch_8 : List (Nat × Instr × Nat) := [(144, .iconst 2, 1), (145, .iload_n 1, 1), (146, .imul, 1), (147, .iload 6, 2), (149, .invokevirtual 128, 3), (152, .aload_n 0, 1), (153, .iconst 2, 1), (154, .iload_n 1, 1), (155, .imul, 1), (156, .iconst 1, 1)]
set_option maxRecDepth 100000 in
theorem xd_X7_watch_8 : xchk1 cX7_watch xk_X7_watch_8 = true := xwalk_of 144 (by decide +kernel)
set_option maxRecDepth 100000 in
def xk_X7_watch_9 : List (Nat × Instr × Nat) := [(157, .iadd, 1), (158, .iload 7, 2), (160, .iconst (-1), 1), (161, .if_icmp .ne 8, 3), (164, .iload 6, 2), (166, .goto 5, 3), (169, .iload 7, 2), (171, .invokevirtual 128, 3), (174, .iload 7, 2), (176, .iconst (-1), 1)]
set_option maxRecDepth 100000 in
theorem xd_X7_watch_9 : xchk1 cX7_watch xk_X7_watch_9 = true := xwalk_of 157 (by decide +kernel)
set_option maxRecDepth 100000 in
def xk_X7_watch_10 : List (Nat × Instr × Nat) := [(177, .if_icmp .ne 32, 3), (180, .aload_n 0, 1), (181, .getfield 41, 3), (184, .aload_n 0, 1), (185, .getfield 44, 3), (188, .lor, 1), (189, .iload 6, 2), (191, .bipush 64, 2), (193, .irem, 1), (194, .lshr, 1)]
set_option maxRecDepth 100000 in
theorem xd_X7_watch_10 : xchk1 cX7_watch xk_X7_watch_10 = true := xwalk_of 177 (by decide +kernel)
set_option maxRecDepth 100000 in
def xk_X7_watch_11 : List (Nat × Instr × Nat) := [(195, .lconst 1, 1), (196, .land, 1), (197, .lconst 0, 1), (198, .lcmp, 1), (199, .ifCond .ne 10, 3), (202, .aload_n 0, 1), (203, .iload 6, 2), (205, .iload_n 1, 1), (206, .invokevirtual 132, 3), (209, .return_, 1)]
set_option maxRecDepth 100000 in
theorem xd_X7_watch_11 : xchk1 cX7_watch xk_X7_watch_11 = true := xwalk_of 195 (by decide +kernel)
set_option maxRecDepth 100000 in
def xk_X7_watch : XT (Instr × Nat) := [(16, xk_X7_watch_0),
  (33, xk_X7_watch_1),
  (52, xk_X7_watch_2),
  (73, xk_X7_watch_3),
  (88, xk_X7_watch_4),
  (103, xk_X7_watch_5),
  (123, xk_X7_watch_6),
  (144, xk_X7_watch_7),
  (157, xk_X7_watch_8),
  (177, xk_X7_watch_9),
  (195, xk_X7_watch_10),
  (100000, xk_X7_watch_11)]
set_option maxRecDepth 100000 in
theorem xd_X7_watch : xchk cX7_watch xk_X7_watch = true := (xchk_cons xd_X7_watch_0 (xchk_cons xd_X7_watch_1 (xchk_cons xd_X7_watch_2 (xchk_cons xd_X7_watch_3 (xchk_cons xd_X7_watch_4 (xchk_cons xd_X7_watch_5 (xchk_cons xd_X7_watch_6 (xchk_cons xd_X7_watch_7 (xchk_cons xd_X7_watch_8 (xchk_cons xd_X7_watch_9 (xchk_cons xd_X7_watch_10 (xchk_cons xd_X7_watch_11 xchk_nil))))))))))))
set_option maxRecDepth 100000 in
def xk_X7_watchAll : XT (Instr × Nat) := [(10, [(0, .iconst 0, 1), (1, .istore_n 1, 1), (2, .iload_n 1, 1), (3, .sipush 128, 3), (6, .if_icmp .ge 20, 3), (9, .aload_n 0, 1)]),
  (20, [(10, .getfield 66, 3), (13, .sipush 7848, 3), (16, .iload_n 1, 1), (17, .iadd, 1), (18, .iconst (-1), 1), (19, .iastore, 1)]),
  (30, [(20, .iinc 1 1, 3), (23, .goto (-21), 3), (26, .iconst 0, 1), (27, .istore_n 1, 1), (28, .iload_n 1, 1), (29, .aload_n 0, 1)]),
  (44, [(30, .getfield 38, 3), (33, .if_icmp .ge 40, 3), (36, .aload_n 0, 1), (37, .iload_n 1, 1), (38, .invokevirtual 117, 3), (41, .ifCond .eq 26, 3)]),
  (54, [(44, .aload_n 0, 1), (45, .getfield 28, 3), (48, .iload_n 1, 1), (49, .laload, 1), (50, .aload_n 0, 1), (51, .getfield 32, 3)]),
  (62, [(54, .iload_n 1, 1), (55, .laload, 1), (56, .land, 1), (57, .lconst 0, 1), (58, .lcmp, 1), (59, .ifCond .ne 8, 3)]),
  (100000, [(62, .aload_n 0, 1), (63, .iload_n 1, 1), (64, .invokevirtual 121, 3), (67, .iinc 1 1, 3), (70, .goto (-42), 3), (73, .return_, 1)])]
set_option maxRecDepth 100000 in
theorem xd_X7_watchAll : xchk cX7_watchAll xk_X7_watchAll = true := xchk_of (by decide +kernel)
set_option maxRecDepth 100000 in
def xk_X7_weigh : XT (Instr × Nat) := [(13, [(0, .aload_n 0, 1), (1, .dup, 1), (2, .getfield 72, 3), (5, .aload_n 0, 1), (6, .getfield 72, 3), (9, .bipush 16, 2), (11, .idiv, 1), (12, .iconst 1, 1)]),
  (26, [(13, .iadd, 1), (14, .iadd, 1), (15, .putfield 72, 3), (18, .iconst 0, 1), (19, .istore_n 3, 1), (20, .iload_n 3, 1), (21, .bipush 64, 2), (23, .if_icmp .ge 36, 3)]),
  (36, [(26, .aload_n 0, 1), (27, .getfield 69, 3), (30, .iload_n 3, 1), (31, .dup2, 1), (32, .iaload, 1), (33, .lload_n 1, 1), (34, .iload_n 3, 1), (35, .lshr, 1)]),
  (50, [(36, .lconst 1, 1), (37, .land, 1), (38, .lconst 0, 1), (39, .lcmp, 1), (40, .ifCond .eq 10, 3), (43, .aload_n 0, 1), (44, .getfield 72, 3), (47, .goto 4, 3)]),
  (65, [(50, .iconst 0, 1), (51, .iadd, 1), (52, .iastore, 1), (53, .iinc 3 1, 3), (56, .goto (-36), 3), (59, .aload_n 0, 1), (60, .getfield 72, 3), (63, .ldc 205, 2)]),
  (80, [(65, .if_icmp .le 43, 3), (68, .aload_n 0, 1), (69, .aload_n 0, 1), (70, .getfield 72, 3), (73, .bipush 16, 2), (75, .ishr, 1), (76, .putfield 72, 3), (79, .iconst 0, 1)]),
  (93, [(80, .istore_n 3, 1), (81, .iload_n 3, 1), (82, .bipush 64, 2), (84, .if_icmp .ge 24, 3), (87, .aload_n 0, 1), (88, .getfield 69, 3), (91, .iload_n 3, 1), (92, .aload_n 0, 1)]),
  (108, [(93, .getfield 69, 3), (96, .iload_n 3, 1), (97, .iaload, 1), (98, .bipush 16, 2), (100, .ishr, 1), (101, .iastore, 1), (102, .iinc 3 1, 3), (105, .goto (-24), 3)]),
  (100000, [(108, .return_, 1)])]
set_option maxRecDepth 100000 in
theorem xd_X7_weigh : xchk cX7_weigh xk_X7_weigh = true := xchk_of (by decide +kernel)
set_option maxRecDepth 100000 in
def xk_X8_addBan : XT (Instr × Nat) := [(7, [(0, .aload_n 0, 1), (1, .getfield 64, 3), (4, .iload_n 1, 1), (5, .iconst 2, 1), (6, .imul, 1)]),
  (14, [(7, .aload_n 0, 1), (8, .getfield 61, 3), (11, .iload_n 1, 1), (12, .iaload, 1), (13, .iadd, 1)]),
  (21, [(14, .aload_n 2, 1), (15, .aastore, 1), (16, .aload_n 0, 1), (17, .getfield 61, 3), (20, .iload_n 1, 1)]),
  (26, [(21, .dup2, 1), (22, .iaload, 1), (23, .iconst 1, 1), (24, .iadd, 1), (25, .iastore, 1)]),
  (100000, [(26, .aload_n 0, 1), (27, .getfield 61, 3), (30, .iload_n 1, 1), (31, .iaload, 1), (32, .ireturn, 1)])]
set_option maxRecDepth 100000 in
theorem xd_X8_addBan : xchk cX8_addBan xk_X8_addBan = true := xchk_of (by decide +kernel)
set_option maxRecDepth 100000 in
def xk_X8_addGiven : XT (Instr × Nat) := [(7, [(0, .iload_n 1, 1), (1, .iconst 2, 1), (2, .imul, 1), (3, .aload_n 0, 1), (4, .getfield 67, 3)]),
  (13, [(7, .iload_n 1, 1), (8, .iaload, 1), (9, .iadd, 1), (10, .istore 4, 2), (12, .aload_n 0, 1)]),
  (21, [(13, .getfield 70, 3), (16, .iload 4, 2), (18, .iload_n 2, 1), (19, .iastore, 1), (20, .aload_n 0, 1)]),
  (29, [(21, .getfield 73, 3), (24, .iload 4, 2), (26, .iload_n 3, 1), (27, .iastore, 1), (28, .aload_n 0, 1)]),
  (36, [(29, .getfield 67, 3), (32, .iload_n 1, 1), (33, .dup2, 1), (34, .iaload, 1), (35, .iconst 1, 1)]),
  (43, [(36, .iadd, 1), (37, .iastore, 1), (38, .aload_n 0, 1), (39, .getfield 67, 3), (42, .iload_n 1, 1)]),
  (100000, [(43, .iaload, 1), (44, .ireturn, 1)])]
set_option maxRecDepth 100000 in
theorem xd_X8_addGiven : xchk cX8_addGiven xk_X8_addGiven = true := xchk_of (by decide +kernel)
set_option maxRecDepth 100000 in
def xk_X8_addNeed : XT (Instr × Nat) := [(7, [(0, .iload_n 1, 1), (1, .iconst 3, 1), (2, .imul, 1), (3, .aload_n 0, 1), (4, .getfield 48, 3)]),
  (13, [(7, .iload_n 1, 1), (8, .iaload, 1), (9, .iadd, 1), (10, .istore 4, 2), (12, .aload_n 0, 1)]),
  (21, [(13, .getfield 53, 3), (16, .iload 4, 2), (18, .aload_n 2, 1), (19, .aastore, 1), (20, .aload_n 0, 1)]),
  (29, [(21, .getfield 57, 3), (24, .iload 4, 2), (26, .iload_n 3, 1), (27, .bastore, 1), (28, .aload_n 0, 1)]),
  (36, [(29, .getfield 48, 3), (32, .iload_n 1, 1), (33, .dup2, 1), (34, .iaload, 1), (35, .iconst 1, 1)]),
  (43, [(36, .iadd, 1), (37, .iastore, 1), (38, .aload_n 0, 1), (39, .getfield 48, 3), (42, .iload_n 1, 1)]),
  (100000, [(43, .iaload, 1), (44, .ireturn, 1)])]
set_option maxRecDepth 100000 in
theorem xd_X8_addNeed : xchk cX8_addNeed xk_X8_addNeed = true := xchk_of (by decide +kernel)
set_option maxRecDepth 100000 in
def xk_X8_addPack : XT (Instr × Nat) := [(6, [(0, .aload_n 0, 1), (1, .getfield 9, 3), (4, .istore_n 1, 1), (5, .aload_n 0, 1)]),
  (12, [(6, .getfield 18, 3), (9, .iload_n 1, 1), (10, .iconst 0, 1), (11, .iastore, 1)]),
  (18, [(12, .aload_n 0, 1), (13, .getfield 22, 3), (16, .iload_n 1, 1), (17, .iload_n 1, 1)]),
  (24, [(18, .invokestatic 85, 3), (21, .lastore, 1), (22, .aload_n 0, 1), (23, .dup, 1)]),
  (32, [(24, .getfield 9, 3), (27, .iconst 1, 1), (28, .iadd, 1), (29, .putfield 9, 3)]),
  (100000, [(32, .iload_n 1, 1), (33, .ireturn, 1)])]
set_option maxRecDepth 100000 in
theorem xd_X8_addPack : xchk cX8_addPack xk_X8_addPack = true := xchk_of (by decide +kernel)
set_option maxRecDepth 100000 in
def xk_X8_addVersion_0 : List (Nat × Instr × Nat) := [(0, .aload_n 0, 1), (1, .getfield 15, 3), (4, .istore 6, 2), (6, .aload_n 0, 1), (7, .dup, 1), (8, .getfield 15, 3), (11, .iconst 1, 1), (12, .iadd, 1), (13, .putfield 15, 3)]
set_option maxRecDepth 100000 in
theorem xd_X8_addVersion_0 : xchk1 cX8_addVersion xk_X8_addVersion_0 = true := xwalk_of 0 (by decide +kernel)
set_option maxRecDepth 100000 in
def xk_X8_addVersion_1 : List (Nat × Instr × Nat) := [(16, .aload_n 0, 1), (17, .getfield 29, 3), (20, .iload 6, 2), (22, .iload_n 1, 1), (23, .iastore, 1), (24, .aload_n 0, 1), (25, .getfield 32, 3), (28, .iload 6, 2), (30, .iload_n 2, 1)]
set_option maxRecDepth 100000 in
theorem xd_X8_addVersion_1 : xchk1 cX8_addVersion xk_X8_addVersion_1 = true := xwalk_of 16 (by decide +kernel)
set_option maxRecDepth 100000 in
def xk_X8_addVersion_2 : List (Nat × Instr × Nat) := [(31, .iastore, 1), (32, .aload_n 0, 1), (33, .getfield 35, 3), (36, .iload 6, 2), (38, .iload_n 3, 1), (39, .iastore, 1), (40, .aload_n 0, 1), (41, .getfield 38, 3), (44, .iload 6, 2)]
set_option maxRecDepth 100000 in
theorem xd_X8_addVersion_2 : xchk1 cX8_addVersion xk_X8_addVersion_2 = true := xwalk_of 31 (by decide +kernel)
set_option maxRecDepth 100000 in
def xk_X8_addVersion_3 : List (Nat × Instr × Nat) := [(46, .iload 4, 2), (48, .iastore, 1), (49, .aload_n 0, 1), (50, .getfield 41, 3), (53, .iload 6, 2), (55, .iload 5, 2), (57, .iastore, 1), (58, .aload_n 0, 1), (59, .dup, 1)]
set_option maxRecDepth 100000 in
theorem xd_X8_addVersion_3 : xchk1 cX8_addVersion xk_X8_addVersion_3 = true := xwalk_of 46 (by decide +kernel)
set_option maxRecDepth 100000 in
def xk_X8_addVersion_4 : List (Nat × Instr × Nat) := [(60, .getfield 44, 3), (63, .lconst 1, 1), (64, .iload 6, 2), (66, .lshl, 1), (67, .ldc2_w 89, 3), (70, .lxor, 1), (71, .land, 1), (72, .putfield 44, 3), (75, .aload_n 0, 1)]
set_option maxRecDepth 100000 in
theorem xd_X8_addVersion_4 : xchk1 cX8_addVersion xk_X8_addVersion_4 = true := xwalk_of 60 (by decide +kernel)
set_option maxRecDepth 100000 in
def xk_X8_addVersion_5 : List (Nat × Instr × Nat) := [(76, .getfield 48, 3), (79, .iload 6, 2), (81, .iconst 0, 1), (82, .iastore, 1), (83, .aload_n 0, 1), (84, .getfield 61, 3), (87, .iload 6, 2), (89, .iconst 0, 1), (90, .iastore, 1)]
set_option maxRecDepth 100000 in
theorem xd_X8_addVersion_5 : xchk1 cX8_addVersion xk_X8_addVersion_5 = true := xwalk_of 76 (by decide +kernel)
set_option maxRecDepth 100000 in
def xk_X8_addVersion_6 : List (Nat × Instr × Nat) := [(91, .aload_n 0, 1), (92, .getfield 67, 3), (95, .iload 6, 2), (97, .iconst 0, 1), (98, .iastore, 1), (99, .aload_n 0, 1), (100, .getfield 76, 3), (103, .iload 6, 2), (105, .aconst_null, 1)]
set_option maxRecDepth 100000 in
theorem xd_X8_addVersion_6 : xchk1 cX8_addVersion xk_X8_addVersion_6 = true := xwalk_of 91 (by decide +kernel)
set_option maxRecDepth 100000 in
def xk_X8_addVersion_7 : List (Nat × Instr × Nat) := [(106, .aastore, 1), (107, .aload_n 0, 1), (108, .getfield 22, 3), (111, .iload_n 1, 1), (112, .dup2, 1), (113, .laload, 1), (114, .lconst 1, 1), (115, .iload 6, 2), (117, .lshl, 1)]
set_option maxRecDepth 100000 in
theorem xd_X8_addVersion_7 : xchk1 cX8_addVersion xk_X8_addVersion_7 = true := xwalk_of 106 (by decide +kernel)
set_option maxRecDepth 100000 in
def xk_X8_addVersion_8 : List (Nat × Instr × Nat) := [(118, .lor, 1), (119, .lastore, 1), (120, .aload_n 0, 1), (121, .iload_n 1, 1), (122, .iload 6, 2), (124, .invokevirtual 91, 3), (127, .aload_n 0, 1), (128, .getfield 18, 3), (131, .iload_n 1, 1)]
set_option maxRecDepth 100000 in
theorem xd_X8_addVersion_8 : xchk1 cX8_addVersion xk_X8_addVersion_8 = true := xwalk_of 118 (by decide +kernel)
set_option maxRecDepth 100000 in
def xk_X8_addVersion_9 : List (Nat × Instr × Nat) := [(132, .iaload, 1), (133, .ireturn, 1)]
set_option maxRecDepth 100000 in
theorem xd_X8_addVersion_9 : xchk1 cX8_addVersion xk_X8_addVersion_9 = true := xwalk_of 132 (by decide +kernel)
set_option maxRecDepth 100000 in
def xk_X8_addVersion : XT (Instr × Nat) := [(16, xk_X8_addVersion_0),
  (31, xk_X8_addVersion_1),
  (46, xk_X8_addVersion_2),
  (60, xk_X8_addVersion_3),
  (76, xk_X8_addVersion_4),
  (91, xk_X8_addVersion_5),
  (106, xk_X8_addVersion_6),
  (118, xk_X8_addVersion_7),
  (132, xk_X8_addVersion_8),
  (100000, xk_X8_addVersion_9)]
set_option maxRecDepth 100000 in
theorem xd_X8_addVersion : xchk cX8_addVersion xk_X8_addVersion = true := (xchk_cons xd_X8_addVersion_0 (xchk_cons xd_X8_addVersion_1 (xchk_cons xd_X8_addVersion_2 (xchk_cons xd_X8_addVersion_3 (xchk_cons xd_X8_addVersion_4 (xchk_cons xd_X8_addVersion_5 (xchk_cons xd_X8_addVersion_6 (xchk_cons xd_X8_addVersion_7 (xchk_cons xd_X8_addVersion_8 (xchk_cons xd_X8_addVersion_9 xchk_nil))))))))))
set_option maxRecDepth 100000 in
def xk_X8_codeIn : XT (Instr × Nat) := [(6, [(0, .aload_n 0, 1), (1, .lload_n 1, 1), (2, .iload_n 3, 1), (3, .invokevirtual 99, 3)]),
  (14, [(6, .istore 4, 2), (8, .iload 4, 2), (10, .iconst (-1), 1), (11, .if_icmp .ne 7, 3)]),
  (22, [(14, .iconst (-1), 1), (15, .goto 10, 3), (18, .aload_n 0, 1), (19, .getfield 32, 3)]),
  (100000, [(22, .iload 4, 2), (24, .iaload, 1), (25, .ireturn, 1)])]
set_option maxRecDepth 100000 in
theorem xd_X8_codeIn : xchk cX8_codeIn xk_X8_codeIn = true := xchk_of (by decide +kernel)
set_option maxRecDepth 100000 in
def xk_X8_copyFrom_0 : List (Nat × Instr × Nat) := [(0, .aload_n 0, 1), (1, .aload_n 1, 1), (2, .getfield 9, 3), (5, .putfield 9, 3), (8, .aload_n 0, 1), (9, .aload_n 1, 1), (10, .getfield 15, 3), (13, .putfield 15, 3), (16, .aload_n 1, 1), (17, .getfield 18, 3), (20, .iconst 0, 1), (21, .aload_n 0, 1), (22, .getfield 18, 3)]
set_option maxRecDepth 100000 in
theorem xd_X8_copyFrom_0 : xchk1 cX8_copyFrom xk_X8_copyFrom_0 = true := xwalk_of 0 (by decide +kernel)
set_option maxRecDepth 100000 in
def xk_X8_copyFrom_1 : List (Nat × Instr × Nat) := [(25, .iconst 0, 1), (26, .bipush 12, 2), (28, .invokestatic 79, 3), (31, .aload_n 1, 1), (32, .getfield 22, 3), (35, .iconst 0, 1), (36, .aload_n 0, 1), (37, .getfield 22, 3), (40, .iconst 0, 1), (41, .bipush 12, 2), (43, .invokestatic 79, 3), (46, .aload_n 1, 1), (47, .getfield 26, 3)]
set_option maxRecDepth 100000 in
theorem xd_X8_copyFrom_1 : xchk1 cX8_copyFrom xk_X8_copyFrom_1 = true := xwalk_of 25 (by decide +kernel)
set_option maxRecDepth 100000 in
def xk_X8_copyFrom_2 : List (Nat × Instr × Nat) := [(50, .iconst 0, 1), (51, .aload_n 0, 1), (52, .getfield 26, 3), (55, .iconst 0, 1), (56, .bipush 96, 2), (58, .invokestatic 79, 3), (61, .aload_n 1, 1), (62, .getfield 29, 3), (65, .iconst 0, 1), (66, .aload_n 0, 1), (67, .getfield 29, 3), (70, .iconst 0, 1), (71, .bipush 40, 2)]
set_option maxRecDepth 100000 in
theorem xd_X8_copyFrom_2 : xchk1 cX8_copyFrom xk_X8_copyFrom_2 = true := xwalk_of 50 (by decide +kernel)
set_option maxRecDepth 100000 in
def xk_X8_copyFrom_3 : List (Nat × Instr × Nat) := [(73, .invokestatic 79, 3), (76, .aload_n 1, 1), (77, .getfield 32, 3), (80, .iconst 0, 1), (81, .aload_n 0, 1), (82, .getfield 32, 3), (85, .iconst 0, 1), (86, .bipush 40, 2), (88, .invokestatic 79, 3), (91, .aload_n 1, 1), (92, .getfield 35, 3), (95, .iconst 0, 1), (96, .aload_n 0, 1)]
set_option maxRecDepth 100000 in
theorem xd_X8_copyFrom_3 : xchk1 cX8_copyFrom xk_X8_copyFrom_3 = true := xwalk_of 73 (by decide +kernel)
set_option maxRecDepth 100000 in
def xk_X8_copyFrom_4 : List (Nat × Instr × Nat) := [(97, .getfield 35, 3), (100, .iconst 0, 1), (101, .bipush 40, 2), (103, .invokestatic 79, 3), (106, .aload_n 1, 1), (107, .getfield 38, 3), (110, .iconst 0, 1), (111, .aload_n 0, 1), (112, .getfield 38, 3), (115, .iconst 0, 1), (116, .bipush 40, 2), (118, .invokestatic 79, 3), (121, .aload_n 1, 1)]
set_option maxRecDepth 100000 in
theorem xd_X8_copyFrom_4 : xchk1 cX8_copyFrom xk_X8_copyFrom_4 = true := xwalk_of 97 (by decide +kernel)
set_option maxRecDepth 100000 in
def xk_X8_copyFrom_5 : List (Nat × Instr × Nat) := [(122, .getfield 41, 3), (125, .iconst 0, 1), (126, .aload_n 0, 1), (127, .getfield 41, 3), (130, .iconst 0, 1), (131, .bipush 40, 2), (133, .invokestatic 79, 3), (136, .aload_n 1, 1), (137, .getfield 48, 3), (140, .iconst 0, 1), (141, .aload_n 0, 1), (142, .getfield 48, 3), (145, .iconst 0, 1)]
set_option maxRecDepth 100000 in
theorem xd_X8_copyFrom_5 : xchk1 cX8_copyFrom xk_X8_copyFrom_5 = true := xwalk_of 122 (by decide +kernel)
set_option maxRecDepth 100000 in
def xk_X8_copyFrom_6 : List (Nat × Instr × Nat) := [(146, .bipush 40, 2), (148, .invokestatic 79, 3), (151, .aload_n 1, 1), (152, .getfield 61, 3), (155, .iconst 0, 1), (156, .aload_n 0, 1), (157, .getfield 61, 3), (160, .iconst 0, 1), (161, .bipush 40, 2), (163, .invokestatic 79, 3), (166, .aload_n 1, 1), (167, .getfield 67, 3), (170, .iconst 0, 1)]
set_option maxRecDepth 100000 in
theorem xd_X8_copyFrom_6 : xchk1 cX8_copyFrom xk_X8_copyFrom_6 = true := xwalk_of 146 (by decide +kernel)
set_option maxRecDepth 100000 in
def xk_X8_copyFrom_7 : List (Nat × Instr × Nat) := [(171, .aload_n 0, 1), (172, .getfield 67, 3), (175, .iconst 0, 1), (176, .bipush 40, 2), (178, .invokestatic 79, 3), (181, .aload_n 1, 1), (182, .getfield 70, 3), (185, .iconst 0, 1), (186, .aload_n 0, 1), (187, .getfield 70, 3), (190, .iconst 0, 1), (191, .bipush 80, 2), (193, .invokestatic 79, 3)]
set_option maxRecDepth 100000 in
theorem xd_X8_copyFrom_7 : xchk1 cX8_copyFrom xk_X8_copyFrom_7 = true := xwalk_of 171 (by decide +kernel)
set_option maxRecDepth 100000 in
def xk_X8_copyFrom_8 : List (Nat × Instr × Nat) := [(196, .aload_n 1, 1), (197, .getfield 73, 3), (200, .iconst 0, 1), (201, .aload_n 0, 1), (202, .getfield 73, 3), (205, .iconst 0, 1), (206, .bipush 80, 2), (208, .invokestatic 79, 3), (211, .aload_n 0, 1), (212, .aload_n 1, 1), (213, .getfield 44, 3), (216, .putfield 44, 3), (219, .iconst 0, 1)]
set_option maxRecDepth 100000 in
theorem xd_X8_copyFrom_8 : xchk1 cX8_copyFrom xk_X8_copyFrom_8 = true := xwalk_of 196 (by decide +kernel)
set_option maxRecDepth 100000 in
def xk_X8_copyFrom_9 : List (Nat × Instr × Nat) := [(220, .istore_n 2, 1), (221, .iload_n 2, 1), (222, .bipush 120, 2), (224, .if_icmp .ge 33, 3), (227, .aload_n 0, 1), (228, .getfield 53, 3), (231, .iload_n 2, 1), (232, .aload_n 1, 1), (233, .getfield 53, 3), (236, .iload_n 2, 1), (237, .aaload, 1), (238, .aastore, 1), (239, .aload_n 0, 1)]
set_option maxRecDepth 100000 in
theorem xd_X8_copyFrom_9 : xchk1 cX8_copyFrom xk_X8_copyFrom_9 = true := xwalk_of 220 (by decide +kernel)
set_option maxRecDepth 100000 in
def xk_X8_copyFrom_10 : List (Nat × Instr × Nat) := [(240, .getfield 57, 3), (243, .iload_n 2, 1), (244, .aload_n 1, 1), (245, .getfield 57, 3), (248, .iload_n 2, 1), (249, .baload, 1), (250, .bastore, 1), (251, .iinc 2 1, 3), (254, .goto (-33), 3), (257, .iconst 0, 1), (258, .istore_n 2, 1), (259, .iload_n 2, 1), (260, .bipush 80, 2)]
set_option maxRecDepth 100000 in
theorem xd_X8_copyFrom_10 : xchk1 cX8_copyFrom xk_X8_copyFrom_10 = true := xwalk_of 240 (by decide +kernel)
set_option maxRecDepth 100000 in
def xk_X8_copyFrom_11 : List (Nat × Instr × Nat) := [(262, .if_icmp .ge 21, 3), (265, .aload_n 0, 1), (266, .getfield 64, 3), (269, .iload_n 2, 1), (270, .aload_n 1, 1), (271, .getfield 64, 3), (274, .iload_n 2, 1), (275, .aaload, 1), (276, .aastore, 1), (277, .iinc 2 1, 3), (280, .goto (-21), 3), (283, .iconst 0, 1), (284, .istore_n 2, 1)]
set_option maxRecDepth 100000 in
theorem xd_X8_copyFrom_11 : xchk1 cX8_copyFrom xk_X8_copyFrom_11 = true := xwalk_of 262 (by decide +kernel)
set_option maxRecDepth 100000 in
def xk_X8_copyFrom_12 : List (Nat × Instr × Nat) := [(285, .iload_n 2, 1), (286, .bipush 40, 2), (288, .if_icmp .ge 21, 3), (291, .aload_n 0, 1), (292, .getfield 76, 3), (295, .iload_n 2, 1), (296, .aload_n 1, 1), (297, .getfield 76, 3), (300, .iload_n 2, 1), (301, .aaload, 1), (302, .aastore, 1), (303, .iinc 2 1, 3), (306, .goto (-21), 3)]
set_option maxRecDepth 100000 in
theorem xd_X8_copyFrom_12 : xchk1 cX8_copyFrom xk_X8_copyFrom_12 = true := xwalk_of 285 (by decide +kernel)
set_option maxRecDepth 100000 in
def xk_X8_copyFrom_13 : List (Nat × Instr × Nat) := [(309, .return_, 1)]
set_option maxRecDepth 100000 in
theorem xd_X8_copyFrom_13 : xchk1 cX8_copyFrom xk_X8_copyFrom_13 = true := xwalk_of 309 (by decide +kernel)
set_option maxRecDepth 100000 in
def xk_X8_copyFrom : XT (Instr × Nat) := [(25, xk_X8_copyFrom_0),
  (50, xk_X8_copyFrom_1),
  (73, xk_X8_copyFrom_2),
  (97, xk_X8_copyFrom_3),
  (122, xk_X8_copyFrom_4),
  (146, xk_X8_copyFrom_5),
  (171, xk_X8_copyFrom_6),
  (196, xk_X8_copyFrom_7),
  (220, xk_X8_copyFrom_8),
  (240, xk_X8_copyFrom_9),
  (262, xk_X8_copyFrom_10),
  (285, xk_X8_copyFrom_11),
  (309, xk_X8_copyFrom_12),
  (100000, xk_X8_copyFrom_13)]
set_option maxRecDepth 100000 in
theorem xd_X8_copyFrom : xchk cX8_copyFrom xk_X8_copyFrom = true := (xchk_cons xd_X8_copyFrom_0 (xchk_cons xd_X8_copyFrom_1 (xchk_cons xd_X8_copyFrom_2 (xchk_cons xd_X8_copyFrom_3 (xchk_cons xd_X8_copyFrom_4 (xchk_cons xd_X8_copyFrom_5 (xchk_cons xd_X8_copyFrom_6 (xchk_cons xd_X8_copyFrom_7 (xchk_cons xd_X8_copyFrom_8 (xchk_cons xd_X8_copyFrom_9 (xchk_cons xd_X8_copyFrom_10 (xchk_cons xd_X8_copyFrom_11 (xchk_cons xd_X8_copyFrom_12 (xchk_cons xd_X8_copyFrom_13 xchk_nil))))))))))))))
set_option maxRecDepth 100000 in
def xk_X8_hasRoomIn : XT (Instr × Nat) := [(9, [(0, .aload_n 0, 1), (1, .getfield 15, 3), (4, .bipush 40, 2), (6, .if_icmp .ge 18, 3)]),
  (15, [(9, .aload_n 0, 1), (10, .getfield 18, 3), (13, .iload_n 1, 1), (14, .iaload, 1)]),
  (24, [(15, .bipush 8, 2), (17, .if_icmp .ge 7, 3), (20, .iconst 1, 1), (21, .goto 4, 3)]),
  (100000, [(24, .iconst 0, 1), (25, .ireturn, 1)])]
set_option maxRecDepth 100000 in
theorem xd_X8_hasRoomIn : xchk cX8_hasRoomIn xk_X8_hasRoomIn = true := xchk_of (by decide +kernel)
set_option maxRecDepth 100000 in
def xk_X8_idAt : XT (Instr × Nat) := [(7, [(0, .aload_n 0, 1), (1, .getfield 26, 3), (4, .iload_n 1, 1), (5, .bipush 8, 2)]),
  (11, [(7, .imul, 1), (8, .iload_n 2, 1), (9, .iadd, 1), (10, .iaload, 1)]),
  (100000, [(11, .ireturn, 1)])]
set_option maxRecDepth 100000 in
theorem xd_X8_idAt : xchk cX8_idAt xk_X8_idAt = true := xchk_of (by decide +kernel)
set_option maxRecDepth 100000 in
def xk_X8_idIn : XT (Instr × Nat) := [(6, [(0, .iconst 0, 1), (1, .istore 4, 2), (3, .iload 4, 2), (5, .aload_n 0, 1)]),
  (16, [(6, .getfield 15, 3), (9, .if_icmp .ge 32, 3), (12, .aload_n 0, 1), (13, .getfield 29, 3)]),
  (23, [(16, .iload 4, 2), (18, .iaload, 1), (19, .iload_n 3, 1), (20, .if_icmp .ne 15, 3)]),
  (32, [(23, .lload_n 1, 1), (24, .iload 4, 2), (26, .invokestatic 95, 3), (29, .ifCond .eq 6, 3)]),
  (41, [(32, .iload 4, 2), (34, .ireturn, 1), (35, .iinc 4 1, 3), (38, .goto (-35), 3)]),
  (100000, [(41, .iconst (-1), 1), (42, .ireturn, 1)])]
set_option maxRecDepth 100000 in
theorem xd_X8_idIn : xchk cX8_idIn xk_X8_idIn = true := xchk_of (by decide +kernel)
set_option maxRecDepth 100000 in
def xk_X8_idOf : XT (Instr × Nat) := [(4, [(0, .iconst 0, 1), (1, .istore_n 3, 1), (2, .iload_n 3, 1), (3, .aload_n 0, 1)]),
  (14, [(4, .getfield 15, 3), (7, .if_icmp .ge 31, 3), (10, .aload_n 0, 1), (11, .getfield 29, 3)]),
  (20, [(14, .iload_n 3, 1), (15, .iaload, 1), (16, .iload_n 1, 1), (17, .if_icmp .ne 15, 3)]),
  (26, [(20, .aload_n 0, 1), (21, .getfield 32, 3), (24, .iload_n 3, 1), (25, .iaload, 1)]),
  (32, [(26, .iload_n 2, 1), (27, .if_icmp .ne 5, 3), (30, .iload_n 3, 1), (31, .ireturn, 1)]),
  (100000, [(32, .iinc 3 1, 3), (35, .goto (-33), 3), (38, .iconst (-1), 1), (39, .ireturn, 1)])]
set_option maxRecDepth 100000 in
theorem xd_X8_idOf : xchk cX8_idOf xk_X8_idOf = true := xchk_of (by decide +kernel)
set_option maxRecDepth 100000 in
def xk_X8_inRangeOf : XT (Instr × Nat) := [(7, [(0, .lconst 0, 1), (1, .lstore_n 3, 1), (2, .iconst 0, 1), (3, .istore 5, 2), (5, .iload 5, 2)]),
  (18, [(7, .aload_n 0, 1), (8, .getfield 15, 3), (11, .if_icmp .ge 41, 3), (14, .aload_n 0, 1), (15, .getfield 29, 3)]),
  (26, [(18, .iload 5, 2), (20, .iaload, 1), (21, .iload_n 1, 1), (22, .if_icmp .ne 24, 3), (25, .aload_n 2, 1)]),
  (36, [(26, .aload_n 0, 1), (27, .getfield 32, 3), (30, .iload 5, 2), (32, .iaload, 1), (33, .invokestatic 105, 3)]),
  (44, [(36, .ifCond .eq 10, 3), (39, .lload_n 3, 1), (40, .lconst 1, 1), (41, .iload 5, 2), (43, .lshl, 1)]),
  (53, [(44, .lor, 1), (45, .lstore_n 3, 1), (46, .iinc 5 1, 3), (49, .goto (-44), 3), (52, .lload_n 3, 1)]),
  (100000, [(53, .lreturn, 1)])]
set_option maxRecDepth 100000 in
theorem xd_X8_inRangeOf : xchk cX8_inRangeOf xk_X8_inRangeOf = true := xchk_of (by decide +kernel)
set_option maxRecDepth 100000 in
def xk_X8_init : XT (Instr × Nat) := [(14, [(0, .aload_n 0, 1), (1, .invokespecial 3, 3), (4, .aload_n 0, 1), (5, .iconst 0, 1), (6, .putfield 9, 3), (9, .aload_n 0, 1), (10, .iconst 0, 1), (11, .putfield 15, 3)]),
  (30, [(14, .aload_n 0, 1), (15, .bipush 12, 2), (17, .newarray .int, 2), (19, .putfield 18, 3), (22, .aload_n 0, 1), (23, .bipush 12, 2), (25, .newarray .long, 2), (27, .putfield 22, 3)]),
  (46, [(30, .aload_n 0, 1), (31, .bipush 96, 2), (33, .newarray .int, 2), (35, .putfield 26, 3), (38, .aload_n 0, 1), (39, .bipush 40, 2), (41, .newarray .int, 2), (43, .putfield 29, 3)]),
  (62, [(46, .aload_n 0, 1), (47, .bipush 40, 2), (49, .newarray .int, 2), (51, .putfield 32, 3), (54, .aload_n 0, 1), (55, .bipush 40, 2), (57, .newarray .int, 2), (59, .putfield 35, 3)]),
  (78, [(62, .aload_n 0, 1), (63, .bipush 40, 2), (65, .newarray .int, 2), (67, .putfield 38, 3), (70, .aload_n 0, 1), (71, .bipush 40, 2), (73, .newarray .int, 2), (75, .putfield 41, 3)]),
  (92, [(78, .aload_n 0, 1), (79, .lconst 0, 1), (80, .putfield 44, 3), (83, .aload_n 0, 1), (84, .bipush 40, 2), (86, .newarray .int, 2), (88, .putfield 48, 3), (91, .aload_n 0, 1)]),
  (109, [(92, .bipush 120, 2), (94, .anewarray 51, 3), (97, .putfield 53, 3), (100, .aload_n 0, 1), (101, .bipush 120, 2), (103, .newarray .boolean, 2), (105, .putfield 57, 3), (108, .aload_n 0, 1)]),
  (126, [(109, .bipush 40, 2), (111, .newarray .int, 2), (113, .putfield 61, 3), (116, .aload_n 0, 1), (117, .bipush 80, 2), (119, .anewarray 51, 3), (122, .putfield 64, 3), (125, .aload_n 0, 1)]),
  (142, [(126, .bipush 40, 2), (128, .newarray .int, 2), (130, .putfield 67, 3), (133, .aload_n 0, 1), (134, .bipush 80, 2), (136, .newarray .int, 2), (138, .putfield 70, 3), (141, .aload_n 0, 1)]),
  (100000, [(142, .bipush 80, 2), (144, .newarray .int, 2), (146, .putfield 73, 3), (149, .aload_n 0, 1), (150, .bipush 40, 2), (152, .anewarray 51, 3), (155, .putfield 76, 3), (158, .return_, 1)])]
set_option maxRecDepth 100000 in
theorem xd_X8_init : xchk cX8_init xk_X8_init = true := xchk_of (by decide +kernel)
set_option maxRecDepth 100000 in
def xk_X8_newerOf : XT (Instr × Nat) := [(7, [(0, .iload_n 1, 1), (1, .iconst (-1), 1), (2, .if_icmp .eq 8, 3), (5, .iload_n 2, 1), (6, .iconst (-1), 1)]),
  (16, [(7, .if_icmp .ne 14, 3), (10, .iload_n 1, 1), (11, .iconst (-1), 1), (12, .if_icmp .ne 7, 3), (15, .iload_n 2, 1)]),
  (25, [(16, .goto 4, 3), (19, .iload_n 1, 1), (20, .ireturn, 1), (21, .aload_n 0, 1), (22, .getfield 32, 3)]),
  (32, [(25, .iload_n 1, 1), (26, .iaload, 1), (27, .aload_n 0, 1), (28, .getfield 32, 3), (31, .iload_n 2, 1)]),
  (41, [(32, .iaload, 1), (33, .if_icmp .lt 7, 3), (36, .iload_n 1, 1), (37, .goto 4, 3), (40, .iload_n 2, 1)]),
  (100000, [(41, .ireturn, 1)])]
set_option maxRecDepth 100000 in
theorem xd_X8_newerOf : xchk cX8_newerOf xk_X8_newerOf = true := xchk_of (by decide +kernel)
set_option maxRecDepth 100000 in
def xk_X8_putByAge : XT (Instr × Nat) := [(10, [(0, .iload_n 1, 1), (1, .bipush 8, 2), (3, .imul, 1), (4, .istore_n 3, 1), (5, .aload_n 0, 1), (6, .getfield 18, 3), (9, .iload_n 1, 1)]),
  (23, [(10, .iaload, 1), (11, .istore 4, 2), (13, .iload 4, 2), (15, .ifCond .le 54, 3), (18, .aload_n 0, 1), (19, .getfield 32, 3), (22, .aload_n 0, 1)]),
  (33, [(23, .getfield 26, 3), (26, .iload_n 3, 1), (27, .iload 4, 2), (29, .iadd, 1), (30, .iconst 1, 1), (31, .isub, 1), (32, .iaload, 1)]),
  (44, [(33, .iaload, 1), (34, .aload_n 0, 1), (35, .getfield 32, 3), (38, .iload_n 2, 1), (39, .iaload, 1), (40, .if_icmp .le 29, 3), (43, .aload_n 0, 1)]),
  (56, [(44, .getfield 26, 3), (47, .iload_n 3, 1), (48, .iload 4, 2), (50, .iadd, 1), (51, .aload_n 0, 1), (52, .getfield 26, 3), (55, .iload_n 3, 1)]),
  (66, [(56, .iload 4, 2), (58, .iadd, 1), (59, .iconst 1, 1), (60, .isub, 1), (61, .iaload, 1), (62, .iastore, 1), (63, .iinc 4 (-1), 3)]),
  (78, [(66, .goto (-53), 3), (69, .aload_n 0, 1), (70, .getfield 26, 3), (73, .iload_n 3, 1), (74, .iload 4, 2), (76, .iadd, 1), (77, .iload_n 2, 1)]),
  (87, [(78, .iastore, 1), (79, .aload_n 0, 1), (80, .getfield 18, 3), (83, .iload_n 1, 1), (84, .dup2, 1), (85, .iaload, 1), (86, .iconst 1, 1)]),
  (100000, [(87, .iadd, 1), (88, .iastore, 1), (89, .return_, 1)])]
set_option maxRecDepth 100000 in
theorem xd_X8_putByAge : xchk cX8_putByAge xk_X8_putByAge = true := xchk_of (by decide +kernel)
set_option maxRecDepth 100000 in
def xk_X8_sizeOf : XT (Instr × Nat) := [(7, [(0, .iconst 0, 1), (1, .istore_n 3, 1), (2, .iconst 0, 1), (3, .istore 4, 2), (5, .iload 4, 2)]),
  (16, [(7, .aload_n 0, 1), (8, .getfield 15, 3), (11, .if_icmp .ge 32, 3), (14, .iload_n 3, 1), (15, .lload_n 1, 1)]),
  (28, [(16, .iload 4, 2), (18, .invokestatic 95, 3), (21, .ifCond .eq 13, 3), (24, .aload_n 0, 1), (25, .getfield 38, 3)]),
  (36, [(28, .iload 4, 2), (30, .iaload, 1), (31, .goto 4, 3), (34, .iconst 0, 1), (35, .iadd, 1)]),
  (100000, [(36, .istore_n 3, 1), (37, .iinc 4 1, 3), (40, .goto (-35), 3), (43, .iload_n 3, 1), (44, .ireturn, 1)])]
set_option maxRecDepth 100000 in
theorem xd_X8_sizeOf : xchk cX8_sizeOf xk_X8_sizeOf = true := xchk_of (by decide +kernel)
set_option maxRecDepth 100000 in
def xk_X8_unlikePacks : XT (Instr × Nat) := [(8, [(0, .iconst 0, 1), (1, .istore 5, 2), (3, .iconst 0, 1), (4, .istore 6, 2), (6, .iload 6, 2)]),
  (18, [(8, .aload_n 0, 1), (9, .getfield 9, 3), (12, .if_icmp .ge 38, 3), (15, .iload 5, 2), (17, .lload_n 1, 1)]),
  (26, [(18, .lload_n 3, 1), (19, .lxor, 1), (20, .aload_n 0, 1), (21, .getfield 22, 3), (24, .iload 6, 2)]),
  (33, [(26, .laload, 1), (27, .land, 1), (28, .lconst 0, 1), (29, .lcmp, 1), (30, .ifCond .eq 10, 3)]),
  (41, [(33, .iconst 1, 1), (34, .iload 6, 2), (36, .ishl, 1), (37, .goto 4, 3), (40, .iconst 0, 1)]),
  (52, [(41, .ior, 1), (42, .istore 5, 2), (44, .iinc 6 1, 3), (47, .goto (-41), 3), (50, .iload 5, 2)]),
  (100000, [(52, .ireturn, 1)])]
set_option maxRecDepth 100000 in
theorem xd_X8_unlikePacks : xchk cX8_unlikePacks xk_X8_unlikePacks = true := xchk_of (by decide +kernel)
set_option maxRecDepth 100000 in
def xk_X8_versionsOf : XT (Instr × Nat) := [(6, [(0, .aload_n 0, 1), (1, .getfield 22, 3), (4, .iload_n 1, 1), (5, .laload, 1)]),
  (100000, [(6, .ldc2_w 103, 3), (9, .land, 1), (10, .lreturn, 1)])]
set_option maxRecDepth 100000 in
theorem xd_X8_versionsOf : xchk cX8_versionsOf xk_X8_versionsOf = true := xchk_of (by decide +kernel)
set_option maxRecDepth 100000 in
def xk_X8_withOption : XT (Instr × Nat) := [(7, [(0, .lconst 0, 1), (1, .lstore_n 2, 1), (2, .iconst 0, 1), (3, .istore 4, 2), (5, .iload 4, 2)]),
  (18, [(7, .aload_n 0, 1), (8, .getfield 15, 3), (11, .if_icmp .ge 37, 3), (14, .aload_n 0, 1), (15, .getfield 29, 3)]),
  (26, [(18, .iload 4, 2), (20, .iaload, 1), (21, .iload_n 1, 1), (22, .if_icmp .ne 20, 3), (25, .aload_n 0, 1)]),
  (36, [(26, .getfield 76, 3), (29, .iload 4, 2), (31, .aaload, 1), (32, .ifnull 10, 3), (35, .lload_n 2, 1)]),
  (42, [(36, .lconst 1, 1), (37, .iload 4, 2), (39, .lshl, 1), (40, .lor, 1), (41, .lstore_n 2, 1)]),
  (100000, [(42, .iinc 4 1, 3), (45, .goto (-40), 3), (48, .lload_n 2, 1), (49, .lreturn, 1)])]
set_option maxRecDepth 100000 in
theorem xd_X8_withOption : xchk cX8_withOption xk_X8_withOption = true := xchk_of (by decide +kernel)
set_option maxRecDepth 100000 in
def xk_X9_bestVersion : XT (Instr × Nat) := [(11, [(0, .aload_n 0, 1), (1, .getfield 91, 3), (4, .iload_n 1, 1), (5, .ishr, 1), (6, .iconst 1, 1), (7, .iand, 1), (8, .ifCond .eq 7, 3)]),
  (24, [(11, .iconst 1, 1), (12, .goto 4, 3), (15, .iconst 0, 1), (16, .istore 6, 2), (18, .iload 6, 2), (20, .ifCond .ne 24, 3), (23, .aload_n 0, 1)]),
  (36, [(24, .lload_n 2, 1), (25, .lload 4, 2), (27, .aload_n 0, 1), (28, .getfield 29, 3), (31, .iload_n 1, 1), (32, .invokevirtual 79, 3), (35, .lor, 1)]),
  (51, [(36, .invokevirtual 88, 3), (39, .ifCond .eq 5, 3), (42, .lconst 0, 1), (43, .lreturn, 1), (44, .aload_n 0, 1), (45, .getfield 29, 3), (48, .getfield 94, 3)]),
  (62, [(51, .iload_n 1, 1), (52, .iaload, 1), (53, .iconst 1, 1), (54, .isub, 1), (55, .istore 7, 2), (57, .iload 7, 2), (59, .ifCond .lt 39, 3)]),
  (74, [(62, .lconst 1, 1), (63, .aload_n 0, 1), (64, .getfield 29, 3), (67, .iload_n 1, 1), (68, .iload 7, 2), (70, .invokevirtual 97, 3), (73, .lshl, 1)]),
  (86, [(74, .lstore 8, 2), (76, .aload_n 0, 1), (77, .lload_n 2, 1), (78, .lload 8, 2), (80, .lor, 1), (81, .lload 4, 2), (83, .invokevirtual 88, 3)]),
  (100000, [(86, .ifCond .eq 6, 3), (89, .lload 8, 2), (91, .lreturn, 1), (92, .iinc 7 (-1), 3), (95, .goto (-38), 3), (98, .lconst 0, 1), (99, .lreturn, 1)])]
set_option maxRecDepth 100000 in
theorem xd_X9_bestVersion : xchk cX9_bestVersion xk_X9_bestVersion = true := xchk_of (by decide +kernel)
set_option maxRecDepth 100000 in
def xk_X9_canStill : XT (Instr × Nat) := [(10, [(0, .lload_n 1, 1), (1, .aload_n 0, 1), (2, .getfield 9, 3), (5, .ldc2_w 83, 3), (8, .lxor, 1), (9, .land, 1)]),
  (20, [(10, .lconst 0, 1), (11, .lcmp, 1), (12, .ifCond .ne 16, 3), (15, .lload_n 3, 1), (16, .aload_n 0, 1), (17, .getfield 9, 3)]),
  (28, [(20, .land, 1), (21, .lconst 0, 1), (22, .lcmp, 1), (23, .ifCond .ne 5, 3), (26, .iconst 1, 1), (27, .ireturn, 1)]),
  (39, [(28, .aload_n 0, 1), (29, .getfield 30, 3), (32, .lload_n 1, 1), (33, .lload_n 3, 1), (34, .invokevirtual 49, 3), (37, .istore 5, 2)]),
  (52, [(39, .aload_n 0, 1), (40, .iload 5, 2), (42, .ifCond .eq 13, 3), (45, .aload_n 0, 1), (46, .getfield 30, 3), (49, .invokevirtual 53, 3)]),
  (100000, [(52, .goto 7, 3), (55, .aload_n 0, 1), (56, .getfield 9, 3), (59, .putfield 9, 3), (62, .iload 5, 2), (64, .ireturn, 1)])]
set_option maxRecDepth 100000 in
theorem xd_X9_canStill : xchk cX9_canStill xk_X9_canStill = true := xchk_of (by decide +kernel)
set_option maxRecDepth 100000 in
def xk_X9_find_0 : List (Nat × Instr × Nat) := [(0, .iload_n 1, 1), (1, .ifCond .eq 16, 3), (4, .aload_n 0, 1), (5, .getfield 19, 3), (8, .invokevirtual 34, 3), (11, .getfield 38, 3), (14, .goto 4, 3), (17, .lconst 0, 1), (18, .lstore_n 2, 1)]
set_option maxRecDepth 100000 in
theorem xd_X9_find_0 : xchk1 cX9_find xk_X9_find_0 = true := xwalk_of 0 (by decide +kernel)
set_option maxRecDepth 100000 in
def xk_X9_find_1 : List (Nat × Instr × Nat) := [(19, .aload_n 0, 1), (20, .getfield 30, 3), (23, .lload_n 2, 1), (24, .bipush 12, 2), (26, .invokevirtual 43, 3), (29, .aload_n 0, 1), (30, .getfield 30, 3), (33, .lconst 0, 1), (34, .lconst 0, 1)]
set_option maxRecDepth 100000 in
theorem xd_X9_find_1 : xchk1 cX9_find xk_X9_find_1 = true := xwalk_of 19 (by decide +kernel)
set_option maxRecDepth 100000 in
def xk_X9_find_2 : List (Nat × Instr × Nat) := [(35, .invokevirtual 49, 3), (38, .ifCond .ne 5, 3), (41, .iconst 0, 1), (42, .ireturn, 1), (43, .aload_n 0, 1), (44, .aload_n 0, 1), (45, .getfield 30, 3), (48, .invokevirtual 53, 3), (51, .putfield 9, 3)]
set_option maxRecDepth 100000 in
theorem xd_X9_find_2 : xchk1 cX9_find xk_X9_find_2 = true := xwalk_of 35 (by decide +kernel)
set_option maxRecDepth 100000 in
def xk_X9_find_3 : List (Nat × Instr × Nat) := [(54, .iload_n 1, 1), (55, .ifCond .eq 21, 3), (58, .aload_n 0, 1), (59, .getfield 29, 3), (62, .aload_n 0, 1), (63, .getfield 9, 3), (66, .lload_n 2, 1), (67, .invokevirtual 56, 3), (70, .invokestatic 62, 3)]
set_option maxRecDepth 100000 in
theorem xd_X9_find_3 : xchk1 cX9_find xk_X9_find_3 = true := xwalk_of 54 (by decide +kernel)
set_option maxRecDepth 100000 in
def xk_X9_find_4 : List (Nat × Instr × Nat) := [(73, .goto 4, 3), (76, .iconst 0, 1), (77, .istore 4, 2), (79, .iconst 0, 1), (80, .istore 5, 2), (82, .iload 5, 2), (84, .bipush 12, 2), (86, .if_icmp .ge 86, 3), (89, .iload 4, 2)]
set_option maxRecDepth 100000 in
theorem xd_X9_find_4 : xchk1 cX9_find xk_X9_find_4 = true := xwalk_of 73 (by decide +kernel)
set_option maxRecDepth 100000 in
def xk_X9_find_5 : List (Nat × Instr × Nat) := [(91, .ifCond .le 81, 3), (94, .aload_n 0, 1), (95, .getfield 30, 3), (98, .lload_n 2, 1), (99, .iload 4, 2), (101, .iconst 1, 1), (102, .isub, 1), (103, .invokevirtual 43, 3), (106, .aload_n 0, 1)]
set_option maxRecDepth 100000 in
theorem xd_X9_find_5 : xchk1 cX9_find xk_X9_find_5 = true := xwalk_of 91 (by decide +kernel)
set_option maxRecDepth 100000 in
def xk_X9_find_6 : List (Nat × Instr × Nat) := [(107, .getfield 30, 3), (110, .lconst 0, 1), (111, .lconst 0, 1), (112, .invokevirtual 49, 3), (115, .istore 6, 2), (117, .aload_n 0, 1), (118, .iload 6, 2), (120, .ifCond .eq 13, 3), (123, .aload_n 0, 1)]
set_option maxRecDepth 100000 in
theorem xd_X9_find_6 : xchk1 cX9_find xk_X9_find_6 = true := xwalk_of 107 (by decide +kernel)
set_option maxRecDepth 100000 in
def xk_X9_find_7 : List (Nat × Instr × Nat) := [(124, .getfield 30, 3), (127, .invokevirtual 53, 3), (130, .goto 7, 3), (133, .aload_n 0, 1), (134, .getfield 9, 3), (137, .putfield 9, 3), (140, .iload 6, 2), (142, .ifCond .eq 21, 3), (145, .aload_n 0, 1)]
set_option maxRecDepth 100000 in
theorem xd_X9_find_7 : xchk1 cX9_find xk_X9_find_7 = true := xwalk_of 124 (by decide +kernel)
set_option maxRecDepth 100000 in
def xk_X9_find_8 : List (Nat × Instr × Nat) := [(146, .getfield 29, 3), (149, .aload_n 0, 1), (150, .getfield 9, 3), (153, .lload_n 2, 1), (154, .invokevirtual 56, 3), (157, .invokestatic 62, 3), (160, .goto 4, 3), (163, .iconst 0, 1), (164, .istore 4, 2)]
set_option maxRecDepth 100000 in
theorem xd_X9_find_8 : xchk1 cX9_find xk_X9_find_8 = true := xwalk_of 146 (by decide +kernel)
set_option maxRecDepth 100000 in
def xk_X9_find_9 : List (Nat × Instr × Nat) := [(166, .iinc 5 1, 3), (169, .goto (-87), 3), (172, .iload_n 1, 1), (173, .ifCond .eq 26, 3), (176, .aload_n 0, 1), (177, .getfield 30, 3), (180, .lload_n 2, 1), (181, .aload_n 0, 1), (182, .getfield 29, 3)]
set_option maxRecDepth 100000 in
theorem xd_X9_find_9 : xchk1 cX9_find xk_X9_find_9 = true := xwalk_of 166 (by decide +kernel)
set_option maxRecDepth 100000 in
def xk_X9_find_10 : List (Nat × Instr × Nat) := [(185, .aload_n 0, 1), (186, .getfield 9, 3), (189, .lload_n 2, 1), (190, .invokevirtual 56, 3), (193, .invokestatic 62, 3), (196, .invokevirtual 43, 3), (199, .iconst 1, 1), (200, .ireturn, 1)]
set_option maxRecDepth 100000 in
theorem xd_X9_find_10 : xchk1 cX9_find xk_X9_find_10 = true := xwalk_of 185 (by decide +kernel)
set_option maxRecDepth 100000 in
def xk_X9_find : XT (Instr × Nat) := [(19, xk_X9_find_0),
  (35, xk_X9_find_1),
  (54, xk_X9_find_2),
  (73, xk_X9_find_3),
  (91, xk_X9_find_4),
  (107, xk_X9_find_5),
  (124, xk_X9_find_6),
  (146, xk_X9_find_7),
  (166, xk_X9_find_8),
  (185, xk_X9_find_9),
  (100000, xk_X9_find_10)]
set_option maxRecDepth 100000 in
theorem xd_X9_find : xchk cX9_find xk_X9_find = true := (xchk_cons xd_X9_find_0 (xchk_cons xd_X9_find_1 (xchk_cons xd_X9_find_2 (xchk_cons xd_X9_find_3 (xchk_cons xd_X9_find_4 (xchk_cons xd_X9_find_5 (xchk_cons xd_X9_find_6 (xchk_cons xd_X9_find_7 (xchk_cons xd_X9_find_8 (xchk_cons xd_X9_find_9 (xchk_cons xd_X9_find_10 xchk_nil)))))))))))
set_option maxRecDepth 100000 in
def xk_X9_findTurns_0 : List (Nat × Instr × Nat) := [(0, .aload_n 0, 1), (1, .getfield 19, 3), (4, .invokevirtual 34, 3), (7, .astore_n 1, 1), (8, .iconst 0, 1), (9, .istore_n 2, 1), (10, .aload_n 0, 1), (11, .iconst 0, 1), (12, .putfield 91, 3)]
set_option maxRecDepth 100000 in
theorem xd_X9_findTurns_0 : xchk1 cX9_findTurns xk_X9_findTurns_0 = true := xwalk_of 0 (by decide +kernel)
set_option maxRecDepth 100000 in
def xk_X9_findTurns_1 : List (Nat × Instr × Nat) := [(15, .iconst 0, 1), (16, .istore_n 3, 1), (17, .iload_n 3, 1), (18, .aload_n 1, 1), (19, .getfield 101, 3), (22, .if_icmp .ge 83, 3), (25, .aload_n 1, 1), (26, .getfield 104, 3), (29, .iload_n 3, 1)]
set_option maxRecDepth 100000 in
theorem xd_X9_findTurns_1 : xchk1 cX9_findTurns xk_X9_findTurns_1 = true := xwalk_of 15 (by decide +kernel)
set_option maxRecDepth 100000 in
def xk_X9_findTurns_2 : List (Nat × Instr × Nat) := [(30, .aaload, 1), (31, .astore 4, 2), (33, .aload 4, 2), (35, .ifnull 64, 3), (38, .aload_n 0, 1), (39, .getfield 91, 3), (42, .aload 4, 2), (44, .getfield 108, 3), (47, .ishr, 1)]
set_option maxRecDepth 100000 in
theorem xd_X9_findTurns_2 : xchk1 cX9_findTurns xk_X9_findTurns_2 = true := xwalk_of 30 (by decide +kernel)
set_option maxRecDepth 100000 in
def xk_X9_findTurns_3 : List (Nat × Instr × Nat) := [(48, .iconst 1, 1), (49, .iand, 1), (50, .ifCond .ne 39, 3), (53, .iload_n 2, 1), (54, .bipush 12, 2), (56, .if_icmp .ge 33, 3), (59, .aload_n 0, 1), (60, .dup, 1), (61, .getfield 91, 3)]
set_option maxRecDepth 100000 in
theorem xd_X9_findTurns_3 : xchk1 cX9_findTurns xk_X9_findTurns_3 = true := xwalk_of 48 (by decide +kernel)
set_option maxRecDepth 100000 in
def xk_X9_findTurns_4 : List (Nat × Instr × Nat) := [(64, .iconst 1, 1), (65, .aload 4, 2), (67, .getfield 108, 3), (70, .ishl, 1), (71, .ior, 1), (72, .putfield 91, 3), (75, .aload_n 0, 1), (76, .getfield 15, 3), (79, .iload_n 2, 1)]
set_option maxRecDepth 100000 in
theorem xd_X9_findTurns_4 : xchk1 cX9_findTurns xk_X9_findTurns_4 = true := xwalk_of 64 (by decide +kernel)
set_option maxRecDepth 100000 in
def xk_X9_findTurns_5 : List (Nat × Instr × Nat) := [(80, .aload 4, 2), (82, .getfield 108, 3), (85, .iastore, 1), (86, .iinc 2 1, 3), (89, .aload 4, 2), (91, .getfield 113, 3), (94, .astore 4, 2), (96, .goto (-63), 3), (99, .iinc 3 1, 3)]
set_option maxRecDepth 100000 in
theorem xd_X9_findTurns_5 : xchk1 cX9_findTurns xk_X9_findTurns_5 = true := xwalk_of 80 (by decide +kernel)
set_option maxRecDepth 100000 in
def xk_X9_findTurns_6 : List (Nat × Instr × Nat) := [(102, .goto (-85), 3), (105, .iconst 0, 1), (106, .istore_n 3, 1), (107, .iload_n 3, 1), (108, .aload_n 0, 1), (109, .getfield 29, 3), (112, .getfield 71, 3), (115, .if_icmp .ge 36, 3), (118, .aload_n 0, 1)]
set_option maxRecDepth 100000 in
theorem xd_X9_findTurns_6 : xchk1 cX9_findTurns xk_X9_findTurns_6 = true := xwalk_of 102 (by decide +kernel)
set_option maxRecDepth 100000 in
def xk_X9_findTurns_7 : List (Nat × Instr × Nat) := [(119, .getfield 91, 3), (122, .iload_n 3, 1), (123, .ishr, 1), (124, .iconst 1, 1), (125, .iand, 1), (126, .ifCond .ne 19, 3), (129, .iload_n 2, 1), (130, .bipush 12, 2), (132, .if_icmp .ge 13, 3)]
set_option maxRecDepth 100000 in
theorem xd_X9_findTurns_7 : xchk1 cX9_findTurns xk_X9_findTurns_7 = true := xwalk_of 119 (by decide +kernel)
set_option maxRecDepth 100000 in
def xk_X9_findTurns_8 : List (Nat × Instr × Nat) := [(135, .aload_n 0, 1), (136, .getfield 15, 3), (139, .iload_n 2, 1), (140, .iload_n 3, 1), (141, .iastore, 1), (142, .iinc 2 1, 3), (145, .iinc 3 1, 3), (148, .goto (-41), 3), (151, .return_, 1)]
set_option maxRecDepth 100000 in
theorem xd_X9_findTurns_8 : xchk1 cX9_findTurns xk_X9_findTurns_8 = true := xwalk_of 135 (by decide +kernel)
set_option maxRecDepth 100000 in
def xk_X9_findTurns : XT (Instr × Nat) := [(15, xk_X9_findTurns_0),
  (30, xk_X9_findTurns_1),
  (48, xk_X9_findTurns_2),
  (64, xk_X9_findTurns_3),
  (80, xk_X9_findTurns_4),
  (102, xk_X9_findTurns_5),
  (119, xk_X9_findTurns_6),
  (135, xk_X9_findTurns_7),
  (100000, xk_X9_findTurns_8)]
set_option maxRecDepth 100000 in
theorem xd_X9_findTurns : xchk cX9_findTurns xk_X9_findTurns = true := (xchk_cons xd_X9_findTurns_0 (xchk_cons xd_X9_findTurns_1 (xchk_cons xd_X9_findTurns_2 (xchk_cons xd_X9_findTurns_3 (xchk_cons xd_X9_findTurns_4 (xchk_cons xd_X9_findTurns_5 (xchk_cons xd_X9_findTurns_6 (xchk_cons xd_X9_findTurns_7 (xchk_cons xd_X9_findTurns_8 xchk_nil)))))))))
set_option maxRecDepth 100000 in
def xk_X9_init : XT (Instr × Nat) := [(6, [(0, .aload_n 0, 1), (1, .invokespecial 3, 3), (4, .aload_n 0, 1), (5, .lconst 0, 1)]),
  (14, [(6, .putfield 9, 3), (9, .aload_n 0, 1), (10, .bipush 12, 2), (12, .newarray .int, 2)]),
  (22, [(14, .putfield 15, 3), (17, .aload_n 0, 1), (18, .aload_n 1, 1), (19, .putfield 19, 3)]),
  (30, [(22, .aload_n 0, 1), (23, .aload_n 1, 1), (24, .getfield 23, 3), (27, .putfield 29, 3)]),
  (100000, [(30, .aload_n 0, 1), (31, .aload_n 2, 1), (32, .putfield 30, 3), (35, .return_, 1)])]
set_option maxRecDepth 100000 in
theorem xd_X9_init : xchk cX9_init xk_X9_init = true := xchk_of (by decide +kernel)
set_option maxRecDepth 100000 in
def xk_X9_isAhead_0 : List (Nat × Instr × Nat) := [(0, .iconst 0, 1), (1, .istore 5, 2), (3, .iload 5, 2), (5, .aload_n 0, 1), (6, .getfield 29, 3), (9, .getfield 71, 3), (12, .if_icmp .ge 124, 3), (15, .aload_n 0, 1), (16, .getfield 15, 3)]
set_option maxRecDepth 100000 in
theorem xd_X9_isAhead_0 : xchk1 cX9_isAhead xk_X9_isAhead_0 = true := xwalk_of 0 (by decide +kernel)
set_option maxRecDepth 100000 in
def xk_X9_isAhead_1 : List (Nat × Instr × Nat) := [(19, .iload 5, 2), (21, .iaload, 1), (22, .istore 6, 2), (24, .aload_n 0, 1), (25, .getfield 29, 3), (28, .lload_n 1, 1), (29, .iload 6, 2), (31, .invokevirtual 117, 3), (34, .istore 7, 2)]
set_option maxRecDepth 100000 in
theorem xd_X9_isAhead_1 : xchk1 cX9_isAhead xk_X9_isAhead_1 = true := xwalk_of 19 (by decide +kernel)
set_option maxRecDepth 100000 in
def xk_X9_isAhead_2 : List (Nat × Instr × Nat) := [(36, .aload_n 0, 1), (37, .getfield 29, 3), (40, .lload_n 3, 1), (41, .iload 6, 2), (43, .invokevirtual 117, 3), (46, .istore 8, 2), (48, .iload 7, 2), (50, .iload 8, 2), (52, .if_icmp .eq 78, 3)]
set_option maxRecDepth 100000 in
theorem xd_X9_isAhead_2 : xchk1 cX9_isAhead xk_X9_isAhead_2 = true := xwalk_of 36 (by decide +kernel)
set_option maxRecDepth 100000 in
def xk_X9_isAhead_3 : List (Nat × Instr × Nat) := [(55, .aload_n 0, 1), (56, .getfield 91, 3), (59, .iload 6, 2), (61, .ishr, 1), (62, .iconst 1, 1), (63, .iand, 1), (64, .ifCond .eq 7, 3), (67, .iconst 1, 1), (68, .goto 4, 3)]
set_option maxRecDepth 100000 in
theorem xd_X9_isAhead_3 : xchk1 cX9_isAhead xk_X9_isAhead_3 = true := xwalk_of 55 (by decide +kernel)
set_option maxRecDepth 100000 in
def xk_X9_isAhead_4 : List (Nat × Instr × Nat) := [(71, .iconst 0, 1), (72, .istore 9, 2), (74, .iload 9, 2), (76, .ifCond .ne 19, 3), (79, .iload 7, 2), (81, .iconst (-1), 1), (82, .if_icmp .eq 9, 3), (85, .iload 8, 2), (87, .iconst (-1), 1)]
set_option maxRecDepth 100000 in
theorem xd_X9_isAhead_4 : xchk1 cX9_isAhead xk_X9_isAhead_4 = true := xwalk_of 71 (by decide +kernel)
set_option maxRecDepth 100000 in
def xk_X9_isAhead_5 : List (Nat × Instr × Nat) := [(88, .if_icmp .ne 7, 3), (91, .iconst 1, 1), (92, .goto 4, 3), (95, .iconst 0, 1), (96, .istore 10, 2), (98, .iload 10, 2), (100, .ifCond .eq 17, 3), (103, .iload 7, 2), (105, .iconst (-1), 1)]
set_option maxRecDepth 100000 in
theorem xd_X9_isAhead_5 : xchk1 cX9_isAhead xk_X9_isAhead_5 = true := xwalk_of 88 (by decide +kernel)
set_option maxRecDepth 100000 in
def xk_X9_isAhead_6 : List (Nat × Instr × Nat) := [(106, .if_icmp .ne 7, 3), (109, .iconst 1, 1), (110, .goto 19, 3), (113, .iconst 0, 1), (114, .goto 15, 3), (117, .iload 7, 2), (119, .iload 8, 2), (121, .if_icmp .le 7, 3), (124, .iconst 1, 1)]
set_option maxRecDepth 100000 in
theorem xd_X9_isAhead_6 : xchk1 cX9_isAhead xk_X9_isAhead_6 = true := xwalk_of 106 (by decide +kernel)
set_option maxRecDepth 100000 in
def xk_X9_isAhead_7 : List (Nat × Instr × Nat) := [(125, .goto 4, 3), (128, .iconst 0, 1), (129, .ireturn, 1), (130, .iinc 5 1, 3), (133, .goto (-130), 3), (136, .iconst 0, 1), (137, .istore 5, 2), (139, .iload 5, 2), (141, .aload_n 0, 1)]
set_option maxRecDepth 100000 in
theorem xd_X9_isAhead_7 : xchk1 cX9_isAhead xk_X9_isAhead_7 = true := xwalk_of 125 (by decide +kernel)
set_option maxRecDepth 100000 in
def xk_X9_isAhead_8 : List (Nat × Instr × Nat) := [(142, .getfield 29, 3), (145, .getfield 71, 3), (148, .if_icmp .ge 41, 3), (151, .lload_n 1, 1), (152, .lload_n 3, 1), (153, .lxor, 1), (154, .iload 5, 2), (156, .invokestatic 85, 3), (159, .land, 1)]
set_option maxRecDepth 100000 in
theorem xd_X9_isAhead_8 : xchk1 cX9_isAhead xk_X9_isAhead_8 = true := xwalk_of 142 (by decide +kernel)
set_option maxRecDepth 100000 in
def xk_X9_isAhead_9 : List (Nat × Instr × Nat) := [(160, .lconst 0, 1), (161, .lcmp, 1), (162, .ifCond .eq 21, 3), (165, .lload_n 1, 1), (166, .iload 5, 2), (168, .invokestatic 85, 3), (171, .land, 1), (172, .lconst 0, 1), (173, .lcmp, 1)]
set_option maxRecDepth 100000 in
theorem xd_X9_isAhead_9 : xchk1 cX9_isAhead xk_X9_isAhead_9 = true := xwalk_of 160 (by decide +kernel)
set_option maxRecDepth 100000 in
def xk_X9_isAhead_10 : List (Nat × Instr × Nat) := [(174, .ifCond .ne 7, 3), (177, .iconst 1, 1), (178, .goto 4, 3), (181, .iconst 0, 1), (182, .ireturn, 1), (183, .iinc 5 1, 3), (186, .goto (-47), 3), (189, .iconst 0, 1), (190, .ireturn, 1)]
set_option maxRecDepth 100000 in
theorem xd_X9_isAhead_10 : xchk1 cX9_isAhead xk_X9_isAhead_10 = true := xwalk_of 174 (by decide +kernel)
set_option maxRecDepth 100000 in
def xk_X9_isAhead : XT (Instr × Nat) := [(19, xk_X9_isAhead_0),
  (36, xk_X9_isAhead_1),
  (55, xk_X9_isAhead_2),
  (71, xk_X9_isAhead_3),
  (88, xk_X9_isAhead_4),
  (106, xk_X9_isAhead_5),
  (125, xk_X9_isAhead_6),
  (142, xk_X9_isAhead_7),
  (160, xk_X9_isAhead_8),
  (174, xk_X9_isAhead_9),
  (100000, xk_X9_isAhead_10)]
set_option maxRecDepth 100000 in
theorem xd_X9_isAhead : xchk cX9_isAhead xk_X9_isAhead = true := (xchk_cons xd_X9_isAhead_0 (xchk_cons xd_X9_isAhead_1 (xchk_cons xd_X9_isAhead_2 (xchk_cons xd_X9_isAhead_3 (xchk_cons xd_X9_isAhead_4 (xchk_cons xd_X9_isAhead_5 (xchk_cons xd_X9_isAhead_6 (xchk_cons xd_X9_isAhead_7 (xchk_cons xd_X9_isAhead_8 (xchk_cons xd_X9_isAhead_9 (xchk_cons xd_X9_isAhead_10 xchk_nil)))))))))))
