/-! printed by gen_tab.py: code tables -/
set_option maxRecDepth 100000 in
def xk_X9_mustHave : XT (Instr × Nat) := [(14, [(0, .aload_n 0, 1), (1, .getfield 30, 3), (4, .lconst 0, 1), (5, .bipush 12, 2), (7, .invokevirtual 43, 3), (10, .aload_n 0, 1), (11, .getfield 30, 3)]),
  (26, [(14, .lconst 0, 1), (15, .lconst 0, 1), (16, .invokevirtual 49, 3), (19, .ifCond .ne 6, 3), (22, .bipush (-2), 2), (24, .ireturn, 1), (25, .aload_n 0, 1)]),
  (39, [(26, .getfield 30, 3), (29, .invokevirtual 53, 3), (32, .lload_n 1, 1), (33, .land, 1), (34, .lconst 0, 1), (35, .lcmp, 1), (36, .ifCond .eq 7, 3)]),
  (50, [(39, .iconst 1, 1), (40, .goto 4, 3), (43, .iconst 0, 1), (44, .istore_n 3, 1), (45, .aload_n 0, 1), (46, .getfield 30, 3), (49, .iload_n 3, 1)]),
  (63, [(50, .ifCond .eq 7, 3), (53, .lconst 0, 1), (54, .goto 4, 3), (57, .lload_n 1, 1), (58, .iload_n 3, 1), (59, .ifCond .eq 7, 3), (62, .lload_n 1, 1)]),
  (78, [(63, .goto 4, 3), (66, .lconst 0, 1), (67, .invokevirtual 49, 3), (70, .istore 4, 2), (72, .iload 4, 2), (74, .ifCond .eq 7, 3), (77, .iconst 0, 1)]),
  (100000, [(78, .goto 12, 3), (81, .iload_n 3, 1), (82, .ifCond .eq 7, 3), (85, .iconst 1, 1), (86, .goto 4, 3), (89, .iconst (-1), 1), (90, .ireturn, 1)])]
set_option maxRecDepth 100000 in
theorem xd_X9_mustHave : xchk cX9_mustHave xk_X9_mustHave = true := xchk_of (by decide +kernel)
set_option maxRecDepth 100000 in
def xk_X9_settle : XT (Instr × Nat) := [(11, [(0, .aload_n 0, 1), (1, .invokevirtual 68, 3), (4, .lconst 0, 1), (5, .lstore_n 1, 1), (6, .lconst 0, 1), (7, .lstore_n 3, 1), (8, .iconst 0, 1), (9, .istore 5, 2)]),
  (28, [(11, .iload 5, 2), (13, .aload_n 0, 1), (14, .getfield 29, 3), (17, .getfield 71, 3), (20, .if_icmp .ge 53, 3), (23, .aload_n 0, 1), (24, .aload_n 0, 1), (25, .getfield 15, 3)]),
  (41, [(28, .iload 5, 2), (30, .iaload, 1), (31, .lload_n 1, 1), (32, .lload_n 3, 1), (33, .invokevirtual 75, 3), (36, .lstore 6, 2), (38, .lload_n 1, 1), (39, .lload 6, 2)]),
  (54, [(41, .lor, 1), (42, .lstore_n 1, 1), (43, .lload_n 3, 1), (44, .aload_n 0, 1), (45, .getfield 29, 3), (48, .aload_n 0, 1), (49, .getfield 15, 3), (52, .iload 5, 2)]),
  (67, [(54, .iaload, 1), (55, .invokevirtual 79, 3), (58, .lload 6, 2), (60, .ldc2_w 83, 3), (63, .lxor, 1), (64, .land, 1), (65, .lor, 1), (66, .lstore_n 3, 1)]),
  (85, [(67, .iinc 5 1, 3), (70, .goto (-59), 3), (73, .iconst 0, 1), (74, .istore 5, 2), (76, .iload 5, 2), (78, .aload_n 0, 1), (79, .getfield 29, 3), (82, .getfield 71, 3)]),
  (100, [(85, .if_icmp .ge 43, 3), (88, .aload_n 0, 1), (89, .lload_n 1, 1), (90, .lload_n 3, 1), (91, .iload 5, 2), (93, .invokestatic 85, 3), (96, .lor, 1), (97, .invokevirtual 88, 3)]),
  (115, [(100, .ifCond .eq 14, 3), (103, .lload_n 3, 1), (104, .iload 5, 2), (106, .invokestatic 85, 3), (109, .lor, 1), (110, .lstore_n 3, 1), (111, .goto 11, 3), (114, .lload_n 1, 1)]),
  (130, [(115, .iload 5, 2), (117, .invokestatic 85, 3), (120, .lor, 1), (121, .lstore_n 1, 1), (122, .iinc 5 1, 3), (125, .goto (-49), 3), (128, .aload_n 0, 1), (129, .lload_n 1, 1)]),
  (100000, [(130, .putfield 9, 3), (133, .return_, 1)])]
set_option maxRecDepth 100000 in
theorem xd_X9_settle : xchk cX9_settle xk_X9_settle = true := xchk_of (by decide +kernel)
