/-! printed by gen_tab.py: code tables -/
set_option maxRecDepth 100000 in
def xk_X12_quota : XT (Instr × Nat) := [(8, [(0, .iload_n 1, 1), (1, .ifCond .lt 10, 3), (4, .iload_n 1, 1), (5, .ldc_w 310, 3)]),
  (18, [(8, .if_icmp .le 14, 3), (11, .new 148, 3), (14, .dup, 1), (15, .ldc_w 311, 3)]),
  (26, [(18, .invokespecial 152, 3), (21, .athrow, 1), (22, .aload_n 0, 1), (23, .invokevirtual 136, 3)]),
  (36, [(26, .aload_n 0, 1), (27, .getfield 19, 3), (30, .invokevirtual 228, 3), (33, .getfield 313, 3)]),
  (44, [(36, .istore_n 2, 1), (37, .aload_n 0, 1), (38, .getfield 19, 3), (41, .invokevirtual 228, 3)]),
  (100000, [(44, .iload_n 1, 1), (45, .putfield 313, 3), (48, .iload_n 2, 1), (49, .ireturn, 1)])]
set_option maxRecDepth 100000 in
theorem xd_X12_quota : xchk cX12_quota xk_X12_quota = true := xchk_of (by decide +kernel)
set_option maxRecDepth 100000 in
def xk_X12_remember : XT (Instr × Nat) := [(10, [(0, .aload_n 0, 1), (1, .iconst 0, 1), (2, .putfield 89, 3), (5, .aload_n 0, 1), (6, .getfield 82, 3), (9, .aload_n 0, 1)]),
  (19, [(10, .getfield 86, 3), (13, .iadd, 1), (14, .bipush 10, 2), (16, .irem, 1), (17, .istore_n 1, 1), (18, .aload_n 0, 1)]),
  (32, [(19, .getfield 86, 3), (22, .bipush 10, 2), (24, .if_icmp .ge 16, 3), (27, .aload_n 0, 1), (28, .dup, 1), (29, .getfield 86, 3)]),
  (42, [(32, .iconst 1, 1), (33, .iadd, 1), (34, .putfield 86, 3), (37, .goto 16, 3), (40, .aload_n 0, 1), (41, .aload_n 0, 1)]),
  (53, [(42, .getfield 82, 3), (45, .iconst 1, 1), (46, .iadd, 1), (47, .bipush 10, 2), (49, .irem, 1), (50, .putfield 82, 3)]),
  (65, [(53, .iload_n 1, 1), (54, .ifCond .lt 32, 3), (57, .iload_n 1, 1), (58, .aload_n 0, 1), (59, .getfield 26, 3), (62, .invokevirtual 530, 3)]),
  (79, [(65, .if_icmp .ge 21, 3), (68, .aload_n 0, 1), (69, .getfield 26, 3), (72, .iload_n 1, 1), (73, .invokevirtual 533, 3), (76, .checkcast 16, 3)]),
  (100000, [(79, .aload_n 0, 1), (80, .getfield 19, 3), (83, .invokevirtual 537, 3), (86, .return_, 1)])]
set_option maxRecDepth 100000 in
theorem xd_X12_remember : xchk cX12_remember xk_X12_remember = true := xchk_of (by decide +kernel)
set_option maxRecDepth 100000 in
def xk_X12_root : XT (Instr × Nat) := [(6, [(0, .iload_n 1, 1), (1, .ifCond .lt 8, 3), (4, .iload_n 1, 1), (5, .iconst 3, 1)]),
  (16, [(6, .if_icmp .lt 14, 3), (9, .new 148, 3), (12, .dup, 1), (13, .ldc_w 273, 3)]),
  (24, [(16, .invokespecial 152, 3), (19, .athrow, 1), (20, .aload_n 0, 1), (21, .invokevirtual 136, 3)]),
  (32, [(24, .aload_n 0, 1), (25, .getfield 19, 3), (28, .getfield 275, 3), (31, .istore_n 2, 1)]),
  (40, [(32, .aload_n 0, 1), (33, .getfield 19, 3), (36, .iload_n 1, 1), (37, .putfield 275, 3)]),
  (100000, [(40, .iload_n 2, 1), (41, .ireturn, 1)])]
set_option maxRecDepth 100000 in
theorem xd_X12_root : xchk cX12_root xk_X12_root = true := xchk_of (by decide +kernel)
set_option maxRecDepth 100000 in
def xk_X12_scriptAt : XT (Instr × Nat) := [(9, [(0, .aload_n 0, 1), (1, .invokevirtual 350, 3), (4, .aload_n 0, 1), (5, .getfield 78, 3), (8, .aload_n 0, 1)]),
  (22, [(9, .getfield 19, 3), (12, .invokevirtual 228, 3), (15, .getfield 327, 3), (18, .invokevirtual 440, 3), (21, .iload_n 1, 1)]),
  (33, [(22, .ifCond .lt 14, 3), (25, .iload_n 1, 1), (26, .aload_n 0, 1), (27, .getfield 78, 3), (30, .getfield 505, 3)]),
  (46, [(33, .if_icmp .lt 14, 3), (36, .new 254, 3), (39, .dup, 1), (40, .ldc_w 256, 3), (43, .invokespecial 258, 3)]),
  (55, [(46, .athrow, 1), (47, .aload_n 0, 1), (48, .getfield 78, 3), (51, .getfield 507, 3), (54, .iload_n 1, 1)]),
  (100000, [(55, .iaload, 1), (56, .ireturn, 1)])]
set_option maxRecDepth 100000 in
theorem xd_X12_scriptAt : xchk cX12_scriptAt xk_X12_scriptAt = true := xchk_of (by decide +kernel)
set_option maxRecDepth 100000 in
def xk_X12_scripts : XT (Instr × Nat) := [(8, [(0, .aload_n 0, 1), (1, .invokevirtual 350, 3), (4, .aload_n 0, 1), (5, .getfield 78, 3)]),
  (18, [(8, .aload_n 0, 1), (9, .getfield 19, 3), (12, .invokevirtual 228, 3), (15, .getfield 327, 3)]),
  (28, [(18, .invokevirtual 440, 3), (21, .aload_n 0, 1), (22, .getfield 78, 3), (25, .getfield 443, 3)]),
  (38, [(28, .ifCond .eq 14, 3), (31, .aload_n 0, 1), (32, .getfield 78, 3), (35, .getfield 505, 3)]),
  (46, [(38, .ineg, 1), (39, .goto 10, 3), (42, .aload_n 0, 1), (43, .getfield 78, 3)]),
  (100000, [(46, .getfield 505, 3), (49, .ireturn, 1)])]
set_option maxRecDepth 100000 in
theorem xd_X12_scripts : xchk cX12_scripts xk_X12_scripts = true := xchk_of (by decide +kernel)
set_option maxRecDepth 100000 in
def xk_X12_share : XT (Instr × Nat) := [(10, [(0, .aload_n 0, 1), (1, .getfield 19, 3), (4, .invokevirtual 228, 3), (7, .getfield 313, 3)]),
  (16, [(10, .istore_n 1, 1), (11, .iload_n 1, 1), (12, .ifCond .ne 5, 3), (15, .fconst 0, 1)]),
  (22, [(16, .freturn, 1), (17, .aload_n 0, 1), (18, .invokevirtual 560, 3), (21, .i2f, 1)]),
  (100000, [(22, .iload_n 1, 1), (23, .i2f, 1), (24, .fdiv, 1), (25, .freturn, 1)])]
set_option maxRecDepth 100000 in
theorem xd_X12_share : xchk cX12_share xk_X12_share = true := xchk_of (by decide +kernel)
set_option maxRecDepth 100000 in
def xk_X12_size : XT (Instr × Nat) := [(8, [(0, .aload_n 0, 1), (1, .getfield 19, 3), (4, .getfield 125, 3), (7, .aload_n 0, 1)]),
  (20, [(8, .getfield 19, 3), (11, .invokevirtual 228, 3), (14, .getfield 340, 3), (17, .invokevirtual 527, 3)]),
  (100000, [(20, .ireturn, 1)])]
set_option maxRecDepth 100000 in
theorem xd_X12_size : xchk cX12_size xk_X12_size = true := xchk_of (by decide +kernel)
set_option maxRecDepth 100000 in
def xk_X12_solve : XT (Instr × Nat) := [(9, [(0, .aload_n 0, 1), (1, .invokevirtual 136, 3), (4, .aload_n 0, 1), (5, .iconst 2, 1), (6, .invokevirtual 237, 3)]),
  (20, [(9, .aload_n 0, 1), (10, .getfield 62, 3), (13, .iload_n 1, 1), (14, .invokevirtual 316, 3), (17, .ifCond .ne 5, 3)]),
  (29, [(20, .iconst (-1), 1), (21, .ireturn, 1), (22, .aload_n 0, 1), (23, .getfield 62, 3), (26, .invokevirtual 320, 3)]),
  (40, [(29, .aload_n 0, 1), (30, .getfield 19, 3), (33, .invokevirtual 228, 3), (36, .aload_n 0, 1), (37, .getfield 62, 3)]),
  (53, [(40, .getfield 323, 3), (43, .putfield 327, 3), (46, .aload_n 0, 1), (47, .getfield 62, 3), (50, .getfield 323, 3)]),
  (100000, [(53, .invokestatic 330, 3), (56, .ireturn, 1)])]
set_option maxRecDepth 100000 in
theorem xd_X12_solve : xchk cX12_solve xk_X12_solve = true := xchk_of (by decide +kernel)
set_option maxRecDepth 100000 in
def xk_X12_sumWrong : XT (Instr × Nat) := [(6, [(0, .aload_n 0, 1), (1, .iload_n 1, 1), (2, .invokevirtual 431, 3), (5, .aload_n 0, 1)]),
  (14, [(6, .getfield 19, 3), (9, .getfield 437, 3), (12, .iload_n 1, 1), (13, .iaload, 1)]),
  (100000, [(14, .ireturn, 1)])]
set_option maxRecDepth 100000 in
theorem xd_X12_sumWrong : xchk cX12_sumWrong xk_X12_sumWrong = true := xchk_of (by decide +kernel)
set_option maxRecDepth 100000 in
def xk_X12_switchOf : XT (Instr × Nat) := [(5, [(0, .lconst 1, 1), (1, .bipush 40, 2), (3, .iload_n 0, 1), (4, .iadd, 1)]),
  (100000, [(5, .lshl, 1), (6, .lreturn, 1)])]
set_option maxRecDepth 100000 in
theorem xd_X12_switchOf : xchk cX12_switchOf xk_X12_switchOf = true := xchk_of (by decide +kernel)
set_option maxRecDepth 100000 in
def xk_X12_takeGoal : XT (Instr × Nat) := [(8, [(0, .aload_n 0, 1), (1, .getfield 19, 3), (4, .invokevirtual 228, 3), (7, .lload_n 1, 1)]),
  (16, [(8, .putfield 327, 3), (11, .aload_n 0, 1), (12, .invokevirtual 350, 3), (15, .aload_n 0, 1)]),
  (26, [(16, .getfield 35, 3), (19, .lload_n 1, 1), (20, .invokevirtual 359, 3), (23, .ifCond .eq 7, 3)]),
  (100000, [(26, .iconst 1, 1), (27, .goto 4, 3), (30, .iconst 0, 1), (31, .ireturn, 1)])]
set_option maxRecDepth 100000 in
theorem xd_X12_takeGoal : xchk cX12_takeGoal xk_X12_takeGoal = true := xchk_of (by decide +kernel)
set_option maxRecDepth 100000 in
def xk_X12_takeLock : XT (Instr × Nat) := [(8, [(0, .iload_n 1, 1), (1, .invokestatic 416, 3), (4, .aload_n 0, 1), (5, .invokevirtual 136, 3)]),
  (16, [(8, .aload_n 0, 1), (9, .aload_n 0, 1), (10, .getfield 19, 3), (13, .getfield 419, 3)]),
  (100000, [(16, .iload_n 1, 1), (17, .laload, 1), (18, .invokevirtual 426, 3), (21, .ireturn, 1)])]
set_option maxRecDepth 100000 in
theorem xd_X12_takeLock : xchk cX12_takeLock xk_X12_takeLock = true := xchk_of (by decide +kernel)
set_option maxRecDepth 100000 in
def xk_X12_then : XT (Instr × Nat) := [(11, [(0, .aload_n 0, 1), (1, .getfield 19, 3), (4, .invokevirtual 228, 3), (7, .iload_n 1, 1), (8, .invokevirtual 519, 3)]),
  (24, [(11, .ifCond .ne 14, 3), (14, .new 450, 3), (17, .dup, 1), (18, .ldc_w 522, 3), (21, .invokespecial 454, 3)]),
  (31, [(24, .athrow, 1), (25, .aload_n 0, 1), (26, .iload_n 2, 1), (27, .invokevirtual 142, 3), (30, .aload_n 0, 1)]),
  (44, [(31, .getfield 19, 3), (34, .getfield 125, 3), (37, .aload_n 0, 1), (38, .getfield 19, 3), (41, .invokevirtual 228, 3)]),
  (100000, [(44, .iload_n 1, 1), (45, .invokevirtual 524, 3), (48, .iload_n 2, 1), (49, .invokevirtual 333, 3), (52, .ireturn, 1)])]
set_option maxRecDepth 100000 in
theorem xd_X12_then : xchk cX12_then xk_X12_then = true := xchk_of (by decide +kernel)
set_option maxRecDepth 100000 in
def xk_X12_undo : XT (Instr × Nat) := [(10, [(0, .aload_n 0, 1), (1, .getfield 86, 3), (4, .ifCond .ne 5, 3), (7, .iconst (-1), 1), (8, .ireturn, 1), (9, .aload_n 0, 1)]),
  (20, [(10, .dup, 1), (11, .getfield 86, 3), (14, .iconst 1, 1), (15, .isub, 1), (16, .putfield 86, 3), (19, .aload_n 0, 1)]),
  (32, [(20, .iconst 0, 1), (21, .putfield 89, 3), (24, .aload_n 0, 1), (25, .getfield 82, 3), (28, .aload_n 0, 1), (29, .getfield 86, 3)]),
  (41, [(32, .iadd, 1), (33, .bipush 10, 2), (35, .irem, 1), (36, .istore_n 1, 1), (37, .iload_n 1, 1), (38, .ifCond .lt 32, 3)]),
  (53, [(41, .iload_n 1, 1), (42, .aload_n 0, 1), (43, .getfield 26, 3), (46, .invokevirtual 530, 3), (49, .if_icmp .ge 21, 3), (52, .aload_n 0, 1)]),
  (67, [(53, .getfield 19, 3), (56, .aload_n 0, 1), (57, .getfield 26, 3), (60, .iload_n 1, 1), (61, .invokevirtual 533, 3), (64, .checkcast 16, 3)]),
  (100000, [(67, .invokevirtual 537, 3), (70, .aload_n 0, 1), (71, .getfield 86, 3), (74, .ireturn, 1)])]
set_option maxRecDepth 100000 in
theorem xd_X12_undo : xchk cX12_undo xk_X12_undo = true := xchk_of (by decide +kernel)
set_option maxRecDepth 100000 in
def xk_X12_unwish : XT (Instr × Nat) := [(9, [(0, .aload_n 0, 1), (1, .getfield 19, 3), (4, .invokevirtual 228, 3), (7, .astore_n 2, 1), (8, .iload_n 1, 1)]),
  (20, [(9, .ifCond .lt 20, 3), (12, .iload_n 1, 1), (13, .aload_n 2, 1), (14, .getfield 278, 3), (17, .if_icmp .ge 12, 3)]),
  (29, [(20, .aload_n 2, 1), (21, .getfield 287, 3), (24, .iload_n 1, 1), (25, .aaload, 1), (26, .ifnonnull 14, 3)]),
  (40, [(29, .new 254, 3), (32, .dup, 1), (33, .ldc_w 290, 3), (36, .invokespecial 258, 3), (39, .athrow, 1)]),
  (49, [(40, .aload_n 0, 1), (41, .invokevirtual 136, 3), (44, .aload_n 2, 1), (45, .getfield 287, 3), (48, .iload_n 1, 1)]),
  (100000, [(49, .aconst_null, 1), (50, .aastore, 1), (51, .aload_n 2, 1), (52, .invokevirtual 232, 3), (55, .ireturn, 1)])]
set_option maxRecDepth 100000 in
theorem xd_X12_unwish : xchk cX12_unwish xk_X12_unwish = true := xchk_of (by decide +kernel)
set_option maxRecDepth 100000 in
def xk_X12_valueIn : XT (Instr × Nat) := [(8, [(0, .aload_n 0, 1), (1, .getfield 19, 3), (4, .getfield 125, 3), (7, .lload_n 1, 1)]),
  (14, [(8, .iload_n 3, 1), (9, .invokevirtual 333, 3), (12, .lload_n 1, 1), (13, .iload_n 3, 1)]),
  (20, [(14, .invokestatic 337, 3), (17, .land, 1), (18, .lconst 0, 1), (19, .lcmp, 1)]),
  (30, [(20, .ifCond .eq 9, 3), (23, .ldc_w 561, 3), (26, .goto 4, 3), (29, .iconst 0, 1)]),
  (100000, [(30, .iadd, 1), (31, .ireturn, 1)])]
set_option maxRecDepth 100000 in
theorem xd_X12_valueIn : xchk cX12_valueIn xk_X12_valueIn = true := xchk_of (by decide +kernel)
set_option maxRecDepth 100000 in
def xk_X12_version : XT (Instr × Nat) := [(13, [(0, .aload_n 0, 1), (1, .iload_n 1, 1), (2, .invokevirtual 142, 3), (5, .iload_n 2, 1), (6, .invokestatic 145, 3), (9, .ifCond .eq 20, 3), (12, .iload_n 3, 1)]),
  (32, [(13, .ifCond .lt 16, 3), (16, .iload 4, 2), (18, .ifCond .lt 11, 3), (21, .iload 4, 2), (23, .sipush 1000, 3), (26, .if_icmp .le 13, 3), (29, .new 148, 3)]),
  (46, [(32, .dup, 1), (33, .ldc 150, 2), (35, .invokespecial 152, 3), (38, .athrow, 1), (39, .aload_n 0, 1), (40, .getfield 19, 3), (43, .getfield 125, 3)]),
  (59, [(46, .iload_n 1, 1), (47, .iload_n 2, 1), (48, .invokevirtual 153, 3), (51, .iconst (-1), 1), (52, .if_icmp .ne 17, 3), (55, .aload_n 0, 1), (56, .getfield 19, 3)]),
  (75, [(59, .getfield 125, 3), (62, .iload_n 1, 1), (63, .invokevirtual 157, 3), (66, .ifCond .ne 13, 3), (69, .new 104, 3), (72, .dup, 1), (73, .ldc 160, 2)]),
  (90, [(75, .invokespecial 108, 3), (78, .athrow, 1), (79, .aload_n 0, 1), (80, .invokevirtual 136, 3), (83, .aload_n 0, 1), (84, .getfield 19, 3), (87, .getfield 125, 3)]),
  (100000, [(90, .iload_n 1, 1), (91, .iload_n 2, 1), (92, .iload_n 3, 1), (93, .iload 4, 2), (95, .iload 5, 2), (97, .invokevirtual 162, 3), (100, .ireturn, 1)])]
set_option maxRecDepth 100000 in
theorem xd_X12_version : xchk cX12_version xk_X12_version = true := xchk_of (by decide +kernel)
set_option maxRecDepth 100000 in
def xk_X12_versionAt : XT (Instr × Nat) := [(9, [(0, .aload_n 0, 1), (1, .iload_n 1, 1), (2, .invokevirtual 142, 3), (5, .iload_n 2, 1), (6, .ifCond .lt 19, 3)]),
  (20, [(9, .iload_n 2, 1), (10, .aload_n 0, 1), (11, .getfield 19, 3), (14, .getfield 125, 3), (17, .getfield 251, 3)]),
  (29, [(20, .iload_n 1, 1), (21, .iaload, 1), (22, .if_icmp .lt 14, 3), (25, .new 254, 3), (28, .dup, 1)]),
  (40, [(29, .ldc_w 256, 3), (32, .invokespecial 258, 3), (35, .athrow, 1), (36, .aload_n 0, 1), (37, .getfield 19, 3)]),
  (53, [(40, .getfield 125, 3), (43, .getfield 259, 3), (46, .aload_n 0, 1), (47, .getfield 19, 3), (50, .getfield 125, 3)]),
  (100000, [(53, .iload_n 1, 1), (54, .iload_n 2, 1), (55, .invokevirtual 262, 3), (58, .iaload, 1), (59, .ireturn, 1)])]
set_option maxRecDepth 100000 in
theorem xd_X12_versionAt : xchk cX12_versionAt xk_X12_versionAt = true := xchk_of (by decide +kernel)
set_option maxRecDepth 100000 in
def xk_X12_versionOf : XT (Instr × Nat) := [(6, [(0, .aload_n 0, 1), (1, .iload_n 1, 1), (2, .invokevirtual 142, 3), (5, .aload_n 0, 1)]),
  (16, [(6, .getfield 19, 3), (9, .getfield 125, 3), (12, .aload_n 0, 1), (13, .getfield 19, 3)]),
  (26, [(16, .invokevirtual 228, 3), (19, .getfield 327, 3), (22, .iload_n 1, 1), (23, .invokevirtual 333, 3)]),
  (100000, [(26, .ireturn, 1)])]
set_option maxRecDepth 100000 in
theorem xd_X12_versionOf : xchk cX12_versionOf xk_X12_versionOf = true := xchk_of (by decide +kernel)
set_option maxRecDepth 100000 in
def xk_X12_versions : XT (Instr × Nat) := [(6, [(0, .aload_n 0, 1), (1, .iload_n 1, 1), (2, .invokevirtual 142, 3), (5, .aload_n 0, 1)]),
  (16, [(6, .getfield 19, 3), (9, .getfield 125, 3), (12, .getfield 251, 3), (15, .iload_n 1, 1)]),
  (100000, [(16, .iaload, 1), (17, .ireturn, 1)])]
set_option maxRecDepth 100000 in
theorem xd_X12_versions : xchk cX12_versions xk_X12_versions = true := xchk_of (by decide +kernel)
set_option maxRecDepth 100000 in
def xk_X12_wish : XT (Instr × Nat) := [(10, [(0, .aload_n 0, 1), (1, .getfield 19, 3), (4, .invokevirtual 228, 3), (7, .getfield 278, 3)]),
  (19, [(10, .bipush 8, 2), (12, .if_icmp .lt 14, 3), (15, .new 104, 3), (18, .dup, 1)]),
  (27, [(19, .ldc_w 281, 3), (22, .invokespecial 108, 3), (25, .athrow, 1), (26, .aload_n 0, 1)]),
  (33, [(27, .iconst 0, 1), (28, .invokevirtual 178, 3), (31, .astore_n 1, 1), (32, .aload_n 0, 1)]),
  (43, [(33, .invokevirtual 136, 3), (36, .aload_n 0, 1), (37, .getfield 19, 3), (40, .invokevirtual 228, 3)]),
  (100000, [(43, .aload_n 1, 1), (44, .invokevirtual 283, 3), (47, .ireturn, 1)])]
set_option maxRecDepth 100000 in
theorem xd_X12_wish : xchk cX12_wish xk_X12_wish = true := xchk_of (by decide +kernel)
set_option maxRecDepth 100000 in
def xk_X12_without : XT (Instr × Nat) := [(9, [(0, .aload_n 0, 1), (1, .iload_n 1, 1), (2, .invokevirtual 142, 3), (5, .aload_n 0, 1), (6, .invokevirtual 350, 3)]),
  (20, [(9, .aload_n 0, 1), (10, .getfield 19, 3), (13, .invokevirtual 228, 3), (16, .getfield 340, 3), (19, .lstore_n 2, 1)]),
  (29, [(20, .aload_n 0, 1), (21, .getfield 19, 3), (24, .getfield 125, 3), (27, .lload_n 2, 1), (28, .iload_n 1, 1)]),
  (38, [(29, .invokevirtual 510, 3), (32, .iconst (-1), 1), (33, .if_icmp .ne 5, 3), (36, .iconst 0, 1), (37, .ireturn, 1)]),
  (47, [(38, .aload_n 0, 1), (39, .getfield 35, 3), (42, .lload_n 2, 1), (43, .aload_n 0, 1), (44, .getfield 19, 3)]),
  (58, [(47, .getfield 125, 3), (50, .getfield 513, 3), (53, .iload_n 1, 1), (54, .laload, 1), (55, .ldc2_w 503, 3)]),
  (100000, [(58, .lxor, 1), (59, .land, 1), (60, .invokevirtual 516, 3), (63, .ireturn, 1)])]
set_option maxRecDepth 100000 in
theorem xd_X12_without : xchk cX12_without xk_X12_without = true := xchk_of (by decide +kernel)
set_option maxRecDepth 100000 in
def xk_X13_init : XT (Instr × Nat) := [(6, [(0, .aload_n 0, 1), (1, .invokespecial 1, 3), (4, .aload_n 0, 1), (5, .iload_n 1, 1)]),
  (14, [(6, .putfield 7, 3), (9, .aload_n 0, 1), (10, .aload_n 2, 1), (11, .putfield 13, 3)]),
  (20, [(14, .aload_n 0, 1), (15, .aload_n 3, 1), (16, .putfield 17, 3), (19, .aload_n 0, 1)]),
  (100000, [(20, .aload 4, 2), (22, .putfield 20, 3), (25, .return_, 1)])]
set_option maxRecDepth 100000 in
theorem xd_X13_init : xchk cX13_init xk_X13_init = true := xchk_of (by decide +kernel)
set_option maxRecDepth 100000 in
def xk_X14_add_0 : List (Nat × Instr × Nat) := [(0, .aload_n 0, 1), (1, .getfield 330, 3), (4, .aload_n 0, 1), (5, .getfield 46, 3), (8, .arraylength, 1), (9, .if_icmp .ne 158, 3), (12, .iconst 2, 1), (13, .aload_n 0, 1), (14, .getfield 330, 3), (17, .imul, 1), (18, .newarray .long, 2)]
set_option maxRecDepth 100000 in
theorem xd_X14_add_0 : xchk1 cX14_add xk_X14_add_0 = true := xwalk_of 0 (by decide +kernel)
set_option maxRecDepth 100000 in
def xk_X14_add_1 : List (Nat × Instr × Nat) := [(20, .astore 8, 2), (22, .iconst 2, 1), (23, .aload_n 0, 1), (24, .getfield 330, 3), (27, .imul, 1), (28, .newarray .long, 2), (30, .astore 9, 2), (32, .iconst 2, 1), (33, .aload_n 0, 1), (34, .getfield 330, 3), (37, .imul, 1)]
set_option maxRecDepth 100000 in
theorem xd_X14_add_1 : xchk1 cX14_add xk_X14_add_1 = true := xwalk_of 20 (by decide +kernel)
set_option maxRecDepth 100000 in
def xk_X14_add_2 : List (Nat × Instr × Nat) := [(38, .newarray .int, 2), (40, .astore 10, 2), (42, .iconst 2, 1), (43, .aload_n 0, 1), (44, .getfield 330, 3), (47, .imul, 1), (48, .newarray .int, 2), (50, .astore 11, 2), (52, .iconst 2, 1), (53, .aload_n 0, 1), (54, .getfield 330, 3)]
set_option maxRecDepth 100000 in
theorem xd_X14_add_2 : xchk1 cX14_add xk_X14_add_2 = true := xwalk_of 38 (by decide +kernel)
set_option maxRecDepth 100000 in
def xk_X14_add_3 : List (Nat × Instr × Nat) := [(57, .imul, 1), (58, .newarray .int, 2), (60, .astore 12, 2), (62, .aload_n 0, 1), (63, .getfield 46, 3), (66, .iconst 0, 1), (67, .aload 8, 2), (69, .iconst 0, 1), (70, .aload_n 0, 1), (71, .getfield 330, 3), (74, .invokestatic 140, 3)]
set_option maxRecDepth 100000 in
theorem xd_X14_add_3 : xchk1 cX14_add xk_X14_add_3 = true := xwalk_of 57 (by decide +kernel)
set_option maxRecDepth 100000 in
def xk_X14_add_4 : List (Nat × Instr × Nat) := [(77, .aload_n 0, 1), (78, .getfield 50, 3), (81, .iconst 0, 1), (82, .aload 9, 2), (84, .iconst 0, 1), (85, .aload_n 0, 1), (86, .getfield 330, 3), (89, .invokestatic 140, 3), (92, .aload_n 0, 1), (93, .getfield 53, 3), (96, .iconst 0, 1)]
set_option maxRecDepth 100000 in
theorem xd_X14_add_4 : xchk1 cX14_add xk_X14_add_4 = true := xwalk_of 77 (by decide +kernel)
set_option maxRecDepth 100000 in
def xk_X14_add_5 : List (Nat × Instr × Nat) := [(97, .aload 10, 2), (99, .iconst 0, 1), (100, .aload_n 0, 1), (101, .getfield 330, 3), (104, .invokestatic 140, 3), (107, .aload_n 0, 1), (108, .getfield 56, 3), (111, .iconst 0, 1), (112, .aload 11, 2), (114, .iconst 0, 1), (115, .aload_n 0, 1)]
set_option maxRecDepth 100000 in
theorem xd_X14_add_5 : xchk1 cX14_add xk_X14_add_5 = true := xwalk_of 97 (by decide +kernel)
set_option maxRecDepth 100000 in
def xk_X14_add_6 : List (Nat × Instr × Nat) := [(116, .getfield 330, 3), (119, .invokestatic 140, 3), (122, .aload_n 0, 1), (123, .getfield 59, 3), (126, .iconst 0, 1), (127, .aload 12, 2), (129, .iconst 0, 1), (130, .aload_n 0, 1), (131, .getfield 330, 3), (134, .invokestatic 140, 3), (137, .aload_n 0, 1)]
set_option maxRecDepth 100000 in
theorem xd_X14_add_6 : xchk1 cX14_add xk_X14_add_6 = true := xwalk_of 116 (by decide +kernel)
set_option maxRecDepth 100000 in
def xk_X14_add_7 : List (Nat × Instr × Nat) := [(138, .aload 8, 2), (140, .putfield 46, 3), (143, .aload_n 0, 1), (144, .aload 9, 2), (146, .putfield 50, 3), (149, .aload_n 0, 1), (150, .aload 10, 2), (152, .putfield 53, 3), (155, .aload_n 0, 1), (156, .aload 11, 2), (158, .putfield 56, 3)]
set_option maxRecDepth 100000 in
theorem xd_X14_add_7 : xchk1 cX14_add xk_X14_add_7 = true := xwalk_of 138 (by decide +kernel)
set_option maxRecDepth 100000 in
def xk_X14_add_8 : List (Nat × Instr × Nat) := [(161, .aload_n 0, 1), (162, .aload 12, 2), (164, .putfield 59, 3), (167, .aload_n 0, 1), (168, .getfield 46, 3), (171, .aload_n 0, 1), (172, .getfield 330, 3), (175, .lload 4, 2), (177, .lastore, 1), (178, .aload_n 0, 1), (179, .getfield 50, 3)]
set_option maxRecDepth 100000 in
theorem xd_X14_add_8 : xchk1 cX14_add xk_X14_add_8 = true := xwalk_of 161 (by decide +kernel)
set_option maxRecDepth 100000 in
def xk_X14_add_9 : List (Nat × Instr × Nat) := [(182, .aload_n 0, 1), (183, .getfield 330, 3), (186, .lload 6, 2), (188, .lastore, 1), (189, .aload_n 0, 1), (190, .getfield 53, 3), (193, .aload_n 0, 1), (194, .getfield 330, 3), (197, .iload_n 1, 1), (198, .iastore, 1), (199, .aload_n 0, 1)]
set_option maxRecDepth 100000 in
theorem xd_X14_add_9 : xchk1 cX14_add xk_X14_add_9 = true := xwalk_of 182 (by decide +kernel)
set_option maxRecDepth 100000 in
def xk_X14_add_10 : List (Nat × Instr × Nat) := [(200, .getfield 56, 3), (203, .aload_n 0, 1), (204, .getfield 330, 3), (207, .iload_n 2, 1), (208, .iastore, 1), (209, .aload_n 0, 1), (210, .getfield 59, 3), (213, .aload_n 0, 1), (214, .getfield 330, 3), (217, .iload_n 3, 1), (218, .iastore, 1)]
set_option maxRecDepth 100000 in
theorem xd_X14_add_10 : xchk1 cX14_add xk_X14_add_10 = true := xwalk_of 200 (by decide +kernel)
set_option maxRecDepth 100000 in
def xk_X14_add_11 : List (Nat × Instr × Nat) := [(219, .aload_n 0, 1), (220, .dup, 1), (221, .getfield 330, 3), (224, .iconst 1, 1), (225, .iadd, 1), (226, .putfield 330, 3), (229, .return_, 1)]
set_option maxRecDepth 100000 in
theorem xd_X14_add_11 : xchk1 cX14_add xk_X14_add_11 = true := xwalk_of 219 (by decide +kernel)
set_option maxRecDepth 100000 in
def xk_X14_add : XT (Instr × Nat) := [(20, xk_X14_add_0),
  (38, xk_X14_add_1),
  (57, xk_X14_add_2),
  (77, xk_X14_add_3),
  (97, xk_X14_add_4),
  (116, xk_X14_add_5),
  (138, xk_X14_add_6),
  (161, xk_X14_add_7),
  (182, xk_X14_add_8),
  (200, xk_X14_add_9),
  (219, xk_X14_add_10),
  (100000, xk_X14_add_11)]
set_option maxRecDepth 100000 in
theorem xd_X14_add : xchk cX14_add xk_X14_add = true := (xchk_cons xd_X14_add_0 (xchk_cons xd_X14_add_1 (xchk_cons xd_X14_add_2 (xchk_cons xd_X14_add_3 (xchk_cons xd_X14_add_4 (xchk_cons xd_X14_add_5 (xchk_cons xd_X14_add_6 (xchk_cons xd_X14_add_7 (xchk_cons xd_X14_add_8 (xchk_cons xd_X14_add_9 (xchk_cons xd_X14_add_10 (xchk_cons xd_X14_add_11 xchk_nil))))))))))))
set_option maxRecDepth 100000 in
def xk_X14_addNeed : XT (Instr × Nat) := [(9, [(0, .lconst 0, 1), (1, .lstore 7, 2), (3, .iconst 0, 1), (4, .istore 9, 2), (6, .iload 9, 2), (8, .aload_n 0, 1)]),
  (20, [(9, .getfield 9, 3), (12, .iconst 4, 1), (13, .iaload, 1), (14, .if_icmp .ge 34, 3), (17, .lload 7, 2), (19, .aload_n 0, 1)]),
  (35, [(20, .aload 4, 2), (22, .iload 9, 2), (24, .invokevirtual 301, 3), (27, .ifCond .eq 11, 3), (30, .iload 9, 2), (32, .invokestatic 333, 3)]),
  (48, [(35, .goto 4, 3), (38, .lconst 0, 1), (39, .lor, 1), (40, .lstore 7, 2), (42, .iinc 9 1, 3), (45, .goto (-39), 3)]),
  (56, [(48, .aload_n 0, 1), (49, .iload_n 1, 1), (50, .iload_n 2, 1), (51, .iload_n 3, 1), (52, .lload 7, 2), (54, .lload 5, 2)]),
  (69, [(56, .invokevirtual 337, 3), (59, .aload 4, 2), (61, .getfield 283, 3), (64, .ifCond .eq 22, 3), (67, .aload_n 0, 1), (68, .iload_n 1, 1)]),
  (78, [(69, .iload_n 2, 1), (70, .iload_n 3, 1), (71, .aload 4, 2), (73, .getfield 276, 3), (76, .iconst 0, 1), (77, .iaload, 1)]),
  (100000, [(78, .invokestatic 341, 3), (81, .lload 5, 2), (83, .invokevirtual 337, 3), (86, .return_, 1)])]
set_option maxRecDepth 100000 in
theorem xd_X14_addNeed : xchk cX14_addNeed xk_X14_addNeed = true := xchk_of (by decide +kernel)
set_option maxRecDepth 100000 in
def xk_X14_addPair_0 : List (Nat × Instr × Nat) := [(0, .aload_n 0, 1), (1, .getfield 94, 3), (4, .iload_n 1, 1), (5, .laload, 1), (6, .aload_n 0, 1), (7, .getfield 97, 3), (10, .iload_n 2, 1), (11, .laload, 1), (12, .land, 1), (13, .aload_n 0, 1), (14, .getfield 97, 3), (17, .iload_n 1, 1), (18, .laload, 1)]
set_option maxRecDepth 100000 in
theorem xd_X14_addPair_0 : xchk1 cX14_addPair xk_X14_addPair_0 = true := xwalk_of 0 (by decide +kernel)
set_option maxRecDepth 100000 in
def xk_X14_addPair_1 : List (Nat × Instr × Nat) := [(19, .aload_n 0, 1), (20, .getfield 94, 3), (23, .iload_n 2, 1), (24, .laload, 1), (25, .land, 1), (26, .lor, 1), (27, .lstore_n 3, 1), (28, .lload_n 3, 1), (29, .invokestatic 361, 3), (32, .iconst 1, 1), (33, .if_icmp .eq 4, 3), (36, .return_, 1), (37, .aload_n 0, 1)]
set_option maxRecDepth 100000 in
theorem xd_X14_addPair_1 : xchk1 cX14_addPair xk_X14_addPair_1 = true := xwalk_of 19 (by decide +kernel)
set_option maxRecDepth 100000 in
def xk_X14_addPair_2 : List (Nat × Instr × Nat) := [(38, .getfield 94, 3), (41, .iload_n 1, 1), (42, .laload, 1), (43, .aload_n 0, 1), (44, .getfield 94, 3), (47, .iload_n 2, 1), (48, .laload, 1), (49, .lor, 1), (50, .lload_n 3, 1), (51, .ldc2_w 359, 3), (54, .lxor, 1), (55, .land, 1), (56, .lstore 5, 2)]
set_option maxRecDepth 100000 in
theorem xd_X14_addPair_2 : xchk1 cX14_addPair xk_X14_addPair_2 = true := xwalk_of 38 (by decide +kernel)
set_option maxRecDepth 100000 in
def xk_X14_addPair_3 : List (Nat × Instr × Nat) := [(58, .aload_n 0, 1), (59, .getfield 97, 3), (62, .iload_n 1, 1), (63, .laload, 1), (64, .aload_n 0, 1), (65, .getfield 97, 3), (68, .iload_n 2, 1), (69, .laload, 1), (70, .lor, 1), (71, .lload_n 3, 1), (72, .ldc2_w 359, 3), (75, .lxor, 1), (76, .land, 1)]
set_option maxRecDepth 100000 in
theorem xd_X14_addPair_3 : xchk1 cX14_addPair xk_X14_addPair_3 = true := xwalk_of 58 (by decide +kernel)
set_option maxRecDepth 100000 in
def xk_X14_addPair_4 : List (Nat × Instr × Nat) := [(77, .lstore 7, 2), (79, .iconst 0, 1), (80, .istore 9, 2), (82, .iload 9, 2), (84, .aload_n 0, 1), (85, .getfield 459, 3), (88, .if_icmp .ge 34, 3), (91, .lload 5, 2), (93, .lload 7, 2), (95, .aload_n 0, 1), (96, .getfield 94, 3), (99, .iload 9, 2), (101, .laload, 1)]
set_option maxRecDepth 100000 in
theorem xd_X14_addPair_4 : xchk1 cX14_addPair xk_X14_addPair_4 = true := xwalk_of 77 (by decide +kernel)
set_option maxRecDepth 100000 in
def xk_X14_addPair_5 : List (Nat × Instr × Nat) := [(102, .aload_n 0, 1), (103, .getfield 97, 3), (106, .iload 9, 2), (108, .laload, 1), (109, .invokestatic 462, 3), (112, .ifCond .eq 4, 3), (115, .return_, 1), (116, .iinc 9 1, 3), (119, .goto (-37), 3), (122, .aload_n 0, 1), (123, .getfield 466, 3), (126, .aload_n 0, 1), (127, .getfield 106, 3)]
set_option maxRecDepth 100000 in
theorem xd_X14_addPair_5 : xchk1 cX14_addPair xk_X14_addPair_5 = true := xwalk_of 102 (by decide +kernel)
set_option maxRecDepth 100000 in
def xk_X14_addPair_6 : List (Nat × Instr × Nat) := [(130, .arraylength, 1), (131, .if_icmp .ne 127, 3), (134, .iconst 2, 1), (135, .aload_n 0, 1), (136, .getfield 466, 3), (139, .imul, 1), (140, .newarray .long, 2), (142, .astore 9, 2), (144, .iconst 2, 1), (145, .aload_n 0, 1), (146, .getfield 466, 3), (149, .imul, 1), (150, .newarray .long, 2)]
set_option maxRecDepth 100000 in
theorem xd_X14_addPair_6 : xchk1 cX14_addPair xk_X14_addPair_6 = true := xwalk_of 130 (by decide +kernel)
set_option maxRecDepth 100000 in
def xk_X14_addPair_7 : List (Nat × Instr × Nat) := [(152, .astore 10, 2), (154, .iconst 2, 1), (155, .aload_n 0, 1), (156, .getfield 466, 3), (159, .imul, 1), (160, .newarray .int, 2), (162, .astore 11, 2), (164, .iconst 2, 1), (165, .aload_n 0, 1), (166, .getfield 466, 3), (169, .imul, 1), (170, .newarray .int, 2), (172, .astore 12, 2)]
set_option maxRecDepth 100000 in
theorem xd_X14_addPair_7 : xchk1 cX14_addPair xk_X14_addPair_7 = true := xwalk_of 152 (by decide +kernel)
set_option maxRecDepth 100000 in
def xk_X14_addPair_8 : List (Nat × Instr × Nat) := [(174, .aload_n 0, 1), (175, .getfield 106, 3), (178, .iconst 0, 1), (179, .aload 9, 2), (181, .iconst 0, 1), (182, .aload_n 0, 1), (183, .getfield 466, 3), (186, .invokestatic 140, 3), (189, .aload_n 0, 1), (190, .getfield 109, 3), (193, .iconst 0, 1), (194, .aload 10, 2), (196, .iconst 0, 1)]
set_option maxRecDepth 100000 in
theorem xd_X14_addPair_8 : xchk1 cX14_addPair xk_X14_addPair_8 = true := xwalk_of 174 (by decide +kernel)
set_option maxRecDepth 100000 in
def xk_X14_addPair_9 : List (Nat × Instr × Nat) := [(197, .aload_n 0, 1), (198, .getfield 466, 3), (201, .invokestatic 140, 3), (204, .aload_n 0, 1), (205, .getfield 112, 3), (208, .iconst 0, 1), (209, .aload 11, 2), (211, .iconst 0, 1), (212, .aload_n 0, 1), (213, .getfield 466, 3), (216, .invokestatic 140, 3), (219, .aload_n 0, 1), (220, .getfield 115, 3)]
set_option maxRecDepth 100000 in
theorem xd_X14_addPair_9 : xchk1 cX14_addPair xk_X14_addPair_9 = true := xwalk_of 197 (by decide +kernel)
set_option maxRecDepth 100000 in
def xk_X14_addPair_10 : List (Nat × Instr × Nat) := [(223, .iconst 0, 1), (224, .aload 12, 2), (226, .iconst 0, 1), (227, .aload_n 0, 1), (228, .getfield 466, 3), (231, .invokestatic 140, 3), (234, .aload_n 0, 1), (235, .aload 9, 2), (237, .putfield 106, 3), (240, .aload_n 0, 1), (241, .aload 10, 2), (243, .putfield 109, 3), (246, .aload_n 0, 1)]
set_option maxRecDepth 100000 in
theorem xd_X14_addPair_10 : xchk1 cX14_addPair xk_X14_addPair_10 = true := xwalk_of 223 (by decide +kernel)
set_option maxRecDepth 100000 in
def xk_X14_addPair_11 : List (Nat × Instr × Nat) := [(247, .aload 11, 2), (249, .putfield 112, 3), (252, .aload_n 0, 1), (253, .aload 12, 2), (255, .putfield 115, 3), (258, .aload_n 0, 1), (259, .getfield 106, 3), (262, .aload_n 0, 1), (263, .getfield 466, 3), (266, .lload 5, 2), (268, .lastore, 1), (269, .aload_n 0, 1), (270, .getfield 109, 3)]
set_option maxRecDepth 100000 in
theorem xd_X14_addPair_11 : xchk1 cX14_addPair xk_X14_addPair_11 = true := xwalk_of 247 (by decide +kernel)
set_option maxRecDepth 100000 in
def xk_X14_addPair_12 : List (Nat × Instr × Nat) := [(273, .aload_n 0, 1), (274, .getfield 466, 3), (277, .lload 7, 2), (279, .lastore, 1), (280, .aload_n 0, 1), (281, .getfield 112, 3), (284, .aload_n 0, 1), (285, .getfield 466, 3), (288, .iload_n 1, 1), (289, .iastore, 1), (290, .aload_n 0, 1), (291, .getfield 115, 3), (294, .aload_n 0, 1)]
set_option maxRecDepth 100000 in
theorem xd_X14_addPair_12 : xchk1 cX14_addPair xk_X14_addPair_12 = true := xwalk_of 273 (by decide +kernel)
set_option maxRecDepth 100000 in
def xk_X14_addPair_13 : List (Nat × Instr × Nat) := [(295, .getfield 466, 3), (298, .iload_n 2, 1), (299, .iastore, 1), (300, .aload_n 0, 1), (301, .dup, 1), (302, .getfield 466, 3), (305, .iconst 1, 1), (306, .iadd, 1), (307, .putfield 466, 3), (310, .return_, 1)]
set_option maxRecDepth 100000 in
theorem xd_X14_addPair_13 : xchk1 cX14_addPair xk_X14_addPair_13 = true := xwalk_of 295 (by decide +kernel)
set_option maxRecDepth 100000 in
def xk_X14_addPair : XT (Instr × Nat) := [(19, xk_X14_addPair_0),
  (38, xk_X14_addPair_1),
  (58, xk_X14_addPair_2),
  (77, xk_X14_addPair_3),
  (102, xk_X14_addPair_4),
  (130, xk_X14_addPair_5),
  (152, xk_X14_addPair_6),
  (174, xk_X14_addPair_7),
  (197, xk_X14_addPair_8),
  (223, xk_X14_addPair_9),
  (247, xk_X14_addPair_10),
  (273, xk_X14_addPair_11),
  (295, xk_X14_addPair_12),
  (100000, xk_X14_addPair_13)]
set_option maxRecDepth 100000 in
theorem xd_X14_addPair : xchk cX14_addPair xk_X14_addPair = true := (xchk_cons xd_X14_addPair_0 (xchk_cons xd_X14_addPair_1 (xchk_cons xd_X14_addPair_2 (xchk_cons xd_X14_addPair_3 (xchk_cons xd_X14_addPair_4 (xchk_cons xd_X14_addPair_5 (xchk_cons xd_X14_addPair_6 (xchk_cons xd_X14_addPair_7 (xchk_cons xd_X14_addPair_8 (xchk_cons xd_X14_addPair_9 (xchk_cons xd_X14_addPair_10 (xchk_cons xd_X14_addPair_11 (xchk_cons xd_X14_addPair_12 (xchk_cons xd_X14_addPair_13 xchk_nil))))))))))))))
set_option maxRecDepth 100000 in
def xk_X14_addRow_0 : List (Nat × Instr × Nat) := [(0, .aload_n 0, 1), (1, .getfield 94, 3), (4, .aload_n 0, 1), (5, .getfield 459, 3), (8, .lload_n 1, 1), (9, .lastore, 1), (10, .aload_n 0, 1), (11, .getfield 97, 3), (14, .aload_n 0, 1), (15, .getfield 459, 3)]
set_option maxRecDepth 100000 in
theorem xd_X14_addRow_0 : xchk1 cX14_addRow xk_X14_addRow_0 = true := xwalk_of 0 (by decide +kernel)
set_option maxRecDepth 100000 in
def xk_X14_addRow_1 : List (Nat × Instr × Nat) := [(18, .lload_n 3, 1), (19, .lastore, 1), (20, .aload_n 0, 1), (21, .getfield 100, 3), (24, .aload_n 0, 1), (25, .getfield 459, 3), (28, .iload 5, 2), (30, .iastore, 1), (31, .aload_n 0, 1), (32, .getfield 103, 3)]
set_option maxRecDepth 100000 in
theorem xd_X14_addRow_1 : xchk1 cX14_addRow xk_X14_addRow_1 = true := xwalk_of 18 (by decide +kernel)
set_option maxRecDepth 100000 in
def xk_X14_addRow_2 : List (Nat × Instr × Nat) := [(35, .aload_n 0, 1), (36, .getfield 459, 3), (39, .iload 6, 2), (41, .iastore, 1), (42, .aload_n 0, 1), (43, .dup, 1), (44, .getfield 459, 3), (47, .iconst 1, 1), (48, .iadd, 1), (49, .putfield 459, 3)]
set_option maxRecDepth 100000 in
theorem xd_X14_addRow_2 : xchk1 cX14_addRow xk_X14_addRow_2 = true := xwalk_of 35 (by decide +kernel)
set_option maxRecDepth 100000 in
def xk_X14_addRow_3 : List (Nat × Instr × Nat) := [(52, .iconst 0, 1), (53, .istore 7, 2), (55, .iconst 0, 1), (56, .istore 8, 2), (58, .iload 8, 2), (60, .aload_n 0, 1), (61, .getfield 466, 3), (64, .if_icmp .ge 90, 3), (67, .aload_n 0, 1), (68, .getfield 106, 3)]
set_option maxRecDepth 100000 in
theorem xd_X14_addRow_3 : xchk1 cX14_addRow xk_X14_addRow_3 = true := xwalk_of 52 (by decide +kernel)
set_option maxRecDepth 100000 in
def xk_X14_addRow_4 : List (Nat × Instr × Nat) := [(71, .iload 8, 2), (73, .laload, 1), (74, .aload_n 0, 1), (75, .getfield 109, 3), (78, .iload 8, 2), (80, .laload, 1), (81, .lload_n 1, 1), (82, .lload_n 3, 1), (83, .invokestatic 462, 3), (86, .ifCond .ne 62, 3)]
set_option maxRecDepth 100000 in
theorem xd_X14_addRow_4 : xchk1 cX14_addRow xk_X14_addRow_4 = true := xwalk_of 71 (by decide +kernel)
set_option maxRecDepth 100000 in
def xk_X14_addRow_5 : List (Nat × Instr × Nat) := [(89, .aload_n 0, 1), (90, .getfield 106, 3), (93, .iload 7, 2), (95, .aload_n 0, 1), (96, .getfield 106, 3), (99, .iload 8, 2), (101, .laload, 1), (102, .lastore, 1), (103, .aload_n 0, 1), (104, .getfield 109, 3)]
set_option maxRecDepth 100000 in
theorem xd_X14_addRow_5 : xchk1 cX14_addRow xk_X14_addRow_5 = true := xwalk_of 89 (by decide +kernel)
set_option maxRecDepth 100000 in
def xk_X14_addRow_6 : List (Nat × Instr × Nat) := [(107, .iload 7, 2), (109, .aload_n 0, 1), (110, .getfield 109, 3), (113, .iload 8, 2), (115, .laload, 1), (116, .lastore, 1), (117, .aload_n 0, 1), (118, .getfield 112, 3), (121, .iload 7, 2), (123, .aload_n 0, 1)]
set_option maxRecDepth 100000 in
theorem xd_X14_addRow_6 : xchk1 cX14_addRow xk_X14_addRow_6 = true := xwalk_of 107 (by decide +kernel)
set_option maxRecDepth 100000 in
def xk_X14_addRow_7 : List (Nat × Instr × Nat) := [(124, .getfield 112, 3), (127, .iload 8, 2), (129, .iaload, 1), (130, .iastore, 1), (131, .aload_n 0, 1), (132, .getfield 115, 3), (135, .iload 7, 2), (137, .aload_n 0, 1), (138, .getfield 115, 3), (141, .iload 8, 2)]
set_option maxRecDepth 100000 in
theorem xd_X14_addRow_7 : xchk1 cX14_addRow xk_X14_addRow_7 = true := xwalk_of 124 (by decide +kernel)
set_option maxRecDepth 100000 in
def xk_X14_addRow_8 : List (Nat × Instr × Nat) := [(143, .iaload, 1), (144, .iastore, 1), (145, .iinc 7 1, 3), (148, .iinc 8 1, 3), (151, .goto (-93), 3), (154, .aload_n 0, 1), (155, .iload 7, 2), (157, .putfield 466, 3), (160, .iconst 0, 1), (161, .istore 8, 2)]
set_option maxRecDepth 100000 in
theorem xd_X14_addRow_8 : xchk1 cX14_addRow xk_X14_addRow_8 = true := xwalk_of 143 (by decide +kernel)
set_option maxRecDepth 100000 in
def xk_X14_addRow_9 : List (Nat × Instr × Nat) := [(163, .iload 8, 2), (165, .aload_n 0, 1), (166, .getfield 459, 3), (169, .iconst 1, 1), (170, .isub, 1), (171, .if_icmp .ge 21, 3), (174, .aload_n 0, 1), (175, .iload 8, 2), (177, .aload_n 0, 1), (178, .getfield 459, 3)]
set_option maxRecDepth 100000 in
theorem xd_X14_addRow_9 : xchk1 cX14_addRow xk_X14_addRow_9 = true := xwalk_of 163 (by decide +kernel)
set_option maxRecDepth 100000 in
def xk_X14_addRow_10 : List (Nat × Instr × Nat) := [(181, .iconst 1, 1), (182, .isub, 1), (183, .invokevirtual 469, 3), (186, .iinc 8 1, 3), (189, .goto (-26), 3), (192, .return_, 1)]
set_option maxRecDepth 100000 in
theorem xd_X14_addRow_10 : xchk1 cX14_addRow xk_X14_addRow_10 = true := xwalk_of 181 (by decide +kernel)
set_option maxRecDepth 100000 in
def xk_X14_addRow : XT (Instr × Nat) := [(18, xk_X14_addRow_0),
  (35, xk_X14_addRow_1),
  (52, xk_X14_addRow_2),
  (71, xk_X14_addRow_3),
  (89, xk_X14_addRow_4),
  (107, xk_X14_addRow_5),
  (124, xk_X14_addRow_6),
  (143, xk_X14_addRow_7),
  (163, xk_X14_addRow_8),
  (181, xk_X14_addRow_9),
  (100000, xk_X14_addRow_10)]
set_option maxRecDepth 100000 in
theorem xd_X14_addRow : xchk cX14_addRow xk_X14_addRow = true := (xchk_cons xd_X14_addRow_0 (xchk_cons xd_X14_addRow_1 (xchk_cons xd_X14_addRow_2 (xchk_cons xd_X14_addRow_3 (xchk_cons xd_X14_addRow_4 (xchk_cons xd_X14_addRow_5 (xchk_cons xd_X14_addRow_6 (xchk_cons xd_X14_addRow_7 (xchk_cons xd_X14_addRow_8 (xchk_cons xd_X14_addRow_9 (xchk_cons xd_X14_addRow_10 xchk_nil)))))))))))
set_option maxRecDepth 100000 in
def xk_X14_addSpan : XT (Instr × Nat) := [(10, [(0, .aload_n 0, 1), (1, .getfield 43, 3), (4, .iconst 3, 1), (5, .aload_n 0, 1), (6, .getfield 219, 3), (9, .imul, 1)]),
  (18, [(10, .iload_n 1, 1), (11, .iastore, 1), (12, .aload_n 0, 1), (13, .getfield 43, 3), (16, .iconst 3, 1), (17, .aload_n 0, 1)]),
  (26, [(18, .getfield 219, 3), (21, .imul, 1), (22, .iconst 1, 1), (23, .iadd, 1), (24, .iload_n 2, 1), (25, .iastore, 1)]),
  (36, [(26, .aload_n 0, 1), (27, .getfield 43, 3), (30, .iconst 3, 1), (31, .aload_n 0, 1), (32, .getfield 219, 3), (35, .imul, 1)]),
  (42, [(36, .iconst 2, 1), (37, .iadd, 1), (38, .iload_n 3, 1), (39, .iastore, 1), (40, .aload_n 0, 1), (41, .dup, 1)]),
  (100000, [(42, .getfield 219, 3), (45, .iconst 1, 1), (46, .iadd, 1), (47, .putfield 219, 3), (50, .iconst 1, 1), (51, .ireturn, 1)])]
set_option maxRecDepth 100000 in
theorem xd_X14_addSpan : xchk cX14_addSpan xk_X14_addSpan = true := xchk_of (by decide +kernel)
set_option maxRecDepth 100000 in
def xk_X14_append : XT (Instr × Nat) := [(13, [(0, .aload_n 0, 1), (1, .iconst 0, 1), (2, .putfield 134, 3), (5, .iconst 0, 1), (6, .istore 6, 2), (8, .iconst 0, 1), (9, .istore 7, 2), (11, .iload 7, 2)]),
  (27, [(13, .bipush 20, 2), (15, .if_icmp .ge 34, 3), (18, .iload 6, 2), (20, .iload_n 1, 1), (21, .iload_n 2, 1), (22, .iload_n 3, 1), (23, .iload 4, 2), (25, .iload 5, 2)]),
  (43, [(27, .iload 7, 2), (29, .invokestatic 173, 3), (32, .ifCond .ne 7, 3), (35, .iconst 0, 1), (36, .goto 4, 3), (39, .iconst 1, 1), (40, .iadd, 1), (41, .istore 6, 2)]),
  (60, [(43, .iinc 7 1, 3), (46, .goto (-35), 3), (49, .aload_n 0, 1), (50, .aload_n 0, 1), (51, .getfield 177, 3), (54, .iload 6, 2), (56, .iadd, 1), (57, .sipush 200, 3)]),
  (76, [(60, .if_icmp .gt 7, 3), (63, .iconst 1, 1), (64, .goto 4, 3), (67, .iconst 0, 1), (68, .iconst 1, 1), (69, .invokevirtual 180, 3), (72, .ifCond .eq 5, 3), (75, .iconst 0, 1)]),
  (89, [(76, .ireturn, 1), (77, .iconst 0, 1), (78, .istore 7, 2), (80, .iload 7, 2), (82, .bipush 20, 2), (84, .if_icmp .ge 49, 3), (87, .iload_n 1, 1), (88, .iload_n 2, 1)]),
  (106, [(89, .iload_n 3, 1), (90, .iload 4, 2), (92, .iload 5, 2), (94, .iload 7, 2), (96, .invokestatic 173, 3), (99, .istore 8, 2), (101, .iload 8, 2), (103, .ifCond .eq 24, 3)]),
  (119, [(106, .aload_n 0, 1), (107, .getfield 22, 3), (110, .aload_n 0, 1), (111, .getfield 177, 3), (114, .iload 8, 2), (116, .iastore, 1), (117, .aload_n 0, 1), (118, .dup, 1)]),
  (137, [(119, .getfield 177, 3), (122, .iconst 1, 1), (123, .iadd, 1), (124, .putfield 177, 3), (127, .iinc 7 1, 3), (130, .goto (-50), 3), (133, .aload_n 0, 1), (134, .getfield 177, 3)]),
  (100000, [(137, .ireturn, 1)])]
set_option maxRecDepth 100000 in
theorem xd_X14_append : xchk cX14_append xk_X14_append = true := xchk_of (by decide +kernel)
set_option maxRecDepth 100000 in
def xk_X14_backTo : XT (Instr × Nat) := [(11, [(0, .aload_n 0, 1), (1, .iconst 0, 1), (2, .putfield 134, 3), (5, .aload_n 0, 1), (6, .iload_n 1, 1), (7, .iconst (-1), 1), (8, .if_icmp .eq 11, 3)]),
  (24, [(11, .aload_n 0, 1), (12, .iload_n 1, 1), (13, .invokevirtual 589, 3), (16, .ifCond .eq 7, 3), (19, .iconst 1, 1), (20, .goto 4, 3), (23, .iconst 0, 1)]),
  (37, [(24, .iconst 1, 1), (25, .invokevirtual 180, 3), (28, .ifCond .eq 5, 3), (31, .iconst 0, 1), (32, .ireturn, 1), (33, .aload_n 0, 1), (34, .invokevirtual 411, 3)]),
  (47, [(37, .bipush 12, 2), (39, .newarray .int, 2), (41, .astore_n 2, 1), (42, .iconst 0, 1), (43, .istore_n 3, 1), (44, .iload_n 3, 1), (45, .bipush 12, 2)]),
  (60, [(47, .if_icmp .ge 13, 3), (50, .aload_n 2, 1), (51, .iload_n 3, 1), (52, .iconst (-1), 1), (53, .iastore, 1), (54, .iinc 3 1, 3), (57, .goto (-13), 3)]),
  (71, [(60, .iload_n 1, 1), (61, .iconst (-1), 1), (62, .if_icmp .eq 9, 3), (65, .aload_n 0, 1), (66, .iload_n 1, 1), (67, .invokevirtual 592, 3), (70, .astore_n 2, 1)]),
  (84, [(71, .aload_n 0, 1), (72, .aload_n 2, 1), (73, .invokevirtual 414, 3), (76, .aload_n 2, 1), (77, .aload_n 0, 1), (78, .invokevirtual 344, 3), (81, .invokestatic 446, 3)]),
  (100000, [(84, .ireturn, 1)])]
set_option maxRecDepth 100000 in
theorem xd_X14_backTo : xchk cX14_backTo xk_X14_backTo = true := xchk_of (by decide +kernel)
set_option maxRecDepth 100000 in
def xk_X14_ban : XT (Instr × Nat) := [(12, [(0, .aload_n 0, 1), (1, .iconst 0, 1), (2, .putfield 134, 3), (5, .aload_n 0, 1), (6, .aload_n 0, 1), (7, .iload_n 1, 1), (8, .iload_n 2, 1), (9, .invokevirtual 493, 3)]),
  (24, [(12, .iconst 1, 1), (13, .invokevirtual 180, 3), (16, .ifCond .eq 5, 3), (19, .iconst 0, 1), (20, .ireturn, 1), (21, .aload_n 0, 1), (22, .iload_n 1, 1), (23, .iload_n 2, 1)]),
  (37, [(24, .invokevirtual 290, 3), (27, .istore_n 3, 1), (28, .aload_n 0, 1), (29, .aload_n 0, 1), (30, .iload_n 3, 1), (31, .bipush 12, 2), (33, .invokevirtual 163, 3), (36, .iconst 2, 1)]),
  (53, [(37, .if_icmp .ge 15, 3), (40, .aload_n 0, 1), (41, .iload_n 3, 1), (42, .invokevirtual 496, 3), (45, .ifCond .ne 7, 3), (48, .iconst 1, 1), (49, .goto 4, 3), (52, .iconst 0, 1)]),
  (68, [(53, .iconst 2, 1), (54, .invokevirtual 180, 3), (57, .ifCond .eq 5, 3), (60, .iconst 0, 1), (61, .ireturn, 1), (62, .aload_n 0, 1), (63, .invokevirtual 507, 3), (66, .astore 4, 2)]),
  (83, [(68, .aload_n 0, 1), (69, .aload 4, 2), (71, .ifnull 7, 3), (74, .iconst 1, 1), (75, .goto 4, 3), (78, .iconst 0, 1), (79, .iconst 3, 1), (80, .invokevirtual 180, 3)]),
  (96, [(83, .ifCond .eq 5, 3), (86, .iconst 0, 1), (87, .ireturn, 1), (88, .aload_n 0, 1), (89, .invokevirtual 411, 3), (92, .aload_n 0, 1), (93, .iload_n 3, 1), (94, .bipush 12, 2)]),
  (109, [(96, .invokevirtual 163, 3), (99, .istore 5, 2), (101, .aload_n 0, 1), (102, .iload_n 3, 1), (103, .bipush 13, 2), (105, .iload 5, 2), (107, .iadd, 1), (108, .aload_n 0, 1)]),
  (124, [(109, .aload 4, 2), (111, .invokevirtual 503, 3), (114, .invokevirtual 489, 3), (117, .aload_n 0, 1), (118, .iload_n 3, 1), (119, .bipush 12, 2), (121, .iload 5, 2), (123, .iconst 1, 1)]),
  (100000, [(124, .iadd, 1), (125, .invokevirtual 489, 3), (128, .iload 5, 2), (130, .iconst 1, 1), (131, .iadd, 1), (132, .ireturn, 1)])]
set_option maxRecDepth 100000 in
theorem xd_X14_ban : xchk cX14_ban xk_X14_ban = true := xchk_of (by decide +kernel)
set_option maxRecDepth 100000 in
def xk_X14_because : XT (Instr × Nat) := [(6, [(0, .aload_n 0, 1), (1, .iconst 0, 1), (2, .putfield 134, 3), (5, .aload_n 0, 1)]),
  (12, [(6, .aload_n 0, 1), (7, .iload_n 1, 1), (8, .invokevirtual 200, 3), (11, .iconst 1, 1)]),
  (20, [(12, .invokevirtual 180, 3), (15, .ifCond .eq 5, 3), (18, .iconst 0, 1), (19, .ireturn, 1)]),
  (28, [(20, .aload_n 0, 1), (21, .aload_n 0, 1), (22, .invokevirtual 523, 3), (25, .invokevirtual 530, 3)]),
  (34, [(28, .aload_n 0, 1), (29, .getfield 118, 3), (32, .iload_n 1, 1), (33, .iaload, 1)]),
  (100000, [(34, .ireturn, 1)])]
set_option maxRecDepth 100000 in
theorem xd_X14_because : xchk cX14_because xk_X14_because = true := xchk_of (by decide +kernel)
set_option maxRecDepth 100000 in
def xk_X14_bestPair : XT (Instr × Nat) := [(8, [(0, .iconst (-1), 1), (1, .istore_n 1, 1), (2, .iconst 0, 1), (3, .istore_n 2, 1), (4, .iconst 0, 1), (5, .istore_n 3, 1), (6, .iload_n 3, 1), (7, .aload_n 0, 1)]),
  (24, [(8, .getfield 466, 3), (11, .if_icmp .ge 121, 3), (14, .aload_n 0, 1), (15, .getfield 106, 3), (18, .iload_n 3, 1), (19, .laload, 1), (20, .invokestatic 361, 3), (23, .aload_n 0, 1)]),
  (37, [(24, .getfield 109, 3), (27, .iload_n 3, 1), (28, .laload, 1), (29, .invokestatic 361, 3), (32, .iadd, 1), (33, .istore 4, 2), (35, .iload_n 1, 1), (36, .iconst (-1), 1)]),
  (53, [(37, .if_icmp .eq 9, 3), (40, .iload 4, 2), (42, .iload_n 2, 1), (43, .if_icmp .ge 7, 3), (46, .iconst 1, 1), (47, .goto 4, 3), (50, .iconst 0, 1), (51, .istore 5, 2)]),
  (68, [(53, .iload_n 1, 1), (54, .iconst (-1), 1), (55, .if_icmp .eq 61, 3), (58, .iload 4, 2), (60, .iload_n 2, 1), (61, .if_icmp .ne 55, 3), (64, .aload_n 0, 1), (65, .getfield 115, 3)]),
  (80, [(68, .iload_n 3, 1), (69, .iaload, 1), (70, .aload_n 0, 1), (71, .getfield 115, 3), (74, .iload_n 1, 1), (75, .iaload, 1), (76, .if_icmp .lt 33, 3), (79, .aload_n 0, 1)]),
  (94, [(80, .getfield 115, 3), (83, .iload_n 3, 1), (84, .iaload, 1), (85, .aload_n 0, 1), (86, .getfield 115, 3), (89, .iload_n 1, 1), (90, .iaload, 1), (91, .if_icmp .ne 22, 3)]),
  (106, [(94, .aload_n 0, 1), (95, .getfield 112, 3), (98, .iload_n 3, 1), (99, .iaload, 1), (100, .aload_n 0, 1), (101, .getfield 112, 3), (104, .iload_n 1, 1), (105, .iaload, 1)]),
  (122, [(106, .if_icmp .ge 7, 3), (109, .iconst 1, 1), (110, .goto 4, 3), (113, .iconst 0, 1), (114, .istore 5, 2), (116, .iload 5, 2), (118, .ifCond .eq 8, 3), (121, .iload_n 3, 1)]),
  (100000, [(122, .istore_n 1, 1), (123, .iload 4, 2), (125, .istore_n 2, 1), (126, .iinc 3 1, 3), (129, .goto (-123), 3), (132, .iload_n 1, 1), (133, .ireturn, 1)])]
set_option maxRecDepth 100000 in
theorem xd_X14_bestPair : xchk cX14_bestPair xk_X14_bestPair = true := xchk_of (by decide +kernel)
set_option maxRecDepth 100000 in
def xk_X14_bit : XT (Instr × Nat) := [(100000, [(0, .lconst 1, 1), (1, .iload_n 0, 1), (2, .lshl, 1), (3, .lreturn, 1)])]
set_option maxRecDepth 100000 in
theorem xd_X14_bit : xchk cX14_bit xk_X14_bit = true := xchk_of (by decide +kernel)
set_option maxRecDepth 100000 in
def xk_X14_byteOf : XT (Instr × Nat) := [(10, [(0, .iload 5, 2), (2, .iconst 4, 1), (3, .if_icmp .ge 7, 3), (6, .iload_n 0, 1), (7, .goto 38, 3)]),
  (21, [(10, .iload 5, 2), (12, .bipush 8, 2), (14, .if_icmp .ge 7, 3), (17, .iload_n 1, 1), (18, .goto 27, 3)]),
  (32, [(21, .iload 5, 2), (23, .bipush 12, 2), (25, .if_icmp .ge 7, 3), (28, .iload_n 2, 1), (29, .goto 16, 3)]),
  (43, [(32, .iload 5, 2), (34, .bipush 16, 2), (36, .if_icmp .ge 7, 3), (39, .iload_n 3, 1), (40, .goto 5, 3)]),
  (53, [(43, .iload 4, 2), (45, .istore 6, 2), (47, .iload 6, 2), (49, .bipush 24, 2), (51, .bipush 8, 2)]),
  (59, [(53, .iload 5, 2), (55, .iconst 4, 1), (56, .irem, 1), (57, .imul, 1), (58, .isub, 1)]),
  (100000, [(59, .iushr, 1), (60, .sipush 255, 3), (63, .iand, 1), (64, .ireturn, 1)])]
set_option maxRecDepth 100000 in
theorem xd_X14_byteOf : xchk cX14_byteOf xk_X14_byteOf = true := xchk_of (by decide +kernel)
set_option maxRecDepth 100000 in
def xk_X14_canHold : XT (Instr × Nat) := [(6, [(0, .aload_n 0, 1), (1, .iconst 1, 1), (2, .putfield 69, 3), (5, .aload_n 0, 1)]),
  (100000, [(6, .lload_n 1, 1), (7, .lload_n 3, 1), (8, .invokevirtual 382, 3), (11, .ireturn, 1)])]
set_option maxRecDepth 100000 in
theorem xd_X14_canHold : xchk cX14_canHold xk_X14_canHold = true := xchk_of (by decide +kernel)
set_option maxRecDepth 100000 in
def xk_X14_carryOut_0 : List (Nat × Instr × Nat) := [(0, .aload_n 0, 1), (1, .getfield 130, 3), (4, .iload_n 1, 1), (5, .iaload, 1), (6, .istore 5, 2), (8, .iconst 0, 1), (9, .istore 6, 2), (11, .iload 6, 2), (13, .bipush 12, 2), (15, .if_icmp .ge 68, 3), (18, .iload 5, 2), (20, .iload 6, 2)]
set_option maxRecDepth 100000 in
theorem xd_X14_carryOut_0 : xchk1 cX14_carryOut xk_X14_carryOut_0 = true := xwalk_of 0 (by decide +kernel)
set_option maxRecDepth 100000 in
def xk_X14_carryOut_1 : List (Nat × Instr × Nat) := [(22, .ishr, 1), (23, .iconst 1, 1), (24, .iand, 1), (25, .iconst 1, 1), (26, .if_icmp .ne 7, 3), (29, .iconst 1, 1), (30, .goto 4, 3), (33, .iconst 0, 1), (34, .istore 7, 2), (36, .iload 7, 2), (38, .ifCond .eq 26, 3), (41, .aload_n 2, 1)]
set_option maxRecDepth 100000 in
theorem xd_X14_carryOut_1 : xchk1 cX14_carryOut xk_X14_carryOut_1 = true := xwalk_of 22 (by decide +kernel)
set_option maxRecDepth 100000 in
def xk_X14_carryOut_2 : List (Nat × Instr × Nat) := [(42, .iload 6, 2), (44, .invokestatic 319, 3), (47, .aload_n 3, 1), (48, .iload 6, 2), (50, .invokestatic 319, 3), (53, .if_icmp .eq 11, 3), (56, .aload_n 2, 1), (57, .iload 6, 2), (59, .iconst (-1), 1), (60, .iastore, 1), (61, .goto 16, 3), (64, .iload 7, 2)]
set_option maxRecDepth 100000 in
theorem xd_X14_carryOut_2 : xchk1 cX14_carryOut xk_X14_carryOut_2 = true := xwalk_of 42 (by decide +kernel)
set_option maxRecDepth 100000 in
def xk_X14_carryOut_3 : List (Nat × Instr × Nat) := [(66, .ifCond .eq 11, 3), (69, .aload_n 2, 1), (70, .iload 6, 2), (72, .aload_n 3, 1), (73, .iload 6, 2), (75, .iaload, 1), (76, .iastore, 1), (77, .iinc 6 1, 3), (80, .goto (-69), 3), (83, .aload 4, 2), (85, .astore 6, 2), (87, .aload 6, 2)]
set_option maxRecDepth 100000 in
theorem xd_X14_carryOut_3 : xchk1 cX14_carryOut xk_X14_carryOut_3 = true := xwalk_of 66 (by decide +kernel)
set_option maxRecDepth 100000 in
def xk_X14_carryOut_4 : List (Nat × Instr × Nat) := [(89, .arraylength, 1), (90, .istore 7, 2), (92, .iconst 0, 1), (93, .istore 8, 2), (95, .iload 8, 2), (97, .iload 7, 2), (99, .if_icmp .ge 102, 3), (102, .aload 6, 2), (104, .iload 8, 2), (106, .iaload, 1), (107, .istore 9, 2), (109, .iload 5, 2)]
set_option maxRecDepth 100000 in
theorem xd_X14_carryOut_4 : xchk1 cX14_carryOut xk_X14_carryOut_4 = true := xwalk_of 89 (by decide +kernel)
set_option maxRecDepth 100000 in
def xk_X14_carryOut_5 : List (Nat × Instr × Nat) := [(111, .iload 9, 2), (113, .ishr, 1), (114, .iconst 1, 1), (115, .iand, 1), (116, .ifCond .ne 6, 3), (119, .goto 76, 3), (122, .aload_n 0, 1), (123, .aload_n 0, 1), (124, .aload_n 3, 1), (125, .iload 9, 2), (127, .invokevirtual 297, 3), (130, .iconst 2, 1)]
set_option maxRecDepth 100000 in
theorem xd_X14_carryOut_5 : xchk1 cX14_carryOut xk_X14_carryOut_5 = true := xwalk_of 111 (by decide +kernel)
set_option maxRecDepth 100000 in
def xk_X14_carryOut_6 : List (Nat × Instr × Nat) := [(131, .invokevirtual 163, 3), (134, .istore 10, 2), (136, .iconst 0, 1), (137, .istore 11, 2), (139, .iload 11, 2), (141, .bipush 12, 2), (143, .if_icmp .ge 44, 3), (146, .aload_n 2, 1), (147, .iload 11, 2), (149, .iaload, 1), (150, .iconst (-1), 1), (151, .if_icmp .eq 30, 3)]
set_option maxRecDepth 100000 in
theorem xd_X14_carryOut_6 : xchk1 cX14_carryOut xk_X14_carryOut_6 = true := xwalk_of 131 (by decide +kernel)
set_option maxRecDepth 100000 in
def xk_X14_carryOut_7 : List (Nat × Instr × Nat) := [(154, .aload_n 0, 1), (155, .aload_n 0, 1), (156, .aload_n 2, 1), (157, .iload 11, 2), (159, .invokevirtual 297, 3), (162, .iconst 2, 1), (163, .invokevirtual 163, 3), (166, .iload 10, 2), (168, .iand, 1), (169, .ifCond .eq 12, 3), (172, .aload_n 0, 1), (173, .iconst 2, 1)]
set_option maxRecDepth 100000 in
theorem xd_X14_carryOut_7 : xchk1 cX14_carryOut xk_X14_carryOut_7 = true := xwalk_of 154 (by decide +kernel)
set_option maxRecDepth 100000 in
def xk_X14_carryOut_8 : List (Nat × Instr × Nat) := [(174, .iload 9, 2), (176, .iload_n 1, 1), (177, .invokevirtual 575, 3), (180, .ireturn, 1), (181, .iinc 11 1, 3), (184, .goto (-45), 3), (187, .aload_n 2, 1), (188, .iload 9, 2), (190, .aload_n 3, 1), (191, .iload 9, 2), (193, .iaload, 1), (194, .iastore, 1)]
set_option maxRecDepth 100000 in
theorem xd_X14_carryOut_8 : xchk1 cX14_carryOut xk_X14_carryOut_8 = true := xwalk_of 174 (by decide +kernel)
set_option maxRecDepth 100000 in
def xk_X14_carryOut_9 : List (Nat × Instr × Nat) := [(195, .iinc 8 1, 3), (198, .goto (-103), 3), (201, .aload_n 0, 1), (202, .aload_n 2, 1), (203, .invokevirtual 583, 3), (206, .aload_n 0, 1), (207, .bipush 22, 2), (209, .invokevirtual 312, 3), (212, .if_icmp .le 18, 3), (215, .aload_n 0, 1), (216, .iconst 3, 1), (217, .bipush 31, 2)]
set_option maxRecDepth 100000 in
theorem xd_X14_carryOut_9 : xchk1 cX14_carryOut xk_X14_carryOut_9 = true := xwalk_of 195 (by decide +kernel)
set_option maxRecDepth 100000 in
def xk_X14_carryOut_10 : List (Nat × Instr × Nat) := [(219, .iload 5, 2), (221, .invokestatic 586, 3), (224, .isub, 1), (225, .iload_n 1, 1), (226, .invokevirtual 575, 3), (229, .ireturn, 1), (230, .aload 4, 2), (232, .astore 6, 2), (234, .aload 6, 2), (236, .arraylength, 1), (237, .istore 7, 2), (239, .iconst 0, 1)]
set_option maxRecDepth 100000 in
theorem xd_X14_carryOut_10 : xchk1 cX14_carryOut xk_X14_carryOut_10 = true := xwalk_of 219 (by decide +kernel)
set_option maxRecDepth 100000 in
def xk_X14_carryOut_11 : List (Nat × Instr × Nat) := [(240, .istore 8, 2), (242, .iload 8, 2), (244, .iload 7, 2), (246, .if_icmp .ge 52, 3), (249, .aload 6, 2), (251, .iload 8, 2), (253, .iaload, 1), (254, .istore 9, 2), (256, .iload 5, 2), (258, .iload 9, 2), (260, .ishr, 1), (261, .iconst 1, 1)]
set_option maxRecDepth 100000 in
theorem xd_X14_carryOut_11 : xchk1 cX14_carryOut xk_X14_carryOut_11 = true := xwalk_of 240 (by decide +kernel)
set_option maxRecDepth 100000 in
def xk_X14_carryOut_12 : List (Nat × Instr × Nat) := [(262, .iand, 1), (263, .iconst 1, 1), (264, .if_icmp .ne 28, 3), (267, .aload_n 0, 1), (268, .aload_n 0, 1), (269, .aload_n 3, 1), (270, .iload 9, 2), (272, .invokevirtual 297, 3), (275, .iconst 5, 1), (276, .invokevirtual 163, 3), (279, .iconst 1, 1), (280, .if_icmp .ne 12, 3)]
set_option maxRecDepth 100000 in
theorem xd_X14_carryOut_12 : xchk1 cX14_carryOut xk_X14_carryOut_12 = true := xwalk_of 262 (by decide +kernel)
set_option maxRecDepth 100000 in
def xk_X14_carryOut_13 : List (Nat × Instr × Nat) := [(283, .aload_n 0, 1), (284, .iconst 4, 1), (285, .iload 9, 2), (287, .iload_n 1, 1), (288, .invokevirtual 575, 3), (291, .ireturn, 1), (292, .iinc 8 1, 3), (295, .goto (-53), 3), (298, .iload_n 1, 1), (299, .ireturn, 1)]
set_option maxRecDepth 100000 in
theorem xd_X14_carryOut_13 : xchk1 cX14_carryOut xk_X14_carryOut_13 = true := xwalk_of 283 (by decide +kernel)
set_option maxRecDepth 100000 in
def xk_X14_carryOut : XT (Instr × Nat) := [(22, xk_X14_carryOut_0),
  (42, xk_X14_carryOut_1),
  (66, xk_X14_carryOut_2),
  (89, xk_X14_carryOut_3),
  (111, xk_X14_carryOut_4),
  (131, xk_X14_carryOut_5),
  (154, xk_X14_carryOut_6),
  (174, xk_X14_carryOut_7),
  (195, xk_X14_carryOut_8),
  (219, xk_X14_carryOut_9),
  (240, xk_X14_carryOut_10),
  (262, xk_X14_carryOut_11),
  (283, xk_X14_carryOut_12),
  (100000, xk_X14_carryOut_13)]
set_option maxRecDepth 100000 in
theorem xd_X14_carryOut : xchk cX14_carryOut xk_X14_carryOut = true := (xchk_cons xd_X14_carryOut_0 (xchk_cons xd_X14_carryOut_1 (xchk_cons xd_X14_carryOut_2 (xchk_cons xd_X14_carryOut_3 (xchk_cons xd_X14_carryOut_4 (xchk_cons xd_X14_carryOut_5 (xchk_cons xd_X14_carryOut_6 (xchk_cons xd_X14_carryOut_7 (xchk_cons xd_X14_carryOut_8 (xchk_cons xd_X14_carryOut_9 (xchk_cons xd_X14_carryOut_10 (xchk_cons xd_X14_carryOut_11 (xchk_cons xd_X14_carryOut_12 (xchk_cons xd_X14_carryOut_13 xchk_nil))))))))))))))
set_option maxRecDepth 100000 in
def xk_X14_changes : XT (Instr × Nat) := [(6, [(0, .aload_n 0, 1), (1, .iconst 0, 1), (2, .putfield 134, 3), (5, .aload_n 0, 1)]),
  (16, [(6, .invokevirtual 523, 3), (9, .aload_n 0, 1), (10, .invokevirtual 344, 3), (13, .invokestatic 446, 3)]),
  (100000, [(16, .ireturn, 1)])]
set_option maxRecDepth 100000 in
theorem xd_X14_changes : xchk cX14_changes xk_X14_changes = true := xchk_of (by decide +kernel)
set_option maxRecDepth 100000 in
def xk_X14_checksum : XT (Instr × Nat) := [(10, [(0, .aload_n 0, 1), (1, .iconst 0, 1), (2, .putfield 134, 3), (5, .aload_n 0, 1), (6, .invokevirtual 523, 3), (9, .astore_n 1, 1)]),
  (19, [(10, .aload_n 0, 1), (11, .invokevirtual 344, 3), (14, .astore_n 2, 1), (15, .bipush 17, 2), (17, .istore_n 3, 1), (18, .iconst 0, 1)]),
  (29, [(19, .istore 4, 2), (21, .iload 4, 2), (23, .aload_n 0, 1), (24, .getfield 9, 3), (27, .iconst 0, 1), (28, .iaload, 1)]),
  (39, [(29, .if_icmp .ge 29, 3), (32, .bipush 31, 2), (34, .iload_n 3, 1), (35, .imul, 1), (36, .aload_n 1, 1), (37, .iload 4, 2)]),
  (46, [(39, .iaload, 1), (40, .iadd, 1), (41, .istore_n 3, 1), (42, .bipush 31, 2), (44, .iload_n 3, 1), (45, .imul, 1)]),
  (55, [(46, .aload_n 2, 1), (47, .iload 4, 2), (49, .iaload, 1), (50, .iadd, 1), (51, .istore_n 3, 1), (52, .iinc 4 1, 3)]),
  (100000, [(55, .goto (-34), 3), (58, .iload_n 3, 1), (59, .ireturn, 1)])]
set_option maxRecDepth 100000 in
theorem xd_X14_checksum : xchk cX14_checksum xk_X14_checksum = true := xchk_of (by decide +kernel)
set_option maxRecDepth 100000 in
def xk_X14_clashes : XT (Instr × Nat) := [(10, [(0, .aload_n 0, 1), (1, .iconst 0, 1), (2, .putfield 134, 3), (5, .aload_n 0, 1), (6, .invokevirtual 523, 3), (9, .astore_n 1, 1)]),
  (17, [(10, .iconst 0, 1), (11, .istore_n 2, 1), (12, .iconst 0, 1), (13, .istore_n 3, 1), (14, .iconst 0, 1), (15, .istore 4, 2)]),
  (28, [(17, .iload 4, 2), (19, .bipush 12, 2), (21, .if_icmp .ge 47, 3), (24, .aload_n 1, 1), (25, .iload 4, 2), (27, .iaload, 1)]),
  (38, [(28, .iconst (-1), 1), (29, .if_icmp .ne 7, 3), (32, .iconst 0, 1), (33, .goto 15, 3), (36, .aload_n 0, 1), (37, .aload_n 0, 1)]),
  (50, [(38, .aload_n 1, 1), (39, .iload 4, 2), (41, .invokevirtual 297, 3), (44, .iconst 2, 1), (45, .invokevirtual 163, 3), (48, .istore 5, 2)]),
  (57, [(50, .iload_n 3, 1), (51, .iload_n 2, 1), (52, .iload 5, 2), (54, .iand, 1), (55, .ior, 1), (56, .istore_n 3, 1)]),
  (68, [(57, .iload_n 2, 1), (58, .iload 5, 2), (60, .ior, 1), (61, .istore_n 2, 1), (62, .iinc 4 1, 3), (65, .goto (-48), 3)]),
  (100000, [(68, .iload_n 3, 1), (69, .invokestatic 519, 3), (72, .ireturn, 1)])]
set_option maxRecDepth 100000 in
theorem xd_X14_clashes : xchk cX14_clashes xk_X14_clashes = true := xchk_of (by decide +kernel)
set_option maxRecDepth 100000 in
def xk_X14_clearTape : XT (Instr × Nat) := [(6, [(0, .aload_n 0, 1), (1, .iconst 0, 1), (2, .putfield 134, 3), (5, .aload_n 0, 1)]),
  (12, [(6, .getfield 177, 3), (9, .istore_n 1, 1), (10, .aload_n 0, 1), (11, .iconst 0, 1)]),
  (100000, [(12, .putfield 177, 3), (15, .iload_n 1, 1), (16, .ireturn, 1)])]
set_option maxRecDepth 100000 in
theorem xd_X14_clearTape : xchk cX14_clearTape xk_X14_clearTape = true := xchk_of (by decide +kernel)
set_option maxRecDepth 100000 in
def xk_X14_codeIn : XT (Instr × Nat) := [(4, [(0, .aload_n 0, 1), (1, .iload_n 1, 1), (2, .iaload, 1), (3, .iconst (-1), 1)]),
  (12, [(4, .if_icmp .ne 7, 3), (7, .iconst (-1), 1), (8, .goto 10, 3), (11, .aload_n 0, 1)]),
  (18, [(12, .iload_n 1, 1), (13, .iaload, 1), (14, .ldc_w 289, 3), (17, .irem, 1)]),
  (100000, [(18, .ireturn, 1)])]
set_option maxRecDepth 100000 in
theorem xd_X14_codeIn : xchk cX14_codeIn xk_X14_codeIn = true := xchk_of (by decide +kernel)
set_option maxRecDepth 100000 in
def xk_X14_coming : XT (Instr × Nat) := [(9, [(0, .bipush 12, 2), (2, .newarray .int, 2), (4, .astore_n 3, 1), (5, .iconst 0, 1), (6, .istore 4, 2), (8, .iconst 0, 1)]),
  (21, [(9, .istore 5, 2), (11, .iload 5, 2), (13, .aload_n 0, 1), (14, .getfield 545, 3), (17, .if_icmp .ge 42, 3), (20, .aload_n 0, 1)]),
  (32, [(21, .getfield 127, 3), (24, .iload 5, 2), (26, .iaload, 1), (27, .istore 6, 2), (29, .aload_n 1, 1), (30, .iload 6, 2)]),
  (45, [(32, .invokestatic 319, 3), (35, .aload_n 2, 1), (36, .iload 6, 2), (38, .invokestatic 319, 3), (41, .if_icmp .eq 12, 3), (44, .aload_n 3, 1)]),
  (59, [(45, .iload 4, 2), (47, .iload 6, 2), (49, .iastore, 1), (50, .iinc 4 1, 3), (53, .iinc 5 1, 3), (56, .goto (-45), 3)]),
  (69, [(59, .iload 4, 2), (61, .newarray .int, 2), (63, .astore 5, 2), (65, .aload_n 3, 1), (66, .iconst 0, 1), (67, .aload 5, 2)]),
  (100000, [(69, .iconst 0, 1), (70, .iload 4, 2), (72, .invokestatic 140, 3), (75, .aload 5, 2), (77, .areturn, 1)])]
set_option maxRecDepth 100000 in
theorem xd_X14_coming : xchk cX14_coming xk_X14_coming = true := xchk_of (by decide +kernel)
set_option maxRecDepth 100000 in
def xk_X14_core : XT (Instr × Nat) := [(6, [(0, .aload_n 0, 1), (1, .iconst 0, 1), (2, .putfield 134, 3), (5, .aload_n 0, 1)]),
  (14, [(6, .invokevirtual 456, 3), (9, .aload_n 0, 1), (10, .getfield 88, 3), (13, .arraylength, 1)]),
  (100000, [(14, .ireturn, 1)])]
set_option maxRecDepth 100000 in
theorem xd_X14_core : xchk cX14_core xk_X14_core = true := xchk_of (by decide +kernel)
set_option maxRecDepth 100000 in
def xk_X14_coreAt : XT (Instr × Nat) := [(11, [(0, .aload_n 0, 1), (1, .iconst 0, 1), (2, .putfield 134, 3), (5, .aload_n 0, 1), (6, .invokevirtual 456, 3), (9, .aload_n 0, 1), (10, .iload_n 1, 1)]),
  (22, [(11, .iconst 0, 1), (12, .aload_n 0, 1), (13, .getfield 88, 3), (16, .arraylength, 1), (17, .iconst 1, 1), (18, .isub, 1), (19, .invokestatic 158, 3)]),
  (33, [(22, .iconst 1, 1), (23, .invokevirtual 180, 3), (26, .ifCond .ne 17, 3), (29, .aload_n 0, 1), (30, .iload_n 2, 1), (31, .iconst 0, 1), (32, .iconst 4, 1)]),
  (46, [(33, .invokestatic 158, 3), (36, .iconst 2, 1), (37, .invokevirtual 180, 3), (40, .ifCond .eq 5, 3), (43, .iconst 0, 1), (44, .ireturn, 1), (45, .aload_n 0, 1)]),
  (85, [(46, .getfield 88, 3), (49, .iload_n 1, 1), (50, .iaload, 1), (51, .istore_n 3, 1), (52, .iload_n 2, 1), (53, .tableswitch 54 0 3 #[31, 33, 40, 47], 31), (84, .iload_n 3, 1)]),
  (94, [(85, .ireturn, 1), (86, .aload_n 0, 1), (87, .getfield 53, 3), (90, .iload_n 3, 1), (91, .iaload, 1), (92, .ireturn, 1), (93, .aload_n 0, 1)]),
  (105, [(94, .getfield 56, 3), (97, .iload_n 3, 1), (98, .iaload, 1), (99, .ireturn, 1), (100, .aload_n 0, 1), (101, .getfield 59, 3), (104, .iload_n 3, 1)]),
  (116, [(105, .iaload, 1), (106, .ireturn, 1), (107, .aload_n 0, 1), (108, .getfield 46, 3), (111, .iload_n 3, 1), (112, .laload, 1), (113, .invokestatic 361, 3)]),
  (100000, [(116, .aload_n 0, 1), (117, .getfield 50, 3), (120, .iload_n 3, 1), (121, .laload, 1), (122, .invokestatic 361, 3), (125, .iadd, 1), (126, .ireturn, 1)])]
set_option maxRecDepth 100000 in
theorem xd_X14_coreAt : xchk cX14_coreAt xk_X14_coreAt = true := xchk_of (by decide +kernel)
set_option maxRecDepth 100000 in
def xk_X14_coreErrors_0 : List (Nat × Instr × Nat) := [(0, .aload_n 0, 1), (1, .invokevirtual 456, 3), (4, .iconst 0, 1), (5, .istore_n 1, 1), (6, .iload_n 1, 1), (7, .aload_n 0, 1), (8, .getfield 330, 3), (11, .if_icmp .ge 16, 3), (14, .aload_n 0, 1)]
set_option maxRecDepth 100000 in
theorem xd_X14_coreErrors_0 : xchk1 cX14_coreErrors xk_X14_coreErrors_0 = true := xwalk_of 0 (by decide +kernel)
set_option maxRecDepth 100000 in
def xk_X14_coreErrors_1 : List (Nat × Instr × Nat) := [(15, .getfield 65, 3), (18, .iload_n 1, 1), (19, .iconst 0, 1), (20, .bastore, 1), (21, .iinc 1 1, 3), (24, .goto (-18), 3), (27, .aload_n 0, 1), (28, .getfield 88, 3), (31, .astore_n 1, 1)]
set_option maxRecDepth 100000 in
theorem xd_X14_coreErrors_1 : xchk1 cX14_coreErrors xk_X14_coreErrors_1 = true := xwalk_of 15 (by decide +kernel)
set_option maxRecDepth 100000 in
def xk_X14_coreErrors_2 : List (Nat × Instr × Nat) := [(32, .aload_n 1, 1), (33, .arraylength, 1), (34, .istore_n 2, 1), (35, .iconst 0, 1), (36, .istore_n 3, 1), (37, .iload_n 3, 1), (38, .iload_n 2, 1), (39, .if_icmp .ge 22, 3), (42, .aload_n 1, 1)]
set_option maxRecDepth 100000 in
theorem xd_X14_coreErrors_2 : xchk1 cX14_coreErrors xk_X14_coreErrors_2 = true := xwalk_of 32 (by decide +kernel)
set_option maxRecDepth 100000 in
def xk_X14_coreErrors_3 : List (Nat × Instr × Nat) := [(43, .iload_n 3, 1), (44, .iaload, 1), (45, .istore 4, 2), (47, .aload_n 0, 1), (48, .getfield 65, 3), (51, .iload 4, 2), (53, .iconst 1, 1), (54, .bastore, 1), (55, .iinc 3 1, 3)]
set_option maxRecDepth 100000 in
theorem xd_X14_coreErrors_3 : xchk1 cX14_coreErrors xk_X14_coreErrors_3 = true := xwalk_of 43 (by decide +kernel)
set_option maxRecDepth 100000 in
def xk_X14_coreErrors_4 : List (Nat × Instr × Nat) := [(58, .goto (-21), 3), (61, .aload_n 0, 1), (62, .iconst 0, 1), (63, .putfield 69, 3), (66, .aload_n 0, 1), (67, .lconst 0, 1), (68, .lconst 0, 1), (69, .invokevirtual 382, 3), (72, .istore_n 1, 1)]
set_option maxRecDepth 100000 in
theorem xd_X14_coreErrors_4 : xchk1 cX14_coreErrors xk_X14_coreErrors_4 = true := xwalk_of 58 (by decide +kernel)
set_option maxRecDepth 100000 in
def xk_X14_coreErrors_5 : List (Nat × Instr × Nat) := [(73, .aload_n 0, 1), (74, .getfield 88, 3), (77, .astore_n 2, 1), (78, .aload_n 2, 1), (79, .arraylength, 1), (80, .istore_n 3, 1), (81, .iconst 0, 1), (82, .istore 4, 2), (84, .iload 4, 2)]
set_option maxRecDepth 100000 in
theorem xd_X14_coreErrors_5 : xchk1 cX14_coreErrors xk_X14_coreErrors_5 = true := xwalk_of 73 (by decide +kernel)
set_option maxRecDepth 100000 in
def xk_X14_coreErrors_6 : List (Nat × Instr × Nat) := [(86, .iload_n 3, 1), (87, .if_icmp .ge 50, 3), (90, .aload_n 2, 1), (91, .iload 4, 2), (93, .iaload, 1), (94, .istore 5, 2), (96, .aload_n 0, 1), (97, .getfield 65, 3), (100, .iload 5, 2)]
set_option maxRecDepth 100000 in
theorem xd_X14_coreErrors_6 : xchk1 cX14_coreErrors xk_X14_coreErrors_6 = true := xwalk_of 86 (by decide +kernel)
set_option maxRecDepth 100000 in
def xk_X14_coreErrors_7 : List (Nat × Instr × Nat) := [(102, .iconst 0, 1), (103, .bastore, 1), (104, .iload_n 1, 1), (105, .ifCond .ne 12, 3), (108, .aload_n 0, 1), (109, .lconst 0, 1), (110, .lconst 0, 1), (111, .invokevirtual 382, 3), (114, .ifCond .ne 7, 3)]
set_option maxRecDepth 100000 in
theorem xd_X14_coreErrors_7 : xchk1 cX14_coreErrors xk_X14_coreErrors_7 = true := xwalk_of 102 (by decide +kernel)
set_option maxRecDepth 100000 in
def xk_X14_coreErrors_8 : List (Nat × Instr × Nat) := [(117, .iconst 1, 1), (118, .goto 4, 3), (121, .iconst 0, 1), (122, .istore_n 1, 1), (123, .aload_n 0, 1), (124, .getfield 65, 3), (127, .iload 5, 2), (129, .iconst 1, 1), (130, .bastore, 1)]
set_option maxRecDepth 100000 in
theorem xd_X14_coreErrors_8 : xchk1 cX14_coreErrors xk_X14_coreErrors_8 = true := xwalk_of 117 (by decide +kernel)
set_option maxRecDepth 100000 in
def xk_X14_coreErrors_9 : List (Nat × Instr × Nat) := [(131, .iinc 4 1, 3), (134, .goto (-50), 3), (137, .aload_n 0, 1), (138, .iconst 1, 1), (139, .putfield 69, 3), (142, .iload_n 1, 1), (143, .ifCond .eq 7, 3), (146, .iconst 1, 1), (147, .goto 4, 3)]
set_option maxRecDepth 100000 in
theorem xd_X14_coreErrors_9 : xchk1 cX14_coreErrors xk_X14_coreErrors_9 = true := xwalk_of 131 (by decide +kernel)
set_option maxRecDepth 100000 in
def xk_X14_coreErrors_10 : List (Nat × Instr × Nat) := [(150, .iconst 0, 1), (151, .ireturn, 1)]
set_option maxRecDepth 100000 in
theorem xd_X14_coreErrors_10 : xchk1 cX14_coreErrors xk_X14_coreErrors_10 = true := xwalk_of 150 (by decide +kernel)
set_option maxRecDepth 100000 in
def xk_X14_coreErrors : XT (Instr × Nat) := [(15, xk_X14_coreErrors_0),
  (32, xk_X14_coreErrors_1),
  (43, xk_X14_coreErrors_2),
  (58, xk_X14_coreErrors_3),
  (73, xk_X14_coreErrors_4),
  (86, xk_X14_coreErrors_5),
  (102, xk_X14_coreErrors_6),
  (117, xk_X14_coreErrors_7),
  (131, xk_X14_coreErrors_8),
  (150, xk_X14_coreErrors_9),
  (100000, xk_X14_coreErrors_10)]
set_option maxRecDepth 100000 in
theorem xd_X14_coreErrors : xchk cX14_coreErrors xk_X14_coreErrors = true := (xchk_cons xd_X14_coreErrors_0 (xchk_cons xd_X14_coreErrors_1 (xchk_cons xd_X14_coreErrors_2 (xchk_cons xd_X14_coreErrors_3 (xchk_cons xd_X14_coreErrors_4 (xchk_cons xd_X14_coreErrors_5 (xchk_cons xd_X14_coreErrors_6 (xchk_cons xd_X14_coreErrors_7 (xchk_cons xd_X14_coreErrors_8 (xchk_cons xd_X14_coreErrors_9 (xchk_cons xd_X14_coreErrors_10 xchk_nil)))))))))))
set_option maxRecDepth 100000 in
def xk_X14_count : XT (Instr × Nat) := [(10, [(0, .aload_n 0, 1), (1, .iconst 0, 1), (2, .putfield 134, 3), (5, .aload_n 0, 1), (6, .iload_n 1, 1), (7, .iconst 0, 1), (8, .bipush 7, 2)]),
  (23, [(10, .invokestatic 158, 3), (13, .iconst 1, 1), (14, .invokevirtual 180, 3), (17, .ifCond .eq 5, 3), (20, .iconst 0, 1), (21, .ireturn, 1), (22, .iload_n 1, 1)]),
  (72, [(23, .tableswitch 90 0 6 #[41, 48, 55, 62, 67, 76, 83], 41), (64, .aload_n 0, 1), (65, .getfield 9, 3), (68, .iconst 0, 1), (69, .iaload, 1), (70, .ireturn, 1), (71, .aload_n 0, 1)]),
  (83, [(72, .getfield 9, 3), (75, .iconst 4, 1), (76, .iaload, 1), (77, .ireturn, 1), (78, .aload_n 0, 1), (79, .getfield 9, 3), (82, .iconst 3, 1)]),
  (94, [(83, .iaload, 1), (84, .ireturn, 1), (85, .aload_n 0, 1), (86, .invokevirtual 510, 3), (89, .ireturn, 1), (90, .aload_n 0, 1), (91, .invokevirtual 386, 3)]),
  (106, [(94, .aload_n 0, 1), (95, .getfield 330, 3), (98, .ireturn, 1), (99, .aload_n 0, 1), (100, .bipush 47, 2), (102, .invokevirtual 312, 3), (105, .ireturn, 1)]),
  (117, [(106, .aload_n 0, 1), (107, .getfield 9, 3), (110, .iconst 2, 1), (111, .iaload, 1), (112, .ireturn, 1), (113, .aload_n 0, 1), (114, .getfield 146, 3)]),
  (100000, [(117, .ireturn, 1)])]
set_option maxRecDepth 100000 in
theorem xd_X14_count : xchk cX14_count xk_X14_count = true := xchk_of (by decide +kernel)
set_option maxRecDepth 100000 in
def xk_X14_differences : XT (Instr × Nat) := [(4, [(0, .iconst 0, 1), (1, .istore_n 2, 1), (2, .iconst 0, 1), (3, .istore_n 3, 1)]),
  (11, [(4, .iload_n 3, 1), (5, .bipush 12, 2), (7, .if_icmp .ge 26, 3), (10, .iload_n 2, 1)]),
  (15, [(11, .aload_n 0, 1), (12, .iload_n 3, 1), (13, .iaload, 1), (14, .aload_n 1, 1)]),
  (21, [(15, .iload_n 3, 1), (16, .iaload, 1), (17, .if_icmp .ne 7, 3), (20, .iconst 0, 1)]),
  (27, [(21, .goto 4, 3), (24, .iconst 1, 1), (25, .iadd, 1), (26, .istore_n 2, 1)]),
  (100000, [(27, .iinc 3 1, 3), (30, .goto (-26), 3), (33, .iload_n 2, 1), (34, .ireturn, 1)])]
set_option maxRecDepth 100000 in
theorem xd_X14_differences : xchk cX14_differences xk_X14_differences = true := xchk_of (by decide +kernel)
set_option maxRecDepth 100000 in
def xk_X14_entrySet : XT (Instr × Nat) := [(8, [(0, .aload_n 0, 1), (1, .sipush 805, 3), (4, .aload_n 0, 1), (5, .getfield 9, 3)]),
  (14, [(8, .iconst 1, 1), (9, .iaload, 1), (10, .sipush 291, 3), (13, .imul, 1)]),
  (19, [(14, .iadd, 1), (15, .bipush 48, 2), (17, .iadd, 1), (18, .iload_n 1, 1)]),
  (25, [(19, .bipush 20, 2), (21, .irem, 1), (22, .bipush 12, 2), (24, .imul, 1)]),
  (100000, [(25, .iadd, 1), (26, .invokevirtual 286, 3), (29, .areturn, 1)])]
set_option maxRecDepth 100000 in
theorem xd_X14_entrySet : xchk cX14_entrySet xk_X14_entrySet = true := xchk_of (by decide +kernel)
set_option maxRecDepth 100000 in
def xk_X14_errorPosition : XT (Instr × Nat) := [(6, [(0, .aload_n 0, 1), (1, .iconst 0, 1), (2, .putfield 134, 3), (5, .aload_n 0, 1)]),
  (100000, [(6, .getfield 25, 3), (9, .ireturn, 1)])]
set_option maxRecDepth 100000 in
theorem xd_X14_errorPosition : xchk cX14_errorPosition xk_X14_errorPosition = true := xchk_of (by decide +kernel)
set_option maxRecDepth 100000 in
def xk_X14_errors : XT (Instr × Nat) := [(12, [(0, .aload_n 0, 1), (1, .iconst 0, 1), (2, .putfield 134, 3), (5, .aload_n 0, 1), (6, .iconst 0, 1), (7, .invokevirtual 407, 3), (10, .astore_n 1, 1), (11, .aload_n 0, 1)]),
  (24, [(12, .iconst 1, 1), (13, .invokevirtual 407, 3), (16, .astore_n 2, 1), (17, .aload_n 0, 1), (18, .aload_n 1, 1), (19, .aload_n 2, 1), (20, .invokevirtual 450, 3), (23, .istore_n 3, 1)]),
  (38, [(24, .iload_n 3, 1), (25, .iconst (-1), 1), (26, .if_icmp .eq 28, 3), (29, .iload_n 3, 1), (30, .ifCond .ne 7, 3), (33, .iconst 1, 1), (34, .goto 4, 3), (37, .iconst 0, 1)]),
  (54, [(38, .aload_n 1, 1), (39, .ifnull 7, 3), (42, .iconst 1, 1), (43, .goto 4, 3), (46, .iconst 0, 1), (47, .if_icmp .ne 7, 3), (50, .iconst 1, 1), (51, .goto 4, 3)]),
  (68, [(54, .iconst 0, 1), (55, .istore 4, 2), (57, .aload_n 1, 1), (58, .ifnull 56, 3), (61, .iload 4, 2), (63, .aload_n 0, 1), (64, .aload_n 1, 1), (65, .invokevirtual 439, 3)]),
  (84, [(68, .ifCond .eq 14, 3), (71, .aload_n 0, 1), (72, .getfield 429, 3), (75, .ifCond .ne 7, 3), (78, .iconst 0, 1), (79, .goto 4, 3), (82, .iconst 1, 1), (83, .iadd, 1)]),
  (100, [(84, .istore 4, 2), (86, .iload 4, 2), (88, .aload_n 0, 1), (89, .aload_n 2, 1), (90, .invokevirtual 439, 3), (93, .ifCond .eq 14, 3), (96, .aload_n 0, 1), (97, .getfield 432, 3)]),
  (114, [(100, .ifCond .ne 7, 3), (103, .iconst 0, 1), (104, .goto 4, 3), (107, .iconst 1, 1), (108, .iadd, 1), (109, .istore 4, 2), (111, .iload 4, 2), (113, .ireturn, 1)]),
  (100000, [(114, .iload 4, 2), (116, .aload_n 0, 1), (117, .invokevirtual 595, 3), (120, .iadd, 1), (121, .aload_n 0, 1), (122, .invokevirtual 598, 3), (125, .iadd, 1), (126, .ireturn, 1)])]
set_option maxRecDepth 100000 in
theorem xd_X14_errors : xchk cX14_errors xk_X14_errors = true := xchk_of (by decide +kernel)
set_option maxRecDepth 100000 in
def xk_X14_fails : XT (Instr × Nat) := [(8, [(0, .aload_n 0, 1), (1, .iconst 0, 1), (2, .putfield 134, 3), (5, .aload_n 0, 1), (6, .aload_n 0, 1), (7, .iload_n 1, 1)]),
  (20, [(8, .iload_n 2, 1), (9, .invokevirtual 493, 3), (12, .iconst 1, 1), (13, .invokevirtual 180, 3), (16, .ifCond .eq 5, 3), (19, .iconst 0, 1)]),
  (28, [(20, .ireturn, 1), (21, .aload_n 0, 1), (22, .invokevirtual 411, 3), (25, .aload_n 0, 1), (26, .iload_n 1, 1), (27, .iload_n 2, 1)]),
  (40, [(28, .invokevirtual 290, 3), (31, .istore 4, 2), (33, .aload_n 0, 1), (34, .iload 4, 2), (36, .iconst 5, 1), (37, .invokevirtual 163, 3)]),
  (51, [(40, .iconst 1, 1), (41, .if_icmp .ne 7, 3), (44, .iconst 1, 1), (45, .goto 4, 3), (48, .iconst 0, 1), (49, .istore 5, 2)]),
  (60, [(51, .aload_n 0, 1), (52, .iload 4, 2), (54, .iconst 5, 1), (55, .iload_n 3, 1), (56, .ifCond .eq 7, 3), (59, .iconst 1, 1)]),
  (100000, [(60, .goto 4, 3), (63, .iconst 0, 1), (64, .invokevirtual 489, 3), (67, .iload 5, 2), (69, .ireturn, 1)])]
set_option maxRecDepth 100000 in
theorem xd_X14_fails : xchk cX14_fails xk_X14_fails = true := xchk_of (by decide +kernel)
set_option maxRecDepth 100000 in
def xk_X14_failure : XT (Instr × Nat) := [(6, [(0, .aload_n 0, 1), (1, .iconst 0, 1), (2, .putfield 134, 3), (5, .aload_n 0, 1)]),
  (12, [(6, .iload_n 1, 1), (7, .iconst 0, 1), (8, .iconst 2, 1), (9, .invokestatic 158, 3)]),
  (20, [(12, .iconst 1, 1), (13, .invokevirtual 180, 3), (16, .ifCond .eq 7, 3), (19, .iconst 0, 1)]),
  (28, [(20, .goto 12, 3), (23, .aload_n 0, 1), (24, .sipush 288, 3), (27, .iload_n 1, 1)]),
  (100000, [(28, .iadd, 1), (29, .invokevirtual 312, 3), (32, .ireturn, 1)])]
set_option maxRecDepth 100000 in
theorem xd_X14_failure : xchk cX14_failure xk_X14_failure = true := xchk_of (by decide +kernel)
set_option maxRecDepth 100000 in
def xk_X14_far : XT (Instr × Nat) := [(6, [(0, .aload_n 0, 1), (1, .iconst 0, 1), (2, .putfield 134, 3), (5, .aload_n 0, 1)]),
  (12, [(6, .aload_n 0, 1), (7, .iload_n 1, 1), (8, .invokevirtual 200, 3), (11, .iconst 1, 1)]),
  (20, [(12, .invokevirtual 180, 3), (15, .ifCond .eq 5, 3), (18, .iconst 0, 1), (19, .ireturn, 1)]),
  (28, [(20, .aload_n 0, 1), (21, .aload_n 0, 1), (22, .invokevirtual 523, 3), (25, .invokevirtual 530, 3)]),
  (34, [(28, .aload_n 0, 1), (29, .getfield 121, 3), (32, .iload_n 1, 1), (33, .iaload, 1)]),
  (100000, [(34, .ireturn, 1)])]
set_option maxRecDepth 100000 in
theorem xd_X14_far : xchk cX14_far xk_X14_far = true := xchk_of (by decide +kernel)
set_option maxRecDepth 100000 in
def xk_X14_fetchAt_0 : List (Nat × Instr × Nat) := [(0, .aload_n 0, 1), (1, .iconst 0, 1), (2, .putfield 134, 3), (5, .aload_n 0, 1), (6, .invokevirtual 523, 3), (9, .astore_n 3, 1), (10, .aload_n 0, 1), (11, .aload_n 3, 1), (12, .invokevirtual 554, 3)]
set_option maxRecDepth 100000 in
theorem xd_X14_fetchAt_0 : xchk1 cX14_fetchAt xk_X14_fetchAt_0 = true := xwalk_of 0 (by decide +kernel)
set_option maxRecDepth 100000 in
def xk_X14_fetchAt_1 : List (Nat × Instr × Nat) := [(15, .aload_n 0, 1), (16, .aload_n 0, 1), (17, .getfield 545, 3), (20, .ifCond .lt 7, 3), (23, .iconst 1, 1), (24, .goto 4, 3), (27, .iconst 0, 1), (28, .iconst 1, 1), (29, .invokevirtual 180, 3)]
set_option maxRecDepth 100000 in
theorem xd_X14_fetchAt_1 : xchk1 cX14_fetchAt xk_X14_fetchAt_1 = true := xwalk_of 15 (by decide +kernel)
set_option maxRecDepth 100000 in
def xk_X14_fetchAt_2 : List (Nat × Instr × Nat) := [(32, .ifCond .eq 5, 3), (35, .iconst 0, 1), (36, .ireturn, 1), (37, .aload_n 0, 1), (38, .aload_n 3, 1), (39, .aload_n 0, 1), (40, .invokevirtual 344, 3), (43, .invokevirtual 560, 3), (46, .astore 4, 2)]
set_option maxRecDepth 100000 in
theorem xd_X14_fetchAt_2 : xchk1 cX14_fetchAt xk_X14_fetchAt_2 = true := xwalk_of 32 (by decide +kernel)
set_option maxRecDepth 100000 in
def xk_X14_fetchAt_3 : List (Nat × Instr × Nat) := [(48, .aload_n 0, 1), (49, .iload_n 1, 1), (50, .iconst 0, 1), (51, .aload 4, 2), (53, .arraylength, 1), (54, .iconst 1, 1), (55, .isub, 1), (56, .invokestatic 158, 3), (59, .iconst 2, 1)]
set_option maxRecDepth 100000 in
theorem xd_X14_fetchAt_3 : xchk1 cX14_fetchAt xk_X14_fetchAt_3 = true := xwalk_of 48 (by decide +kernel)
set_option maxRecDepth 100000 in
def xk_X14_fetchAt_4 : List (Nat × Instr × Nat) := [(60, .invokevirtual 180, 3), (63, .ifCond .eq 5, 3), (66, .iconst 0, 1), (67, .ireturn, 1), (68, .iload_n 2, 1), (69, .ifCond .ne 8, 3), (72, .aload 4, 2), (74, .iload_n 1, 1), (75, .iaload, 1)]
set_option maxRecDepth 100000 in
theorem xd_X14_fetchAt_4 : xchk1 cX14_fetchAt xk_X14_fetchAt_4 = true := xwalk_of 60 (by decide +kernel)
set_option maxRecDepth 100000 in
def xk_X14_fetchAt_5 : List (Nat × Instr × Nat) := [(76, .ireturn, 1), (77, .aload_n 0, 1), (78, .getfield 9, 3), (81, .iconst 2, 1), (82, .iaload, 1), (83, .istore 5, 2), (85, .iconst (-1), 1), (86, .istore 6, 2), (88, .iconst 0, 1)]
set_option maxRecDepth 100000 in
theorem xd_X14_fetchAt_5 : xchk1 cX14_fetchAt xk_X14_fetchAt_5 = true := xwalk_of 76 (by decide +kernel)
set_option maxRecDepth 100000 in
def xk_X14_fetchAt_6 : List (Nat × Instr × Nat) := [(89, .istore 7, 2), (91, .iload 7, 2), (93, .iload_n 1, 1), (94, .if_icmp .gt 44, 3), (97, .aload_n 0, 1), (98, .aload_n 0, 1), (99, .aload_n 3, 1), (100, .aload 4, 2), (102, .iload 7, 2)]
set_option maxRecDepth 100000 in
theorem xd_X14_fetchAt_6 : xchk1 cX14_fetchAt xk_X14_fetchAt_6 = true := xwalk_of 89 (by decide +kernel)
set_option maxRecDepth 100000 in
def xk_X14_fetchAt_7 : List (Nat × Instr × Nat) := [(104, .iaload, 1), (105, .invokevirtual 297, 3), (108, .iload 5, 2), (110, .iconst 0, 1), (111, .invokevirtual 564, 3), (114, .istore 6, 2), (116, .iload 5, 2), (118, .iload 6, 2), (120, .iconst (-1), 1)]
set_option maxRecDepth 100000 in
theorem xd_X14_fetchAt_7 : xchk1 cX14_fetchAt xk_X14_fetchAt_7 = true := xwalk_of 104 (by decide +kernel)
set_option maxRecDepth 100000 in
def xk_X14_fetchAt_8 : List (Nat × Instr × Nat) := [(121, .if_icmp .ne 7, 3), (124, .iconst 0, 1), (125, .goto 4, 3), (128, .iconst 1, 1), (129, .iadd, 1), (130, .istore 5, 2), (132, .iinc 7 1, 3), (135, .goto (-44), 3), (138, .iload 6, 2)]
set_option maxRecDepth 100000 in
theorem xd_X14_fetchAt_8 : xchk1 cX14_fetchAt xk_X14_fetchAt_8 = true := xwalk_of 121 (by decide +kernel)
set_option maxRecDepth 100000 in
def xk_X14_fetchAt_9 : List (Nat × Instr × Nat) := [(140, .ireturn, 1)]
set_option maxRecDepth 100000 in
theorem xd_X14_fetchAt_9 : xchk1 cX14_fetchAt xk_X14_fetchAt_9 = true := xwalk_of 140 (by decide +kernel)
set_option maxRecDepth 100000 in
def xk_X14_fetchAt : XT (Instr × Nat) := [(15, xk_X14_fetchAt_0),
  (32, xk_X14_fetchAt_1),
  (48, xk_X14_fetchAt_2),
  (60, xk_X14_fetchAt_3),
  (76, xk_X14_fetchAt_4),
  (89, xk_X14_fetchAt_5),
  (104, xk_X14_fetchAt_6),
  (121, xk_X14_fetchAt_7),
  (140, xk_X14_fetchAt_8),
  (100000, xk_X14_fetchAt_9)]
set_option maxRecDepth 100000 in
theorem xd_X14_fetchAt : xchk cX14_fetchAt xk_X14_fetchAt = true := (xchk_cons xd_X14_fetchAt_0 (xchk_cons xd_X14_fetchAt_1 (xchk_cons xd_X14_fetchAt_2 (xchk_cons xd_X14_fetchAt_3 (xchk_cons xd_X14_fetchAt_4 (xchk_cons xd_X14_fetchAt_5 (xchk_cons xd_X14_fetchAt_6 (xchk_cons xd_X14_fetchAt_7 (xchk_cons xd_X14_fetchAt_8 (xchk_cons xd_X14_fetchAt_9 xchk_nil))))))))))
set_option maxRecDepth 100000 in
def xk_X14_fetches : XT (Instr × Nat) := [(6, [(0, .aload_n 0, 1), (1, .iconst 0, 1), (2, .putfield 134, 3), (5, .aload_n 0, 1)]),
  (12, [(6, .invokevirtual 523, 3), (9, .astore_n 1, 1), (10, .aload_n 0, 1), (11, .aload_n 1, 1)]),
  (22, [(12, .invokevirtual 554, 3), (15, .aload_n 0, 1), (16, .getfield 545, 3), (19, .ifCond .ge 7, 3)]),
  (28, [(22, .iconst (-1), 1), (23, .goto 13, 3), (26, .aload_n 0, 1), (27, .aload_n 1, 1)]),
  (36, [(28, .aload_n 0, 1), (29, .invokevirtual 344, 3), (32, .invokevirtual 560, 3), (35, .arraylength, 1)]),
  (100000, [(36, .ireturn, 1)])]
set_option maxRecDepth 100000 in
theorem xd_X14_fetches : xchk cX14_fetches xk_X14_fetches = true := xchk_of (by decide +kernel)
set_option maxRecDepth 100000 in
def xk_X14_findCore_0 : List (Nat × Instr × Nat) := [(0, .aload_n 0, 1), (1, .getfield 85, 3), (4, .aload_n 0, 1), (5, .getfield 155, 3), (8, .if_icmp .ne 4, 3), (11, .return_, 1), (12, .aload_n 0, 1), (13, .aload_n 0, 1), (14, .getfield 155, 3), (17, .putfield 85, 3)]
set_option maxRecDepth 100000 in
theorem xd_X14_findCore_0 : xchk1 cX14_findCore xk_X14_findCore_0 = true := xwalk_of 0 (by decide +kernel)
set_option maxRecDepth 100000 in
def xk_X14_findCore_1 : List (Nat × Instr × Nat) := [(20, .aload_n 0, 1), (21, .iconst 0, 1), (22, .newarray .int, 2), (24, .putfield 88, 3), (27, .aload_n 0, 1), (28, .invokevirtual 401, 3), (31, .ifCond .eq 4, 3), (34, .return_, 1), (35, .aload_n 0, 1), (36, .getfield 65, 3)]
set_option maxRecDepth 100000 in
theorem xd_X14_findCore_1 : xchk1 cX14_findCore xk_X14_findCore_1 = true := xwalk_of 20 (by decide +kernel)
set_option maxRecDepth 100000 in
def xk_X14_findCore_2 : List (Nat × Instr × Nat) := [(39, .arraylength, 1), (40, .aload_n 0, 1), (41, .getfield 330, 3), (44, .if_icmp .ge 14, 3), (47, .aload_n 0, 1), (48, .aload_n 0, 1), (49, .getfield 46, 3), (52, .arraylength, 1), (53, .newarray .boolean, 2), (55, .putfield 65, 3)]
set_option maxRecDepth 100000 in
theorem xd_X14_findCore_2 : xchk1 cX14_findCore xk_X14_findCore_2 = true := xwalk_of 39 (by decide +kernel)
set_option maxRecDepth 100000 in
def xk_X14_findCore_3 : List (Nat × Instr × Nat) := [(58, .iconst 0, 1), (59, .istore_n 1, 1), (60, .iload_n 1, 1), (61, .aload_n 0, 1), (62, .getfield 330, 3), (65, .if_icmp .ge 16, 3), (68, .aload_n 0, 1), (69, .getfield 65, 3), (72, .iload_n 1, 1), (73, .iconst 1, 1)]
set_option maxRecDepth 100000 in
theorem xd_X14_findCore_3 : xchk1 cX14_findCore xk_X14_findCore_3 = true := xwalk_of 58 (by decide +kernel)
set_option maxRecDepth 100000 in
def xk_X14_findCore_4 : List (Nat × Instr × Nat) := [(74, .bastore, 1), (75, .iinc 1 1, 3), (78, .goto (-18), 3), (81, .aload_n 0, 1), (82, .iconst 0, 1), (83, .putfield 69, 3), (86, .aload_n 0, 1), (87, .getfield 330, 3), (90, .istore_n 1, 1), (91, .aload_n 0, 1)]
set_option maxRecDepth 100000 in
theorem xd_X14_findCore_4 : xchk1 cX14_findCore xk_X14_findCore_4 = true := xwalk_of 74 (by decide +kernel)
set_option maxRecDepth 100000 in
def xk_X14_findCore_5 : List (Nat × Instr × Nat) := [(92, .getfield 330, 3), (95, .iconst 1, 1), (96, .isub, 1), (97, .istore_n 2, 1), (98, .iload_n 2, 1), (99, .ifCond .lt 38, 3), (102, .aload_n 0, 1), (103, .getfield 65, 3), (106, .iload_n 2, 1), (107, .iconst 0, 1)]
set_option maxRecDepth 100000 in
theorem xd_X14_findCore_5 : xchk1 cX14_findCore xk_X14_findCore_5 = true := xwalk_of 92 (by decide +kernel)
set_option maxRecDepth 100000 in
def xk_X14_findCore_6 : List (Nat × Instr × Nat) := [(108, .bastore, 1), (109, .aload_n 0, 1), (110, .lconst 0, 1), (111, .lconst 0, 1), (112, .invokevirtual 382, 3), (115, .ifCond .eq 13, 3), (118, .aload_n 0, 1), (119, .getfield 65, 3), (122, .iload_n 2, 1), (123, .iconst 1, 1)]
set_option maxRecDepth 100000 in
theorem xd_X14_findCore_6 : xchk1 cX14_findCore xk_X14_findCore_6 = true := xwalk_of 108 (by decide +kernel)
set_option maxRecDepth 100000 in
def xk_X14_findCore_7 : List (Nat × Instr × Nat) := [(124, .bastore, 1), (125, .goto 6, 3), (128, .iinc 1 (-1), 3), (131, .iinc 2 (-1), 3), (134, .goto (-36), 3), (137, .aload_n 0, 1), (138, .iconst 1, 1), (139, .putfield 69, 3), (142, .aload_n 0, 1), (143, .iload_n 1, 1)]
set_option maxRecDepth 100000 in
theorem xd_X14_findCore_7 : xchk1 cX14_findCore xk_X14_findCore_7 = true := xwalk_of 124 (by decide +kernel)
set_option maxRecDepth 100000 in
def xk_X14_findCore_8 : List (Nat × Instr × Nat) := [(144, .newarray .int, 2), (146, .putfield 88, 3), (149, .iconst 0, 1), (150, .istore_n 2, 1), (151, .iconst 0, 1), (152, .istore_n 3, 1), (153, .iload_n 3, 1), (154, .aload_n 0, 1), (155, .getfield 330, 3), (158, .if_icmp .ge 28, 3)]
set_option maxRecDepth 100000 in
theorem xd_X14_findCore_8 : xchk1 cX14_findCore xk_X14_findCore_8 = true := xwalk_of 144 (by decide +kernel)
set_option maxRecDepth 100000 in
def xk_X14_findCore_9 : List (Nat × Instr × Nat) := [(161, .aload_n 0, 1), (162, .getfield 65, 3), (165, .iload_n 3, 1), (166, .baload, 1), (167, .ifCond .eq 13, 3), (170, .aload_n 0, 1), (171, .getfield 88, 3), (174, .iload_n 2, 1), (175, .iload_n 3, 1), (176, .iastore, 1)]
set_option maxRecDepth 100000 in
theorem xd_X14_findCore_9 : xchk1 cX14_findCore xk_X14_findCore_9 = true := xwalk_of 161 (by decide +kernel)
set_option maxRecDepth 100000 in
def xk_X14_findCore_10 : List (Nat × Instr × Nat) := [(177, .iinc 2 1, 3), (180, .iinc 3 1, 3), (183, .goto (-30), 3), (186, .return_, 1)]
set_option maxRecDepth 100000 in
theorem xd_X14_findCore_10 : xchk1 cX14_findCore xk_X14_findCore_10 = true := xwalk_of 177 (by decide +kernel)
set_option maxRecDepth 100000 in
def xk_X14_findCore : XT (Instr × Nat) := [(20, xk_X14_findCore_0),
  (39, xk_X14_findCore_1),
  (58, xk_X14_findCore_2),
  (74, xk_X14_findCore_3),
  (92, xk_X14_findCore_4),
  (108, xk_X14_findCore_5),
  (124, xk_X14_findCore_6),
  (144, xk_X14_findCore_7),
  (161, xk_X14_findCore_8),
  (177, xk_X14_findCore_9),
  (100000, xk_X14_findCore_10)]
set_option maxRecDepth 100000 in
theorem xd_X14_findCore : xchk cX14_findCore xk_X14_findCore = true := (xchk_cons xd_X14_findCore_0 (xchk_cons xd_X14_findCore_1 (xchk_cons xd_X14_findCore_2 (xchk_cons xd_X14_findCore_3 (xchk_cons xd_X14_findCore_4 (xchk_cons xd_X14_findCore_5 (xchk_cons xd_X14_findCore_6 (xchk_cons xd_X14_findCore_7 (xchk_cons xd_X14_findCore_8 (xchk_cons xd_X14_findCore_9 (xchk_cons xd_X14_findCore_10 xchk_nil)))))))))))
set_option maxRecDepth 100000 in
def xk_X14_findProof_0 : List (Nat × Instr × Nat) := [(0, .aload_n 0, 1), (1, .invokevirtual 456, 3), (4, .aload_n 0, 1), (5, .getfield 91, 3), (8, .aload_n 0, 1), (9, .getfield 155, 3), (12, .if_icmp .ne 4, 3), (15, .return_, 1), (16, .aload_n 0, 1), (17, .aload_n 0, 1), (18, .getfield 155, 3)]
set_option maxRecDepth 100000 in
theorem xd_X14_findProof_0 : xchk1 cX14_findProof xk_X14_findProof_0 = true := xwalk_of 0 (by decide +kernel)
set_option maxRecDepth 100000 in
def xk_X14_findProof_1 : List (Nat × Instr × Nat) := [(21, .putfield 91, 3), (24, .aload_n 0, 1), (25, .iconst 0, 1), (26, .putfield 459, 3), (29, .aload_n 0, 1), (30, .iconst 0, 1), (31, .putfield 466, 3), (34, .aload_n 0, 1), (35, .getfield 88, 3), (38, .arraylength, 1), (39, .ifCond .ne 4, 3)]
set_option maxRecDepth 100000 in
theorem xd_X14_findProof_1 : xchk1 cX14_findProof xk_X14_findProof_1 = true := xwalk_of 21 (by decide +kernel)
set_option maxRecDepth 100000 in
def xk_X14_findProof_2 : List (Nat × Instr × Nat) := [(42, .return_, 1), (43, .aload_n 0, 1), (44, .getfield 88, 3), (47, .arraylength, 1), (48, .sipush 200, 3), (51, .if_icmp .le 9, 3), (54, .aload_n 0, 1), (55, .iconst (-1), 1), (56, .putfield 459, 3), (59, .return_, 1), (60, .iconst 0, 1)]
set_option maxRecDepth 100000 in
theorem xd_X14_findProof_2 : xchk1 cX14_findProof xk_X14_findProof_2 = true := xwalk_of 42 (by decide +kernel)
set_option maxRecDepth 100000 in
def xk_X14_findProof_3 : List (Nat × Instr × Nat) := [(61, .istore_n 1, 1), (62, .aload_n 0, 1), (63, .getfield 88, 3), (66, .astore_n 2, 1), (67, .aload_n 2, 1), (68, .arraylength, 1), (69, .istore_n 3, 1), (70, .iconst 0, 1), (71, .istore 4, 2), (73, .iload 4, 2), (75, .iload_n 3, 1)]
set_option maxRecDepth 100000 in
theorem xd_X14_findProof_3 : xchk1 cX14_findProof xk_X14_findProof_3 = true := xwalk_of 61 (by decide +kernel)
set_option maxRecDepth 100000 in
def xk_X14_findProof_4 : List (Nat × Instr × Nat) := [(76, .if_icmp .ge 69, 3), (79, .aload_n 2, 1), (80, .iload 4, 2), (82, .iaload, 1), (83, .istore 5, 2), (85, .aload_n 0, 1), (86, .aload_n 0, 1), (87, .getfield 46, 3), (90, .iload 5, 2), (92, .laload, 1), (93, .aload_n 0, 1)]
set_option maxRecDepth 100000 in
theorem xd_X14_findProof_4 : xchk1 cX14_findProof xk_X14_findProof_4 = true := xwalk_of 76 (by decide +kernel)
set_option maxRecDepth 100000 in
def xk_X14_findProof_5 : List (Nat × Instr × Nat) := [(94, .getfield 50, 3), (97, .iload 5, 2), (99, .laload, 1), (100, .iconst (-1), 1), (101, .iconst (-1), 1), (102, .invokevirtual 473, 3), (105, .iload_n 1, 1), (106, .ifCond .ne 27, 3), (109, .aload_n 0, 1), (110, .getfield 46, 3), (113, .iload 5, 2)]
set_option maxRecDepth 100000 in
theorem xd_X14_findProof_5 : xchk1 cX14_findProof xk_X14_findProof_5 = true := xwalk_of 94 (by decide +kernel)
set_option maxRecDepth 100000 in
def xk_X14_findProof_6 : List (Nat × Instr × Nat) := [(115, .laload, 1), (116, .lconst 0, 1), (117, .lcmp, 1), (118, .ifCond .ne 19, 3), (121, .aload_n 0, 1), (122, .getfield 50, 3), (125, .iload 5, 2), (127, .laload, 1), (128, .lconst 0, 1), (129, .lcmp, 1), (130, .ifCond .ne 7, 3)]
set_option maxRecDepth 100000 in
theorem xd_X14_findProof_6 : xchk1 cX14_findProof xk_X14_findProof_6 = true := xwalk_of 115 (by decide +kernel)
set_option maxRecDepth 100000 in
def xk_X14_findProof_7 : List (Nat × Instr × Nat) := [(133, .iconst 1, 1), (134, .goto 4, 3), (137, .iconst 0, 1), (138, .istore_n 1, 1), (139, .iinc 4 1, 3), (142, .goto (-69), 3), (145, .iload_n 1, 1), (146, .ifCond .ne 88, 3), (149, .aload_n 0, 1), (150, .invokevirtual 477, 3), (153, .istore_n 2, 1)]
set_option maxRecDepth 100000 in
theorem xd_X14_findProof_7 : xchk1 cX14_findProof xk_X14_findProof_7 = true := xwalk_of 133 (by decide +kernel)
set_option maxRecDepth 100000 in
def xk_X14_findProof_8 : List (Nat × Instr × Nat) := [(154, .iload_n 2, 1), (155, .iconst (-1), 1), (156, .if_icmp .eq 13, 3), (159, .aload_n 0, 1), (160, .getfield 459, 3), (163, .sipush 200, 3), (166, .if_icmp .ne 9, 3), (169, .aload_n 0, 1), (170, .iconst (-1), 1), (171, .putfield 459, 3), (174, .return_, 1)]
set_option maxRecDepth 100000 in
theorem xd_X14_findProof_8 : xchk1 cX14_findProof xk_X14_findProof_8 = true := xwalk_of 154 (by decide +kernel)
set_option maxRecDepth 100000 in
def xk_X14_findProof_9 : List (Nat × Instr × Nat) := [(175, .aload_n 0, 1), (176, .getfield 106, 3), (179, .iload_n 2, 1), (180, .laload, 1), (181, .lconst 0, 1), (182, .lcmp, 1), (183, .ifCond .ne 18, 3), (186, .aload_n 0, 1), (187, .getfield 109, 3), (190, .iload_n 2, 1), (191, .laload, 1)]
set_option maxRecDepth 100000 in
theorem xd_X14_findProof_9 : xchk1 cX14_findProof xk_X14_findProof_9 = true := xwalk_of 175 (by decide +kernel)
set_option maxRecDepth 100000 in
def xk_X14_findProof_10 : List (Nat × Instr × Nat) := [(192, .lconst 0, 1), (193, .lcmp, 1), (194, .ifCond .ne 7, 3), (197, .iconst 1, 1), (198, .goto 4, 3), (201, .iconst 0, 1), (202, .istore_n 1, 1), (203, .aload_n 0, 1), (204, .aload_n 0, 1), (205, .getfield 106, 3), (208, .iload_n 2, 1)]
set_option maxRecDepth 100000 in
theorem xd_X14_findProof_10 : xchk1 cX14_findProof xk_X14_findProof_10 = true := xwalk_of 192 (by decide +kernel)
set_option maxRecDepth 100000 in
def xk_X14_findProof_11 : List (Nat × Instr × Nat) := [(209, .laload, 1), (210, .aload_n 0, 1), (211, .getfield 109, 3), (214, .iload_n 2, 1), (215, .laload, 1), (216, .aload_n 0, 1), (217, .getfield 112, 3), (220, .iload_n 2, 1), (221, .iaload, 1), (222, .aload_n 0, 1), (223, .getfield 115, 3)]
set_option maxRecDepth 100000 in
theorem xd_X14_findProof_11 : xchk1 cX14_findProof xk_X14_findProof_11 = true := xwalk_of 209 (by decide +kernel)
set_option maxRecDepth 100000 in
def xk_X14_findProof_12 : List (Nat × Instr × Nat) := [(226, .iload_n 2, 1), (227, .iaload, 1), (228, .invokevirtual 473, 3), (231, .goto (-86), 3), (234, .aload_n 0, 1), (235, .invokevirtual 480, 3), (238, .return_, 1)]
set_option maxRecDepth 100000 in
theorem xd_X14_findProof_12 : xchk1 cX14_findProof xk_X14_findProof_12 = true := xwalk_of 226 (by decide +kernel)
set_option maxRecDepth 100000 in
def xk_X14_findProof : XT (Instr × Nat) := [(21, xk_X14_findProof_0),
  (42, xk_X14_findProof_1),
  (61, xk_X14_findProof_2),
  (76, xk_X14_findProof_3),
  (94, xk_X14_findProof_4),
  (115, xk_X14_findProof_5),
  (133, xk_X14_findProof_6),
  (154, xk_X14_findProof_7),
  (175, xk_X14_findProof_8),
  (192, xk_X14_findProof_9),
  (209, xk_X14_findProof_10),
  (226, xk_X14_findProof_11),
  (100000, xk_X14_findProof_12)]
set_option maxRecDepth 100000 in
theorem xd_X14_findProof : xchk cX14_findProof xk_X14_findProof = true := (xchk_cons xd_X14_findProof_0 (xchk_cons xd_X14_findProof_1 (xchk_cons xd_X14_findProof_2 (xchk_cons xd_X14_findProof_3 (xchk_cons xd_X14_findProof_4 (xchk_cons xd_X14_findProof_5 (xchk_cons xd_X14_findProof_6 (xchk_cons xd_X14_findProof_7 (xchk_cons xd_X14_findProof_8 (xchk_cons xd_X14_findProof_9 (xchk_cons xd_X14_findProof_10 (xchk_cons xd_X14_findProof_11 (xchk_cons xd_X14_findProof_12 xchk_nil)))))))))))))
set_option maxRecDepth 100000 in
def xk_X14_findRing_0 : List (Nat × Instr × Nat) := [(0, .bipush 12, 2), (2, .newarray .int, 2), (4, .astore_n 1, 1), (5, .iconst 0, 1), (6, .istore_n 2, 1), (7, .iload_n 2, 1), (8, .bipush 12, 2), (10, .if_icmp .ge 266, 3), (13, .iconst 0, 1), (14, .istore_n 3, 1), (15, .iload_n 3, 1), (16, .bipush 12, 2)]
set_option maxRecDepth 100000 in
theorem xd_X14_findRing_0 : xchk1 cX14_findRing xk_X14_findRing_0 = true := xwalk_of 0 (by decide +kernel)
set_option maxRecDepth 100000 in
def xk_X14_findRing_1 : List (Nat × Instr × Nat) := [(18, .if_icmp .ge 23, 3), (21, .aload_n 1, 1), (22, .iload_n 3, 1), (23, .iload_n 3, 1), (24, .iload_n 2, 1), (25, .if_icmp .ne 7, 3), (28, .iconst 0, 1), (29, .goto 5, 3), (32, .bipush 24, 2), (34, .iastore, 1), (35, .iinc 3 1, 3), (38, .goto (-23), 3)]
set_option maxRecDepth 100000 in
theorem xd_X14_findRing_1 : xchk1 cX14_findRing xk_X14_findRing_1 = true := xwalk_of 18 (by decide +kernel)
set_option maxRecDepth 100000 in
def xk_X14_findRing_2 : List (Nat × Instr × Nat) := [(41, .iconst 0, 1), (42, .istore_n 3, 1), (43, .iload_n 3, 1), (44, .bipush 12, 2), (46, .if_icmp .ge 78, 3), (49, .iload_n 2, 1), (50, .iconst 1, 1), (51, .iadd, 1), (52, .istore 4, 2), (54, .iload 4, 2), (56, .bipush 12, 2), (58, .if_icmp .ge 60, 3)]
set_option maxRecDepth 100000 in
theorem xd_X14_findRing_2 : xchk1 cX14_findRing xk_X14_findRing_2 = true := xwalk_of 41 (by decide +kernel)
set_option maxRecDepth 100000 in
def xk_X14_findRing_3 : List (Nat × Instr × Nat) := [(61, .iload_n 2, 1), (62, .istore 5, 2), (64, .iload 5, 2), (66, .bipush 12, 2), (68, .if_icmp .ge 44, 3), (71, .aload_n 1, 1), (72, .iload 4, 2), (74, .aload_n 0, 1), (75, .iload 4, 2), (77, .iload 5, 2), (79, .invokevirtual 551, 3), (82, .ifCond .eq 19, 3)]
set_option maxRecDepth 100000 in
theorem xd_X14_findRing_3 : xchk1 cX14_findRing xk_X14_findRing_3 = true := xwalk_of 61 (by decide +kernel)
set_option maxRecDepth 100000 in
def xk_X14_findRing_4 : List (Nat × Instr × Nat) := [(85, .aload_n 1, 1), (86, .iload 4, 2), (88, .iaload, 1), (89, .aload_n 1, 1), (90, .iload 5, 2), (92, .iaload, 1), (93, .iconst 1, 1), (94, .iadd, 1), (95, .invokestatic 149, 3), (98, .goto 7, 3), (101, .aload_n 1, 1), (102, .iload 4, 2)]
set_option maxRecDepth 100000 in
theorem xd_X14_findRing_4 : xchk1 cX14_findRing xk_X14_findRing_4 = true := xwalk_of 85 (by decide +kernel)
set_option maxRecDepth 100000 in
def xk_X14_findRing_5 : List (Nat × Instr × Nat) := [(104, .iaload, 1), (105, .iastore, 1), (106, .iinc 5 1, 3), (109, .goto (-45), 3), (112, .iinc 4 1, 3), (115, .goto (-61), 3), (118, .iinc 3 1, 3), (121, .goto (-78), 3), (124, .bipush 24, 2), (126, .istore_n 3, 1), (127, .iload_n 2, 1), (128, .iconst 1, 1)]
set_option maxRecDepth 100000 in
theorem xd_X14_findRing_5 : xchk1 cX14_findRing xk_X14_findRing_5 = true := xwalk_of 104 (by decide +kernel)
set_option maxRecDepth 100000 in
def xk_X14_findRing_6 : List (Nat × Instr × Nat) := [(129, .iadd, 1), (130, .istore 4, 2), (132, .iload 4, 2), (134, .bipush 12, 2), (136, .if_icmp .ge 34, 3), (139, .aload_n 0, 1), (140, .iload_n 2, 1), (141, .iload 4, 2), (143, .invokevirtual 551, 3), (146, .ifCond .eq 16, 3), (149, .iload_n 3, 1), (150, .aload_n 1, 1)]
set_option maxRecDepth 100000 in
theorem xd_X14_findRing_6 : xchk1 cX14_findRing xk_X14_findRing_6 = true := xwalk_of 129 (by decide +kernel)
set_option maxRecDepth 100000 in
def xk_X14_findRing_7 : List (Nat × Instr × Nat) := [(151, .iload 4, 2), (153, .iaload, 1), (154, .iconst 1, 1), (155, .iadd, 1), (156, .invokestatic 149, 3), (159, .goto 4, 3), (162, .iload_n 3, 1), (163, .istore_n 3, 1), (164, .iinc 4 1, 3), (167, .goto (-35), 3), (170, .iload_n 3, 1), (171, .bipush 24, 2)]
set_option maxRecDepth 100000 in
theorem xd_X14_findRing_7 : xchk1 cX14_findRing xk_X14_findRing_7 = true := xwalk_of 151 (by decide +kernel)
set_option maxRecDepth 100000 in
def xk_X14_findRing_8 : List (Nat × Instr × Nat) := [(173, .if_icmp .lt 6, 3), (176, .goto 94, 3), (179, .iload_n 2, 1), (180, .istore 4, 2), (182, .iconst 0, 1), (183, .istore 5, 2), (185, .iload 5, 2), (187, .iload_n 3, 1), (188, .if_icmp .ge 75, 3), (191, .aload_n 0, 1), (192, .getfield 127, 3), (195, .iload 5, 2)]
set_option maxRecDepth 100000 in
theorem xd_X14_findRing_8 : xchk1 cX14_findRing xk_X14_findRing_8 = true := xwalk_of 173 (by decide +kernel)
set_option maxRecDepth 100000 in
def xk_X14_findRing_9 : List (Nat × Instr × Nat) := [(197, .iload 4, 2), (199, .iastore, 1), (200, .iload_n 2, 1), (201, .iconst 1, 1), (202, .iadd, 1), (203, .istore 6, 2), (205, .iload 6, 2), (207, .bipush 12, 2), (209, .if_icmp .ge 33, 3), (212, .aload_n 0, 1), (213, .iload 4, 2), (215, .iload 6, 2)]
set_option maxRecDepth 100000 in
theorem xd_X14_findRing_9 : xchk1 cX14_findRing xk_X14_findRing_9 = true := xwalk_of 197 (by decide +kernel)
set_option maxRecDepth 100000 in
def xk_X14_findRing_10 : List (Nat × Instr × Nat) := [(217, .invokevirtual 551, 3), (220, .ifCond .eq 16, 3), (223, .aload_n 1, 1), (224, .iload 6, 2), (226, .iaload, 1), (227, .iload_n 3, 1), (228, .iload 5, 2), (230, .isub, 1), (231, .iconst 1, 1), (232, .isub, 1), (233, .if_icmp .eq 9, 3), (236, .iinc 6 1, 3)]
set_option maxRecDepth 100000 in
theorem xd_X14_findRing_10 : xchk1 cX14_findRing xk_X14_findRing_10 = true := xwalk_of 217 (by decide +kernel)
set_option maxRecDepth 100000 in
def xk_X14_findRing_11 : List (Nat × Instr × Nat) := [(239, .goto (-34), 3), (242, .iload 6, 2), (244, .bipush 12, 2), (246, .if_icmp .ne 7, 3), (249, .iload_n 2, 1), (250, .goto 5, 3), (253, .iload 6, 2), (255, .istore 4, 2), (257, .iinc 5 1, 3), (260, .goto (-75), 3), (263, .aload_n 0, 1), (264, .iload_n 3, 1)]
set_option maxRecDepth 100000 in
theorem xd_X14_findRing_11 : xchk1 cX14_findRing xk_X14_findRing_11 = true := xwalk_of 239 (by decide +kernel)
set_option maxRecDepth 100000 in
def xk_X14_findRing_12 : List (Nat × Instr × Nat) := [(265, .ineg, 1), (266, .putfield 545, 3), (269, .return_, 1), (270, .iinc 2 1, 3), (273, .goto (-266), 3), (276, .return_, 1)]
set_option maxRecDepth 100000 in
theorem xd_X14_findRing_12 : xchk1 cX14_findRing xk_X14_findRing_12 = true := xwalk_of 265 (by decide +kernel)
set_option maxRecDepth 100000 in
def xk_X14_findRing : XT (Instr × Nat) := [(18, xk_X14_findRing_0),
  (41, xk_X14_findRing_1),
  (61, xk_X14_findRing_2),
  (85, xk_X14_findRing_3),
  (104, xk_X14_findRing_4),
  (129, xk_X14_findRing_5),
  (151, xk_X14_findRing_6),
  (173, xk_X14_findRing_7),
  (197, xk_X14_findRing_8),
  (217, xk_X14_findRing_9),
  (239, xk_X14_findRing_10),
  (265, xk_X14_findRing_11),
  (100000, xk_X14_findRing_12)]
set_option maxRecDepth 100000 in
theorem xd_X14_findRing : xchk cX14_findRing xk_X14_findRing = true := (xchk_cons xd_X14_findRing_0 (xchk_cons xd_X14_findRing_1 (xchk_cons xd_X14_findRing_2 (xchk_cons xd_X14_findRing_3 (xchk_cons xd_X14_findRing_4 (xchk_cons xd_X14_findRing_5 (xchk_cons xd_X14_findRing_6 (xchk_cons xd_X14_findRing_7 (xchk_cons xd_X14_findRing_8 (xchk_cons xd_X14_findRing_9 (xchk_cons xd_X14_findRing_10 (xchk_cons xd_X14_findRing_11 (xchk_cons xd_X14_findRing_12 xchk_nil)))))))))))))
