/-! printed by gen_tab.py: code tables -/
set_option maxRecDepth 100000 in
def xk_L_inRange : XT (Instr × Nat) := [(4, [(0, .aload_n 2, 1), (1, .iconst 0, 1), (2, .aload_n 0, 1), (3, .iload_n 1, 1)]),
  (12, [(4, .invokevirtual 51, 3), (7, .i2l, 1), (8, .lastore, 1), (9, .goto 9, 3)]),
  (16, [(12, .astore_n 3, 1), (13, .iconst 1, 1), (14, .ireturn, 1), (15, .astore_n 3, 1)]),
  (100000, [(16, .iconst 2, 1), (17, .ireturn, 1), (18, .iconst 0, 1), (19, .ireturn, 1)])]
set_option maxRecDepth 100000 in
theorem xd_L_inRange : xchk cL_inRange xk_L_inRange = true := xchk_of (by decide +kernel)
set_option maxRecDepth 100000 in
def xk_L_install : XT (Instr × Nat) := [(6, [(0, .aload_n 1, 1), (1, .iconst 0, 1), (2, .aload_n 0, 1), (3, .invokevirtual 130, 3)]),
  (12, [(6, .i2l, 1), (7, .lastore, 1), (8, .goto 6, 3), (11, .astore_n 2, 1)]),
  (100000, [(12, .iconst 1, 1), (13, .ireturn, 1), (14, .iconst 0, 1), (15, .ireturn, 1)])]
set_option maxRecDepth 100000 in
theorem xd_L_install : xchk cL_install xk_L_install = true := xchk_of (by decide +kernel)
set_option maxRecDepth 100000 in
def xk_L_installed : XT (Instr × Nat) := [(4, [(0, .aload_n 2, 1), (1, .iconst 0, 1), (2, .aload_n 0, 1), (3, .iload_n 1, 1)]),
  (12, [(4, .invokevirtual 136, 3), (7, .i2l, 1), (8, .lastore, 1), (9, .goto 6, 3)]),
  (16, [(12, .astore_n 3, 1), (13, .iconst 1, 1), (14, .ireturn, 1), (15, .iconst 0, 1)]),
  (100000, [(16, .ireturn, 1)])]
set_option maxRecDepth 100000 in
theorem xd_L_installed : xchk cL_installed xk_L_installed = true := xchk_of (by decide +kernel)
set_option maxRecDepth 100000 in
def xk_L_isOn : XT (Instr × Nat) := [(4, [(0, .aload_n 2, 1), (1, .iconst 0, 1), (2, .aload_n 0, 1), (3, .iload_n 1, 1)]),
  (14, [(4, .invokevirtual 76, 3), (7, .ifCond .eq 7, 3), (10, .lconst 1, 1), (11, .goto 4, 3)]),
  (20, [(14, .lconst 0, 1), (15, .lastore, 1), (16, .goto 6, 3), (19, .astore_n 3, 1)]),
  (100000, [(20, .iconst 1, 1), (21, .ireturn, 1), (22, .iconst 0, 1), (23, .ireturn, 1)])]
set_option maxRecDepth 100000 in
theorem xd_L_isOn : xchk cL_isOn xk_L_isOn = true := xchk_of (by decide +kernel)
set_option maxRecDepth 100000 in
def xk_L_literalAt : XT (Instr × Nat) := [(4, [(0, .aload_n 3, 1), (1, .iconst 0, 1), (2, .aload_n 0, 1), (3, .iload_n 1, 1)]),
  (10, [(4, .iload_n 2, 1), (5, .invokevirtual 95, 3), (8, .i2l, 1), (9, .lastore, 1)]),
  (17, [(10, .goto 7, 3), (13, .astore 4, 2), (15, .iconst 1, 1), (16, .ireturn, 1)]),
  (100000, [(17, .iconst 0, 1), (18, .ireturn, 1)])]
set_option maxRecDepth 100000 in
theorem xd_L_literalAt : xchk cL_literalAt xk_L_literalAt = true := xchk_of (by decide +kernel)
set_option maxRecDepth 100000 in
def xk_L_lock : XT (Instr × Nat) := [(4, [(0, .aload_n 2, 1), (1, .iconst 0, 1), (2, .aload_n 0, 1), (3, .iload_n 1, 1)]),
  (12, [(4, .invokevirtual 98, 3), (7, .i2l, 1), (8, .lastore, 1), (9, .goto 6, 3)]),
  (16, [(12, .astore_n 3, 1), (13, .iconst 1, 1), (14, .ireturn, 1), (15, .iconst 0, 1)]),
  (100000, [(16, .ireturn, 1)])]
set_option maxRecDepth 100000 in
theorem xd_L_lock : xchk cL_lock xk_L_lock = true := xchk_of (by decide +kernel)
set_option maxRecDepth 100000 in
def xk_L_lockDiffers : XT (Instr × Nat) := [(4, [(0, .aload_n 3, 1), (1, .iconst 0, 1), (2, .aload_n 0, 1), (3, .iload_n 1, 1)]),
  (10, [(4, .iload_n 2, 1), (5, .invokevirtual 101, 3), (8, .i2l, 1), (9, .lastore, 1)]),
  (17, [(10, .goto 7, 3), (13, .astore 4, 2), (15, .iconst 1, 1), (16, .ireturn, 1)]),
  (100000, [(17, .iconst 0, 1), (18, .ireturn, 1)])]
set_option maxRecDepth 100000 in
theorem xd_L_lockDiffers : xchk cL_lockDiffers xk_L_lockDiffers = true := xchk_of (by decide +kernel)
set_option maxRecDepth 100000 in
def xk_L_mergeLocks : XT (Instr × Nat) := [(4, [(0, .aload_n 3, 1), (1, .iconst 0, 1), (2, .aload_n 0, 1), (3, .iload_n 1, 1)]),
  (10, [(4, .iload_n 2, 1), (5, .invokevirtual 104, 3), (8, .i2l, 1), (9, .lastore, 1)]),
  (17, [(10, .goto 7, 3), (13, .astore 4, 2), (15, .iconst 1, 1), (16, .ireturn, 1)]),
  (100000, [(17, .iconst 0, 1), (18, .ireturn, 1)])]
set_option maxRecDepth 100000 in
theorem xd_L_mergeLocks : xchk cL_mergeLocks xk_L_mergeLocks = true := xchk_of (by decide +kernel)
set_option maxRecDepth 100000 in
def xk_L_mirror : XT (Instr × Nat) := [(6, [(0, .aload_n 1, 1), (1, .iconst 0, 1), (2, .aload_n 0, 1), (3, .invokevirtual 110, 3)]),
  (12, [(6, .i2l, 1), (7, .lastore, 1), (8, .goto 6, 3), (11, .astore_n 2, 1)]),
  (100000, [(12, .iconst 1, 1), (13, .ireturn, 1), (14, .iconst 0, 1), (15, .ireturn, 1)])]
set_option maxRecDepth 100000 in
theorem xd_L_mirror : xchk cL_mirror xk_L_mirror = true := xchk_of (by decide +kernel)
set_option maxRecDepth 100000 in
def xk_L_must : XT (Instr × Nat) := [(4, [(0, .aload_n 3, 1), (1, .iconst 0, 1), (2, .aload_n 0, 1), (3, .iload_n 1, 1)]),
  (10, [(4, .iload_n 2, 1), (5, .invokevirtual 80, 3), (8, .i2l, 1), (9, .lastore, 1)]),
  (17, [(10, .goto 7, 3), (13, .astore 4, 2), (15, .iconst 1, 1), (16, .ireturn, 1)]),
  (100000, [(17, .iconst 0, 1), (18, .ireturn, 1)])]
set_option maxRecDepth 100000 in
theorem xd_L_must : xchk cL_must xk_L_must = true := xchk_of (by decide +kernel)
set_option maxRecDepth 100000 in
def xk_L_need : XT (Instr × Nat) := [(5, [(0, .aload 4, 2), (2, .iconst 0, 1), (3, .aload_n 0, 1), (4, .iload_n 1, 1)]),
  (11, [(5, .iload_n 2, 1), (6, .iload_n 3, 1), (7, .invokevirtual 26, 3), (10, .i2l, 1)]),
  (18, [(11, .lastore, 1), (12, .goto 15, 3), (15, .astore 5, 2), (17, .iconst 1, 1)]),
  (23, [(18, .ireturn, 1), (19, .astore 5, 2), (21, .iconst 2, 1), (22, .ireturn, 1)]),
  (28, [(23, .astore 5, 2), (25, .iconst 3, 1), (26, .ireturn, 1), (27, .iconst 0, 1)]),
  (100000, [(28, .ireturn, 1)])]
set_option maxRecDepth 100000 in
theorem xd_L_need : xchk cL_need xk_L_need = true := xchk_of (by decide +kernel)
set_option maxRecDepth 100000 in
def xk_L_offer : XT (Instr × Nat) := [(5, [(0, .aload 5, 2), (2, .iconst 0, 1), (3, .aload_n 0, 1), (4, .iload_n 1, 1)]),
  (12, [(5, .iload_n 2, 1), (6, .iload_n 3, 1), (7, .iload 4, 2), (9, .invokevirtual 113, 3)]),
  (19, [(12, .i2l, 1), (13, .lastore, 1), (14, .goto 7, 3), (17, .astore 6, 2)]),
  (100000, [(19, .iconst 1, 1), (20, .ireturn, 1), (21, .iconst 0, 1), (22, .ireturn, 1)])]
set_option maxRecDepth 100000 in
theorem xd_L_offer : xchk cL_offer xk_L_offer = true := xchk_of (by decide +kernel)
set_option maxRecDepth 100000 in
def xk_L_option : XT (Instr × Nat) := [(4, [(0, .aload_n 3, 1), (1, .iconst 0, 1), (2, .aload_n 0, 1), (3, .iload_n 1, 1)]),
  (10, [(4, .iload_n 2, 1), (5, .invokevirtual 38, 3), (8, .i2l, 1), (9, .lastore, 1)]),
  (17, [(10, .goto 15, 3), (13, .astore 4, 2), (15, .iconst 1, 1), (16, .ireturn, 1)]),
  (23, [(17, .astore 4, 2), (19, .iconst 2, 1), (20, .ireturn, 1), (21, .astore 4, 2)]),
  (100000, [(23, .iconst 3, 1), (24, .ireturn, 1), (25, .iconst 0, 1), (26, .ireturn, 1)])]
set_option maxRecDepth 100000 in
theorem xd_L_option : xchk cL_option xk_L_option = true := xchk_of (by decide +kernel)
set_option maxRecDepth 100000 in
def xk_L_owner : XT (Instr × Nat) := [(4, [(0, .aload_n 2, 1), (1, .iconst 0, 1), (2, .aload_n 0, 1), (3, .iload_n 1, 1)]),
  (12, [(4, .invokevirtual 139, 3), (7, .i2l, 1), (8, .lastore, 1), (9, .goto 6, 3)]),
  (16, [(12, .astore_n 3, 1), (13, .iconst 1, 1), (14, .ireturn, 1), (15, .iconst 0, 1)]),
  (100000, [(16, .ireturn, 1)])]
set_option maxRecDepth 100000 in
theorem xd_L_owner : xchk cL_owner xk_L_owner = true := xchk_of (by decide +kernel)
set_option maxRecDepth 100000 in
def xk_L_pack : XT (Instr × Nat) := [(6, [(0, .aload_n 1, 1), (1, .iconst 0, 1), (2, .aload_n 0, 1), (3, .invokevirtual 15, 3)]),
  (12, [(6, .i2l, 1), (7, .lastore, 1), (8, .goto 6, 3), (11, .astore_n 2, 1)]),
  (100000, [(12, .iconst 1, 1), (13, .ireturn, 1), (14, .iconst 0, 1), (15, .ireturn, 1)])]
set_option maxRecDepth 100000 in
theorem xd_L_pack : xchk cL_pack xk_L_pack = true := xchk_of (by decide +kernel)
set_option maxRecDepth 100000 in
def xk_L_pin : XT (Instr × Nat) := [(4, [(0, .aload_n 2, 1), (1, .iconst 0, 1), (2, .aload_n 0, 1), (3, .iload_n 1, 1)]),
  (12, [(4, .invokevirtual 67, 3), (7, .i2l, 1), (8, .lastore, 1), (9, .goto 9, 3)]),
  (16, [(12, .astore_n 3, 1), (13, .iconst 1, 1), (14, .ireturn, 1), (15, .astore_n 3, 1)]),
  (100000, [(16, .iconst 2, 1), (17, .ireturn, 1), (18, .iconst 0, 1), (19, .ireturn, 1)])]
set_option maxRecDepth 100000 in
theorem xd_L_pin : xchk cL_pin xk_L_pin = true := xchk_of (by decide +kernel)
set_option maxRecDepth 100000 in
def xk_L_plan : XT (Instr × Nat) := [(6, [(0, .aload_n 1, 1), (1, .iconst 0, 1), (2, .aload_n 0, 1), (3, .invokevirtual 124, 3)]),
  (12, [(6, .i2l, 1), (7, .lastore, 1), (8, .goto 6, 3), (11, .astore_n 2, 1)]),
  (100000, [(12, .iconst 1, 1), (13, .ireturn, 1), (14, .iconst 0, 1), (15, .ireturn, 1)])]
set_option maxRecDepth 100000 in
theorem xd_L_plan : xchk cL_plan xk_L_plan = true := xchk_of (by decide +kernel)
set_option maxRecDepth 100000 in
def xk_L_planAt : XT (Instr × Nat) := [(4, [(0, .aload_n 2, 1), (1, .iconst 0, 1), (2, .aload_n 0, 1), (3, .iload_n 1, 1)]),
  (12, [(4, .invokevirtual 127, 3), (7, .i2l, 1), (8, .lastore, 1), (9, .goto 9, 3)]),
  (16, [(12, .astore_n 3, 1), (13, .iconst 1, 1), (14, .ireturn, 1), (15, .astore_n 3, 1)]),
  (100000, [(16, .iconst 2, 1), (17, .ireturn, 1), (18, .iconst 0, 1), (19, .ireturn, 1)])]
set_option maxRecDepth 100000 in
theorem xd_L_planAt : xchk cL_planAt xk_L_planAt = true := xchk_of (by decide +kernel)
set_option maxRecDepth 100000 in
def xk_L_proofAt : XT (Instr × Nat) := [(4, [(0, .aload_n 3, 1), (1, .iconst 0, 1), (2, .aload_n 0, 1), (3, .iload_n 1, 1)]),
  (10, [(4, .iload_n 2, 1), (5, .invokevirtual 92, 3), (8, .i2l, 1), (9, .lastore, 1)]),
  (17, [(10, .goto 11, 3), (13, .astore 4, 2), (15, .iconst 1, 1), (16, .ireturn, 1)]),
  (22, [(17, .astore 4, 2), (19, .iconst 2, 1), (20, .ireturn, 1), (21, .iconst 0, 1)]),
  (100000, [(22, .ireturn, 1)])]
set_option maxRecDepth 100000 in
theorem xd_L_proofAt : xchk cL_proofAt xk_L_proofAt = true := xchk_of (by decide +kernel)
set_option maxRecDepth 100000 in
def xk_L_provide : XT (Instr × Nat) := [(5, [(0, .aload 5, 2), (2, .iconst 0, 1), (3, .aload_n 0, 1), (4, .iload_n 1, 1)]),
  (12, [(5, .iload_n 2, 1), (6, .iload_n 3, 1), (7, .iload 4, 2), (9, .invokevirtual 34, 3)]),
  (19, [(12, .i2l, 1), (13, .lastore, 1), (14, .goto 15, 3), (17, .astore 6, 2)]),
  (24, [(19, .iconst 1, 1), (20, .ireturn, 1), (21, .astore 6, 2), (23, .iconst 2, 1)]),
  (29, [(24, .ireturn, 1), (25, .astore 6, 2), (27, .iconst 3, 1), (28, .ireturn, 1)]),
  (100000, [(29, .iconst 0, 1), (30, .ireturn, 1)])]
set_option maxRecDepth 100000 in
theorem xd_L_provide : xchk cL_provide xk_L_provide = true := xchk_of (by decide +kernel)
set_option maxRecDepth 100000 in
def xk_L_quota : XT (Instr × Nat) := [(4, [(0, .aload_n 2, 1), (1, .iconst 0, 1), (2, .aload_n 0, 1), (3, .iload_n 1, 1)]),
  (12, [(4, .invokevirtual 70, 3), (7, .i2l, 1), (8, .lastore, 1), (9, .goto 6, 3)]),
  (16, [(12, .astore_n 3, 1), (13, .iconst 1, 1), (14, .ireturn, 1), (15, .iconst 0, 1)]),
  (100000, [(16, .ireturn, 1)])]
set_option maxRecDepth 100000 in
theorem xd_L_quota : xchk cL_quota xk_L_quota = true := xchk_of (by decide +kernel)
set_option maxRecDepth 100000 in
def xk_L_root : XT (Instr × Nat) := [(4, [(0, .aload_n 2, 1), (1, .iconst 0, 1), (2, .aload_n 0, 1), (3, .iload_n 1, 1)]),
  (12, [(4, .invokevirtual 54, 3), (7, .i2l, 1), (8, .lastore, 1), (9, .goto 6, 3)]),
  (16, [(12, .astore_n 3, 1), (13, .iconst 1, 1), (14, .ireturn, 1), (15, .iconst 0, 1)]),
  (100000, [(16, .ireturn, 1)])]
set_option maxRecDepth 100000 in
theorem xd_L_root : xchk cL_root xk_L_root = true := xchk_of (by decide +kernel)
set_option maxRecDepth 100000 in
def xk_L_scriptAt : XT (Instr × Nat) := [(4, [(0, .aload_n 2, 1), (1, .iconst 0, 1), (2, .aload_n 0, 1), (3, .iload_n 1, 1)]),
  (12, [(4, .invokevirtual 146, 3), (7, .i2l, 1), (8, .lastore, 1), (9, .goto 6, 3)]),
  (16, [(12, .astore_n 3, 1), (13, .iconst 1, 1), (14, .ireturn, 1), (15, .iconst 0, 1)]),
  (100000, [(16, .ireturn, 1)])]
set_option maxRecDepth 100000 in
theorem xd_L_scriptAt : xchk cL_scriptAt xk_L_scriptAt = true := xchk_of (by decide +kernel)
set_option maxRecDepth 100000 in
def xk_L_sumWrong : XT (Instr × Nat) := [(4, [(0, .aload_n 2, 1), (1, .iconst 0, 1), (2, .aload_n 0, 1), (3, .iload_n 1, 1)]),
  (12, [(4, .invokevirtual 116, 3), (7, .i2l, 1), (8, .lastore, 1), (9, .goto 6, 3)]),
  (16, [(12, .astore_n 3, 1), (13, .iconst 1, 1), (14, .ireturn, 1), (15, .iconst 0, 1)]),
  (100000, [(16, .ireturn, 1)])]
set_option maxRecDepth 100000 in
theorem xd_L_sumWrong : xchk cL_sumWrong xk_L_sumWrong = true := xchk_of (by decide +kernel)
set_option maxRecDepth 100000 in
def xk_L_takeLock : XT (Instr × Nat) := [(4, [(0, .aload_n 2, 1), (1, .iconst 0, 1), (2, .aload_n 0, 1), (3, .iload_n 1, 1)]),
  (12, [(4, .invokevirtual 107, 3), (7, .i2l, 1), (8, .lastore, 1), (9, .goto 6, 3)]),
  (16, [(12, .astore_n 3, 1), (13, .iconst 1, 1), (14, .ireturn, 1), (15, .iconst 0, 1)]),
  (100000, [(16, .ireturn, 1)])]
set_option maxRecDepth 100000 in
theorem xd_L_takeLock : xchk cL_takeLock xk_L_takeLock = true := xchk_of (by decide +kernel)
set_option maxRecDepth 100000 in
def xk_L_then : XT (Instr × Nat) := [(4, [(0, .aload_n 3, 1), (1, .iconst 0, 1), (2, .aload_n 0, 1), (3, .iload_n 1, 1)]),
  (10, [(4, .iload_n 2, 1), (5, .invokevirtual 155, 3), (8, .i2l, 1), (9, .lastore, 1)]),
  (17, [(10, .goto 11, 3), (13, .astore 4, 2), (15, .iconst 1, 1), (16, .ireturn, 1)]),
  (22, [(17, .astore 4, 2), (19, .iconst 2, 1), (20, .ireturn, 1), (21, .iconst 0, 1)]),
  (100000, [(22, .ireturn, 1)])]
set_option maxRecDepth 100000 in
theorem xd_L_then : xchk cL_then xk_L_then = true := xchk_of (by decide +kernel)
set_option maxRecDepth 100000 in
def xk_L_unwish : XT (Instr × Nat) := [(4, [(0, .aload_n 2, 1), (1, .iconst 0, 1), (2, .aload_n 0, 1), (3, .iload_n 1, 1)]),
  (12, [(4, .invokevirtual 60, 3), (7, .i2l, 1), (8, .lastore, 1), (9, .goto 6, 3)]),
  (16, [(12, .astore_n 3, 1), (13, .iconst 1, 1), (14, .ireturn, 1), (15, .iconst 0, 1)]),
  (100000, [(16, .ireturn, 1)])]
set_option maxRecDepth 100000 in
theorem xd_L_unwish : xchk cL_unwish xk_L_unwish = true := xchk_of (by decide +kernel)
set_option maxRecDepth 100000 in
def xk_L_version : XT (Instr × Nat) := [(5, [(0, .aload 6, 2), (2, .iconst 0, 1), (3, .aload_n 0, 1), (4, .iload_n 1, 1)]),
  (11, [(5, .iload_n 2, 1), (6, .iload_n 3, 1), (7, .iload 4, 2), (9, .iload 5, 2)]),
  (19, [(11, .invokevirtual 19, 3), (14, .i2l, 1), (15, .lastore, 1), (16, .goto 15, 3)]),
  (25, [(19, .astore 7, 2), (21, .iconst 1, 1), (22, .ireturn, 1), (23, .astore 7, 2)]),
  (30, [(25, .iconst 2, 1), (26, .ireturn, 1), (27, .astore 7, 2), (29, .iconst 3, 1)]),
  (100000, [(30, .ireturn, 1), (31, .iconst 0, 1), (32, .ireturn, 1)])]
set_option maxRecDepth 100000 in
theorem xd_L_version : xchk cL_version xk_L_version = true := xchk_of (by decide +kernel)
set_option maxRecDepth 100000 in
def xk_L_versionAt : XT (Instr × Nat) := [(4, [(0, .aload_n 3, 1), (1, .iconst 0, 1), (2, .aload_n 0, 1), (3, .iload_n 1, 1)]),
  (10, [(4, .iload_n 2, 1), (5, .invokevirtual 48, 3), (8, .i2l, 1), (9, .lastore, 1)]),
  (17, [(10, .goto 7, 3), (13, .astore 4, 2), (15, .iconst 1, 1), (16, .ireturn, 1)]),
  (100000, [(17, .iconst 0, 1), (18, .ireturn, 1)])]
set_option maxRecDepth 100000 in
theorem xd_L_versionAt : xchk cL_versionAt xk_L_versionAt = true := xchk_of (by decide +kernel)
set_option maxRecDepth 100000 in
def xk_L_versionOf : XT (Instr × Nat) := [(4, [(0, .aload_n 2, 1), (1, .iconst 0, 1), (2, .aload_n 0, 1), (3, .iload_n 1, 1)]),
  (12, [(4, .invokevirtual 73, 3), (7, .i2l, 1), (8, .lastore, 1), (9, .goto 6, 3)]),
  (16, [(12, .astore_n 3, 1), (13, .iconst 1, 1), (14, .ireturn, 1), (15, .iconst 0, 1)]),
  (100000, [(16, .ireturn, 1)])]
set_option maxRecDepth 100000 in
theorem xd_L_versionOf : xchk cL_versionOf xk_L_versionOf = true := xchk_of (by decide +kernel)
set_option maxRecDepth 100000 in
def xk_L_versions : XT (Instr × Nat) := [(4, [(0, .aload_n 2, 1), (1, .iconst 0, 1), (2, .aload_n 0, 1), (3, .iload_n 1, 1)]),
  (12, [(4, .invokevirtual 45, 3), (7, .i2l, 1), (8, .lastore, 1), (9, .goto 6, 3)]),
  (16, [(12, .astore_n 3, 1), (13, .iconst 1, 1), (14, .ireturn, 1), (15, .iconst 0, 1)]),
  (100000, [(16, .ireturn, 1)])]
set_option maxRecDepth 100000 in
theorem xd_L_versions : xchk cL_versions xk_L_versions = true := xchk_of (by decide +kernel)
set_option maxRecDepth 100000 in
def xk_L_wish : XT (Instr × Nat) := [(6, [(0, .aload_n 1, 1), (1, .iconst 0, 1), (2, .aload_n 0, 1), (3, .invokevirtual 57, 3)]),
  (12, [(6, .i2l, 1), (7, .lastore, 1), (8, .goto 9, 3), (11, .astore_n 2, 1)]),
  (16, [(12, .iconst 1, 1), (13, .ireturn, 1), (14, .astore_n 2, 1), (15, .iconst 2, 1)]),
  (100000, [(16, .ireturn, 1), (17, .iconst 0, 1), (18, .ireturn, 1)])]
set_option maxRecDepth 100000 in
theorem xd_L_wish : xchk cL_wish xk_L_wish = true := xchk_of (by decide +kernel)
set_option maxRecDepth 100000 in
def xk_L_without : XT (Instr × Nat) := [(4, [(0, .aload_n 2, 1), (1, .iconst 0, 1), (2, .aload_n 0, 1), (3, .iload_n 1, 1)]),
  (12, [(4, .invokevirtual 149, 3), (7, .i2l, 1), (8, .lastore, 1), (9, .goto 6, 3)]),
  (16, [(12, .astore_n 3, 1), (13, .iconst 1, 1), (14, .ireturn, 1), (15, .iconst 0, 1)]),
  (100000, [(16, .ireturn, 1)])]
set_option maxRecDepth 100000 in
theorem xd_L_without : xchk cL_without xk_L_without = true := xchk_of (by decide +kernel)
set_option maxRecDepth 100000 in
def xk_X0_init : XT (Instr × Nat) := [(6, [(0, .aload_n 0, 1), (1, .invokespecial 1, 3), (4, .aload_n 0, 1), (5, .iload_n 1, 1)]),
  (14, [(6, .putfield 7, 3), (9, .aload_n 0, 1), (10, .iload_n 2, 1), (11, .putfield 13, 3)]),
  (100000, [(14, .aload_n 0, 1), (15, .aload_n 3, 1), (16, .putfield 17, 3), (19, .return_, 1)])]
set_option maxRecDepth 100000 in
theorem xd_X0_init : xchk cX0_init xk_X0_init = true := xchk_of (by decide +kernel)
set_option maxRecDepth 100000 in
def xk_X10_any : XT (Instr × Nat) := [(8, [(0, .new 10, 3), (3, .dup, 1), (4, .bipush 42, 2), (6, .bipush 99, 2)]),
  (100000, [(8, .bipush 99, 2), (10, .invokespecial 27, 3), (13, .areturn, 1)])]
set_option maxRecDepth 100000 in
theorem xd_X10_any : xchk cX10_any xk_X10_any = true := xchk_of (by decide +kernel)
set_option maxRecDepth 100000 in
def xk_X10_init : XT (Instr × Nat) := [(10, [(0, .aload_n 0, 1), (1, .invokespecial 3, 3), (4, .aload_n 0, 1), (5, .iload_n 1, 1), (6, .putfield 9, 3), (9, .aload_n 0, 1)]),
  (20, [(10, .iload_n 2, 1), (11, .putfield 15, 3), (14, .aload_n 0, 1), (15, .iload_n 3, 1), (16, .putfield 18, 3), (19, .aload_n 0, 1)]),
  (30, [(20, .iload_n 2, 1), (21, .bipush 100, 2), (23, .irem, 1), (24, .bipush 99, 2), (26, .if_icmp .ne 7, 3), (29, .iconst (-1), 1)]),
  (41, [(30, .goto 7, 3), (33, .iload_n 2, 1), (34, .bipush 100, 2), (36, .idiv, 1), (37, .putfield 21, 3), (40, .aload_n 0, 1)]),
  (51, [(41, .iload_n 3, 1), (42, .bipush 100, 2), (44, .irem, 1), (45, .bipush 99, 2), (47, .if_icmp .ne 7, 3), (50, .iconst (-1), 1)]),
  (100000, [(51, .goto 7, 3), (54, .iload_n 3, 1), (55, .bipush 100, 2), (57, .idiv, 1), (58, .putfield 24, 3), (61, .return_, 1)])]
set_option maxRecDepth 100000 in
theorem xd_X10_init : xchk cX10_init xk_X10_init = true := xchk_of (by decide +kernel)
set_option maxRecDepth 100000 in
def xk_X10_isAnyMet : XT (Instr × Nat) := [(6, [(0, .aload_n 0, 1), (1, .astore_n 2, 1), (2, .aload_n 2, 1), (3, .ifnull 21, 3)]),
  (14, [(6, .aload_n 2, 1), (7, .iload_n 1, 1), (8, .invokevirtual 30, 3), (11, .ifCond .eq 5, 3)]),
  (20, [(14, .iconst 1, 1), (15, .ireturn, 1), (16, .aload_n 2, 1), (17, .getfield 34, 3)]),
  (100000, [(20, .astore_n 2, 1), (21, .goto (-19), 3), (24, .iconst 0, 1), (25, .ireturn, 1)])]
set_option maxRecDepth 100000 in
theorem xd_X10_isAnyMet : xchk cX10_isAnyMet xk_X10_isAnyMet = true := xchk_of (by decide +kernel)
set_option maxRecDepth 100000 in
def xk_X10_isMetBy_0 : List (Nat × Instr × Nat) := [(0, .iload_n 1, 1), (1, .bipush 100, 2), (3, .idiv, 1), (4, .istore_n 2, 1), (5, .iload_n 1, 1), (6, .bipush 100, 2), (8, .irem, 1), (9, .bipush 99, 2), (11, .if_icmp .eq 7, 3), (14, .iconst 1, 1)]
set_option maxRecDepth 100000 in
theorem xd_X10_isMetBy_0 : xchk1 cX10_isMetBy xk_X10_isMetBy_0 = true := xwalk_of 0 (by decide +kernel)
set_option maxRecDepth 100000 in
def xk_X10_isMetBy_1 : List (Nat × Instr × Nat) := [(15, .goto 4, 3), (18, .iconst 0, 1), (19, .istore_n 3, 1), (20, .iload_n 3, 1), (21, .ifCond .eq 30, 3), (24, .aload_n 0, 1), (25, .getfield 9, 3), (28, .bipush 61, 2), (30, .if_icmp .eq 21, 3), (33, .iload_n 2, 1)]
set_option maxRecDepth 100000 in
theorem xd_X10_isMetBy_1 : xchk1 cX10_isMetBy xk_X10_isMetBy_1 = true := xwalk_of 15 (by decide +kernel)
set_option maxRecDepth 100000 in
def xk_X10_isMetBy_2 : List (Nat × Instr × Nat) := [(34, .aload_n 0, 1), (35, .getfield 21, 3), (38, .if_icmp .eq 13, 3), (41, .iload_n 2, 1), (42, .aload_n 0, 1), (43, .getfield 24, 3), (46, .if_icmp .eq 5, 3), (49, .iconst 0, 1), (50, .ireturn, 1), (51, .aload_n 0, 1)]
set_option maxRecDepth 100000 in
theorem xd_X10_isMetBy_2 : xchk1 cX10_isMetBy xk_X10_isMetBy_2 = true := xwalk_of 34 (by decide +kernel)
set_option maxRecDepth 100000 in
def xk_X10_isMetBy_3 : List (Nat × Instr × Nat) := [(52, .getfield 9, 3), (55, .lookupswitch 155 #[(42, 57), (60, 87), (61, 59), (62, 73), (94, 101), (126, 130)], 57), (112, .iconst 1, 1), (113, .ireturn, 1), (114, .iload_n 1, 1), (115, .aload_n 0, 1), (116, .getfield 15, 3), (119, .if_icmp .ne 7, 3), (122, .iconst 1, 1), (123, .goto 4, 3)]
set_option maxRecDepth 100000 in
theorem xd_X10_isMetBy_3 : xchk1 cX10_isMetBy xk_X10_isMetBy_3 = true := xwalk_of 52 (by decide +kernel)
set_option maxRecDepth 100000 in
def xk_X10_isMetBy_4 : List (Nat × Instr × Nat) := [(126, .iconst 0, 1), (127, .ireturn, 1), (128, .iload_n 1, 1), (129, .aload_n 0, 1), (130, .getfield 15, 3), (133, .if_icmp .lt 7, 3), (136, .iconst 1, 1), (137, .goto 4, 3), (140, .iconst 0, 1), (141, .ireturn, 1)]
set_option maxRecDepth 100000 in
theorem xd_X10_isMetBy_4 : xchk1 cX10_isMetBy xk_X10_isMetBy_4 = true := xwalk_of 126 (by decide +kernel)
set_option maxRecDepth 100000 in
def xk_X10_isMetBy_5 : List (Nat × Instr × Nat) := [(142, .iload_n 1, 1), (143, .aload_n 0, 1), (144, .getfield 15, 3), (147, .if_icmp .ge 7, 3), (150, .iconst 1, 1), (151, .goto 4, 3), (154, .iconst 0, 1), (155, .ireturn, 1), (156, .iload_n 1, 1), (157, .aload_n 0, 1)]
set_option maxRecDepth 100000 in
theorem xd_X10_isMetBy_5 : xchk1 cX10_isMetBy xk_X10_isMetBy_5 = true := xwalk_of 142 (by decide +kernel)
set_option maxRecDepth 100000 in
def xk_X10_isMetBy_6 : List (Nat × Instr × Nat) := [(158, .getfield 15, 3), (161, .if_icmp .lt 22, 3), (164, .iload_n 2, 1), (165, .bipush 100, 2), (167, .idiv, 1), (168, .aload_n 0, 1), (169, .getfield 15, 3), (172, .sipush 10000, 3), (175, .idiv, 1), (176, .if_icmp .ne 7, 3)]
set_option maxRecDepth 100000 in
theorem xd_X10_isMetBy_6 : xchk1 cX10_isMetBy xk_X10_isMetBy_6 = true := xwalk_of 158 (by decide +kernel)
set_option maxRecDepth 100000 in
def xk_X10_isMetBy_7 : List (Nat × Instr × Nat) := [(179, .iconst 1, 1), (180, .goto 4, 3), (183, .iconst 0, 1), (184, .ireturn, 1), (185, .iload_n 1, 1), (186, .aload_n 0, 1), (187, .getfield 15, 3), (190, .if_icmp .lt 18, 3), (193, .iload_n 2, 1), (194, .aload_n 0, 1)]
set_option maxRecDepth 100000 in
theorem xd_X10_isMetBy_7 : xchk1 cX10_isMetBy xk_X10_isMetBy_7 = true := xwalk_of 179 (by decide +kernel)
set_option maxRecDepth 100000 in
def xk_X10_isMetBy_8 : List (Nat × Instr × Nat) := [(195, .getfield 15, 3), (198, .bipush 100, 2), (200, .idiv, 1), (201, .if_icmp .ne 7, 3), (204, .iconst 1, 1), (205, .goto 4, 3), (208, .iconst 0, 1), (209, .ireturn, 1), (210, .iload_n 1, 1), (211, .aload_n 0, 1)]
set_option maxRecDepth 100000 in
theorem xd_X10_isMetBy_8 : xchk1 cX10_isMetBy xk_X10_isMetBy_8 = true := xwalk_of 195 (by decide +kernel)
set_option maxRecDepth 100000 in
def xk_X10_isMetBy_9 : List (Nat × Instr × Nat) := [(212, .getfield 15, 3), (215, .if_icmp .lt 15, 3), (218, .iload_n 1, 1), (219, .aload_n 0, 1), (220, .getfield 18, 3), (223, .if_icmp .gt 7, 3), (226, .iconst 1, 1), (227, .goto 4, 3), (230, .iconst 0, 1), (231, .ireturn, 1)]
set_option maxRecDepth 100000 in
theorem xd_X10_isMetBy_9 : xchk1 cX10_isMetBy xk_X10_isMetBy_9 = true := xwalk_of 212 (by decide +kernel)
set_option maxRecDepth 100000 in
def xk_X10_isMetBy : XT (Instr × Nat) := [(15, xk_X10_isMetBy_0),
  (34, xk_X10_isMetBy_1),
  (52, xk_X10_isMetBy_2),
  (126, xk_X10_isMetBy_3),
  (142, xk_X10_isMetBy_4),
  (158, xk_X10_isMetBy_5),
  (179, xk_X10_isMetBy_6),
  (195, xk_X10_isMetBy_7),
  (212, xk_X10_isMetBy_8),
  (100000, xk_X10_isMetBy_9)]
set_option maxRecDepth 100000 in
theorem xd_X10_isMetBy : xchk cX10_isMetBy xk_X10_isMetBy = true := (xchk_cons xd_X10_isMetBy_0 (xchk_cons xd_X10_isMetBy_1 (xchk_cons xd_X10_isMetBy_2 (xchk_cons xd_X10_isMetBy_3 (xchk_cons xd_X10_isMetBy_4 (xchk_cons xd_X10_isMetBy_5 (xchk_cons xd_X10_isMetBy_6 (xchk_cons xd_X10_isMetBy_7 (xchk_cons xd_X10_isMetBy_8 (xchk_cons xd_X10_isMetBy_9 xchk_nil))))))))))
set_option maxRecDepth 100000 in
def xk_X11_atHand : XT (Instr × Nat) := [(8, [(0, .aload_n 0, 1), (1, .aload_n 0, 1), (2, .getfield 31, 3), (5, .invokevirtual 68, 3)]),
  (100000, [(8, .areturn, 1)])]
set_option maxRecDepth 100000 in
theorem xd_X11_atHand : xchk cX11_atHand xk_X11_atHand = true := xchk_of (by decide +kernel)
set_option maxRecDepth 100000 in
def xk_X11_copyFrom : XT (Instr × Nat) := [(16, [(0, .aload_n 0, 1), (1, .getfield 12, 3), (4, .aload_n 1, 1), (5, .getfield 12, 3), (8, .invokevirtual 55, 3), (11, .aload_n 0, 1), (12, .getfield 21, 3), (15, .aload_n 1, 1)]),
  (34, [(16, .getfield 21, 3), (19, .invokevirtual 59, 3), (22, .aload_n 0, 1), (23, .getfield 25, 3), (26, .aload_n 1, 1), (27, .getfield 25, 3), (30, .invokevirtual 59, 3), (33, .aload_n 0, 1)]),
  (52, [(34, .getfield 28, 3), (37, .aload_n 1, 1), (38, .getfield 28, 3), (41, .invokevirtual 59, 3), (44, .aload_n 0, 1), (45, .aload_n 1, 1), (46, .getfield 31, 3), (49, .putfield 31, 3)]),
  (66, [(52, .aload_n 1, 1), (53, .getfield 35, 3), (56, .iconst 0, 1), (57, .aload_n 0, 1), (58, .getfield 35, 3), (61, .iconst 0, 1), (62, .iconst 3, 1), (63, .invokestatic 62, 3)]),
  (82, [(66, .aload_n 0, 1), (67, .aload_n 1, 1), (68, .getfield 39, 3), (71, .putfield 39, 3), (74, .aload_n 0, 1), (75, .aload_n 1, 1), (76, .getfield 42, 3), (79, .putfield 42, 3)]),
  (96, [(82, .aload_n 1, 1), (83, .getfield 45, 3), (86, .iconst 0, 1), (87, .aload_n 0, 1), (88, .getfield 45, 3), (91, .iconst 0, 1), (92, .iconst 3, 1), (93, .invokestatic 62, 3)]),
  (110, [(96, .aload_n 1, 1), (97, .getfield 49, 3), (100, .iconst 0, 1), (101, .aload_n 0, 1), (102, .getfield 49, 3), (105, .iconst 0, 1), (106, .iconst 3, 1), (107, .invokestatic 62, 3)]),
  (125, [(110, .aload_n 1, 1), (111, .getfield 52, 3), (114, .iconst 0, 1), (115, .aload_n 0, 1), (116, .getfield 52, 3), (119, .iconst 0, 1), (120, .bipush 120, 2), (122, .invokestatic 62, 3)]),
  (100000, [(125, .return_, 1)])]
set_option maxRecDepth 100000 in
theorem xd_X11_copyFrom : xchk cX11_copyFrom xk_X11_copyFrom = true := xchk_of (by decide +kernel)
set_option maxRecDepth 100000 in
def xk_X11_init : XT (Instr × Nat) := [(12, [(0, .aload_n 0, 1), (1, .invokespecial 3, 3), (4, .aload_n 0, 1), (5, .new 9, 3), (8, .dup, 1), (9, .invokespecial 11, 3)]),
  (26, [(12, .putfield 12, 3), (15, .aload_n 0, 1), (16, .new 18, 3), (19, .dup, 1), (20, .invokespecial 20, 3), (23, .putfield 21, 3)]),
  (38, [(26, .aload_n 0, 1), (27, .new 18, 3), (30, .dup, 1), (31, .invokespecial 20, 3), (34, .putfield 25, 3), (37, .aload_n 0, 1)]),
  (50, [(38, .new 18, 3), (41, .dup, 1), (42, .invokespecial 20, 3), (45, .putfield 28, 3), (48, .aload_n 0, 1), (49, .iconst 0, 1)]),
  (61, [(50, .putfield 31, 3), (53, .aload_n 0, 1), (54, .iconst 3, 1), (55, .newarray .long, 2), (57, .putfield 35, 3), (60, .aload_n 0, 1)]),
  (71, [(61, .iconst 0, 1), (62, .putfield 39, 3), (65, .aload_n 0, 1), (66, .iconst 0, 1), (67, .putfield 42, 3), (70, .aload_n 0, 1)]),
  (81, [(71, .iconst 3, 1), (72, .newarray .int, 2), (74, .putfield 45, 3), (77, .aload_n 0, 1), (78, .iconst 3, 1), (79, .newarray .long, 2)]),
  (100000, [(81, .putfield 49, 3), (84, .aload_n 0, 1), (85, .bipush 120, 2), (87, .newarray .int, 2), (89, .putfield 52, 3), (92, .return_, 1)])]
set_option maxRecDepth 100000 in
theorem xd_X11_init : xchk cX11_init xk_X11_init = true := xchk_of (by decide +kernel)
set_option maxRecDepth 100000 in
def xk_X11_isInUse : XT (Instr × Nat) := [(8, [(0, .aload_n 0, 1), (1, .getfield 21, 3), (4, .getfield 72, 3), (7, .aload_n 0, 1)]),
  (16, [(8, .getfield 25, 3), (11, .getfield 72, 3), (14, .lor, 1), (15, .aload_n 0, 1)]),
  (24, [(16, .getfield 28, 3), (19, .getfield 72, 3), (22, .lor, 1), (23, .iload_n 1, 1)]),
  (100000, [(24, .invokestatic 76, 3), (27, .ireturn, 1)])]
set_option maxRecDepth 100000 in
theorem xd_X11_isInUse : xchk cX11_isInUse xk_X11_isInUse = true := xchk_of (by decide +kernel)
set_option maxRecDepth 100000 in
def xk_X11_mirrorFor : XT (Instr × Nat) := [(13, [(0, .iconst 0, 1), (1, .istore 4, 2), (3, .iload 4, 2), (5, .aload_n 0, 1), (6, .getfield 39, 3), (9, .if_icmp .ge 90, 3), (12, .iload_n 2, 1)]),
  (25, [(13, .aload_n 0, 1), (14, .getfield 39, 3), (17, .irem, 1), (18, .iload 4, 2), (20, .iadd, 1), (21, .aload_n 0, 1), (22, .getfield 39, 3)]),
  (39, [(25, .irem, 1), (26, .istore 5, 2), (28, .iload 5, 2), (30, .ifCond .lt 63, 3), (33, .aload_n 0, 1), (34, .getfield 49, 3), (37, .iload 5, 2)]),
  (53, [(39, .laload, 1), (40, .iload_n 1, 1), (41, .invokestatic 76, 3), (44, .ifCond .eq 49, 3), (47, .aload_n 0, 1), (48, .getfield 52, 3), (51, .iload 5, 2)]),
  (63, [(53, .bipush 40, 2), (55, .imul, 1), (56, .iload_n 1, 1), (57, .iadd, 1), (58, .iaload, 1), (59, .aload_n 0, 1), (60, .getfield 12, 3)]),
  (75, [(63, .getfield 86, 3), (66, .iload_n 1, 1), (67, .iaload, 1), (68, .if_icmp .ne 6, 3), (71, .iload 5, 2), (73, .ireturn, 1), (74, .aload_n 0, 1)]),
  (87, [(75, .getfield 45, 3), (78, .iload 5, 2), (80, .dup2, 1), (81, .iaload, 1), (82, .iload_n 3, 1), (83, .ifCond .eq 7, 3), (86, .iconst 1, 1)]),
  (100, [(87, .goto 4, 3), (90, .iconst 0, 1), (91, .iadd, 1), (92, .iastore, 1), (93, .iinc 4 1, 3), (96, .goto (-93), 3), (99, .iconst (-1), 1)]),
  (100000, [(100, .ireturn, 1)])]
set_option maxRecDepth 100000 in
theorem xd_X11_mirrorFor : xchk cX11_mirrorFor xk_X11_mirrorFor = true := xchk_of (by decide +kernel)
set_option maxRecDepth 100000 in
def xk_X11_rootOf : XT (Instr × Nat) := [(6, [(0, .iload_n 1, 1), (1, .iconst 1, 1), (2, .if_icmp .ne 10, 3), (5, .aload_n 0, 1)]),
  (14, [(6, .getfield 25, 3), (9, .goto 19, 3), (12, .iload_n 1, 1), (13, .iconst 2, 1)]),
  (24, [(14, .if_icmp .ne 10, 3), (17, .aload_n 0, 1), (18, .getfield 28, 3), (21, .goto 7, 3)]),
  (100000, [(24, .aload_n 0, 1), (25, .getfield 21, 3), (28, .areturn, 1)])]
set_option maxRecDepth 100000 in
theorem xd_X11_rootOf : xchk cX11_rootOf xk_X11_rootOf = true := xchk_of (by decide +kernel)
set_option maxRecDepth 100000 in
def xk_X11_setOffer : XT (Instr × Nat) := [(7, [(0, .aload_n 0, 1), (1, .getfield 49, 3), (4, .iload_n 1, 1), (5, .dup2, 1), (6, .laload, 1)]),
  (12, [(7, .lconst 1, 1), (8, .iload_n 2, 1), (9, .lshl, 1), (10, .lor, 1), (11, .lastore, 1)]),
  (20, [(12, .aload_n 0, 1), (13, .getfield 52, 3), (16, .iload_n 1, 1), (17, .bipush 40, 2), (19, .imul, 1)]),
  (25, [(20, .iload_n 2, 1), (21, .iadd, 1), (22, .iload_n 3, 1), (23, .iastore, 1), (24, .aload_n 0, 1)]),
  (100000, [(25, .getfield 49, 3), (28, .iload_n 1, 1), (29, .laload, 1), (30, .invokestatic 80, 3), (33, .ireturn, 1)])]
set_option maxRecDepth 100000 in
theorem xd_X11_setOffer : xchk cX11_setOffer xk_X11_setOffer = true := xchk_of (by decide +kernel)
set_option maxRecDepth 100000 in
def xk_X12_append : XT (Instr × Nat) := [(13, [(0, .iload_n 1, 1), (1, .invokestatic 96, 3), (4, .iload_n 2, 1), (5, .invokestatic 96, 3), (8, .iadd, 1), (9, .iload_n 3, 1), (10, .invokestatic 96, 3)]),
  (26, [(13, .iadd, 1), (14, .iload 4, 2), (16, .invokestatic 96, 3), (19, .iadd, 1), (20, .iload 5, 2), (22, .invokestatic 96, 3), (25, .iadd, 1)]),
  (43, [(26, .istore 6, 2), (28, .aload_n 0, 1), (29, .getfield 12, 3), (32, .iload 6, 2), (34, .invokevirtual 100, 3), (37, .ifCond .ne 13, 3), (40, .new 104, 3)]),
  (55, [(43, .dup, 1), (44, .ldc 106, 2), (46, .invokespecial 108, 3), (49, .athrow, 1), (50, .aload_n 0, 1), (51, .getfield 12, 3), (54, .iload_n 1, 1)]),
  (70, [(55, .invokevirtual 111, 3), (58, .aload_n 0, 1), (59, .getfield 12, 3), (62, .iload_n 2, 1), (63, .invokevirtual 111, 3), (66, .aload_n 0, 1), (67, .getfield 12, 3)]),
  (84, [(70, .iload_n 3, 1), (71, .invokevirtual 111, 3), (74, .aload_n 0, 1), (75, .getfield 12, 3), (78, .iload 4, 2), (80, .invokevirtual 111, 3), (83, .aload_n 0, 1)]),
  (100000, [(84, .getfield 12, 3), (87, .iload 5, 2), (89, .invokevirtual 111, 3), (92, .aload_n 0, 1), (93, .getfield 12, 3), (96, .invokevirtual 115, 3), (99, .ireturn, 1)])]
set_option maxRecDepth 100000 in
theorem xd_X12_append : xchk cX12_append xk_X12_append = true := xchk_of (by decide +kernel)
set_option maxRecDepth 100000 in
def xk_X12_backTo : XT (Instr × Nat) := [(9, [(0, .aload_n 0, 1), (1, .getfield 19, 3), (4, .invokevirtual 228, 3), (7, .astore_n 2, 1), (8, .iload_n 1, 1)]),
  (18, [(9, .iconst (-1), 1), (10, .if_icmp .eq 22, 3), (13, .aload_n 2, 1), (14, .iload_n 1, 1), (15, .invokevirtual 519, 3)]),
  (31, [(18, .ifCond .ne 14, 3), (21, .new 450, 3), (24, .dup, 1), (25, .ldc_w 522, 3), (28, .invokespecial 454, 3)]),
  (38, [(31, .athrow, 1), (32, .aload_n 0, 1), (33, .invokevirtual 136, 3), (36, .aload_n 2, 1), (37, .iload_n 1, 1)]),
  (47, [(38, .iconst (-1), 1), (39, .if_icmp .ne 7, 3), (42, .lconst 0, 1), (43, .goto 8, 3), (46, .aload_n 2, 1)]),
  (56, [(47, .iload_n 1, 1), (48, .invokevirtual 524, 3), (51, .putfield 327, 3), (54, .aload_n 0, 1), (55, .aload_n 2, 1)]),
  (100000, [(56, .getfield 340, 3), (59, .aload_n 2, 1), (60, .getfield 327, 3), (63, .invokevirtual 343, 3), (66, .ireturn, 1)])]
set_option maxRecDepth 100000 in
theorem xd_X12_backTo : xchk cX12_backTo xk_X12_backTo = true := xchk_of (by decide +kernel)
set_option maxRecDepth 100000 in
def xk_X12_ban : XT (Instr × Nat) := [(8, [(0, .aload_n 0, 1), (1, .iload_n 1, 1), (2, .iload_n 2, 1), (3, .invokevirtual 166, 3), (6, .istore_n 3, 1), (7, .aload_n 0, 1)]),
  (20, [(8, .getfield 19, 3), (11, .getfield 125, 3), (14, .getfield 186, 3), (17, .iload_n 3, 1), (18, .iaload, 1), (19, .iconst 2, 1)]),
  (34, [(20, .if_icmp .ge 14, 3), (23, .aload_n 0, 1), (24, .getfield 19, 3), (27, .iload_n 3, 1), (28, .invokevirtual 173, 3), (31, .ifCond .eq 13, 3)]),
  (45, [(34, .new 104, 3), (37, .dup, 1), (38, .ldc 189, 2), (40, .invokespecial 108, 3), (43, .athrow, 1), (44, .aload_n 0, 1)]),
  (56, [(45, .iconst 1, 1), (46, .invokevirtual 178, 3), (49, .astore 4, 2), (51, .aload_n 0, 1), (52, .invokevirtual 136, 3), (55, .aload_n 0, 1)]),
  (100000, [(56, .getfield 19, 3), (59, .getfield 125, 3), (62, .iload_n 3, 1), (63, .aload 4, 2), (65, .invokevirtual 191, 3), (68, .ireturn, 1)])]
set_option maxRecDepth 100000 in
theorem xd_X12_ban : xchk cX12_ban xk_X12_ban = true := xchk_of (by decide +kernel)
set_option maxRecDepth 100000 in
def xk_X12_because : XT (Instr × Nat) := [(6, [(0, .aload_n 0, 1), (1, .iload_n 1, 1), (2, .invokevirtual 142, 3), (5, .aload_n 0, 1)]),
  (14, [(6, .invokevirtual 350, 3), (9, .aload_n 0, 1), (10, .getfield 78, 3), (13, .aload_n 0, 1)]),
  (26, [(14, .getfield 19, 3), (17, .invokevirtual 228, 3), (20, .getfield 327, 3), (23, .invokevirtual 363, 3)]),
  (34, [(26, .aload_n 0, 1), (27, .getfield 78, 3), (30, .getfield 367, 3), (33, .iload_n 1, 1)]),
  (100000, [(34, .iaload, 1), (35, .ireturn, 1)])]
set_option maxRecDepth 100000 in
theorem xd_X12_because : xchk cX12_because xk_X12_because = true := xchk_of (by decide +kernel)
set_option maxRecDepth 100000 in
def xk_X12_changes : XT (Instr × Nat) := [(8, [(0, .aload_n 0, 1), (1, .aload_n 0, 1), (2, .getfield 19, 3), (5, .invokevirtual 228, 3)]),
  (18, [(8, .getfield 340, 3), (11, .aload_n 0, 1), (12, .getfield 19, 3), (15, .invokevirtual 228, 3)]),
  (100000, [(18, .getfield 327, 3), (21, .invokevirtual 343, 3), (24, .ireturn, 1)])]
set_option maxRecDepth 100000 in
theorem xd_X12_changes : xchk cX12_changes xk_X12_changes = true := xchk_of (by decide +kernel)
set_option maxRecDepth 100000 in
def xk_X12_changesBetween : XT (Instr × Nat) := [(8, [(0, .aload_n 0, 1), (1, .getfield 19, 3), (4, .getfield 125, 3), (7, .lload_n 1, 1)]),
  (100000, [(8, .lload_n 3, 1), (9, .invokevirtual 598, 3), (12, .invokestatic 295, 3), (15, .ireturn, 1)])]
set_option maxRecDepth 100000 in
theorem xd_X12_changesBetween : xchk cX12_changesBetween xk_X12_changesBetween = true := xchk_of (by decide +kernel)
set_option maxRecDepth 100000 in
def xk_X12_checkGoalSound : XT (Instr × Nat) := [(8, [(0, .aload_n 0, 1), (1, .invokevirtual 350, 3), (4, .aload_n 0, 1), (5, .getfield 35, 3)]),
  (18, [(8, .aload_n 0, 1), (9, .getfield 19, 3), (12, .invokevirtual 228, 3), (15, .getfield 327, 3)]),
  (28, [(18, .invokevirtual 544, 3), (21, .ifCond .ne 14, 3), (24, .new 104, 3), (27, .dup, 1)]),
  (100000, [(28, .ldc_w 570, 3), (31, .invokespecial 108, 3), (34, .athrow, 1), (35, .return_, 1)])]
set_option maxRecDepth 100000 in
theorem xd_X12_checkGoalSound : xchk cX12_checkGoalSound xk_X12_checkGoalSound = true := xchk_of (by decide +kernel)
set_option maxRecDepth 100000 in
def xk_X12_checkLock : XT (Instr × Nat) := [(6, [(0, .iload_n 0, 1), (1, .ifCond .lt 8, 3), (4, .iload_n 0, 1), (5, .iconst 3, 1)]),
  (16, [(6, .if_icmp .lt 14, 3), (9, .new 148, 3), (12, .dup, 1), (13, .ldc_w 568, 3)]),
  (100000, [(16, .invokespecial 152, 3), (19, .athrow, 1), (20, .return_, 1)])]
set_option maxRecDepth 100000 in
theorem xd_X12_checkLock : xchk cX12_checkLock xk_X12_checkLock = true := xchk_of (by decide +kernel)
set_option maxRecDepth 100000 in
def xk_X12_checkMirror : XT (Instr × Nat) := [(6, [(0, .iload_n 1, 1), (1, .ifCond .lt 14, 3), (4, .iload_n 1, 1), (5, .aload_n 0, 1)]),
  (18, [(6, .getfield 19, 3), (9, .getfield 225, 3), (12, .if_icmp .lt 14, 3), (15, .new 254, 3)]),
  (26, [(18, .dup, 1), (19, .ldc_w 566, 3), (22, .invokespecial 258, 3), (25, .athrow, 1)]),
  (100000, [(26, .return_, 1)])]
set_option maxRecDepth 100000 in
theorem xd_X12_checkMirror : xchk cX12_checkMirror xk_X12_checkMirror = true := xchk_of (by decide +kernel)
set_option maxRecDepth 100000 in
def xk_X12_checkPack : XT (Instr × Nat) := [(6, [(0, .iload_n 1, 1), (1, .ifCond .lt 17, 3), (4, .iload_n 1, 1), (5, .aload_n 0, 1)]),
  (18, [(6, .getfield 19, 3), (9, .getfield 125, 3), (12, .getfield 129, 3), (15, .if_icmp .lt 14, 3)]),
  (28, [(18, .new 254, 3), (21, .dup, 1), (22, .ldc_w 564, 3), (25, .invokespecial 258, 3)]),
  (100000, [(28, .athrow, 1), (29, .return_, 1)])]
set_option maxRecDepth 100000 in
theorem xd_X12_checkPack : xchk cX12_checkPack xk_X12_checkPack = true := xchk_of (by decide +kernel)
set_option maxRecDepth 100000 in
def xk_X12_checkedId : XT (Instr × Nat) := [(6, [(0, .aload_n 0, 1), (1, .iload_n 1, 1), (2, .invokevirtual 142, 3), (5, .aload_n 0, 1)]),
  (14, [(6, .getfield 19, 3), (9, .getfield 125, 3), (12, .iload_n 1, 1), (13, .iload_n 2, 1)]),
  (20, [(14, .invokevirtual 153, 3), (17, .istore_n 3, 1), (18, .iload_n 3, 1), (19, .iconst (-1), 1)]),
  (30, [(20, .if_icmp .ne 14, 3), (23, .new 254, 3), (26, .dup, 1), (27, .ldc_w 572, 3)]),
  (100000, [(30, .invokespecial 258, 3), (33, .athrow, 1), (34, .iload_n 3, 1), (35, .ireturn, 1)])]
set_option maxRecDepth 100000 in
theorem xd_X12_checkedId : xchk cX12_checkedId xk_X12_checkedId = true := xchk_of (by decide +kernel)
set_option maxRecDepth 100000 in
def xk_X12_checkedNeed : XT (Instr × Nat) := [(8, [(0, .aload_n 0, 1), (1, .getfield 12, 3), (4, .aload_n 0, 1), (5, .getfield 19, 3)]),
  (18, [(8, .getfield 125, 3), (11, .getfield 129, 3), (14, .iload_n 1, 1), (15, .invokevirtual 574, 3)]),
  (26, [(18, .astore_n 2, 1), (19, .aload_n 2, 1), (20, .ifnonnull 14, 3), (23, .new 148, 3)]),
  (34, [(26, .dup, 1), (27, .ldc_w 578, 3), (30, .invokespecial 152, 3), (33, .athrow, 1)]),
  (100000, [(34, .aload_n 2, 1), (35, .areturn, 1)])]
set_option maxRecDepth 100000 in
theorem xd_X12_checkedNeed : xchk cX12_checkedNeed xk_X12_checkedNeed = true := xchk_of (by decide +kernel)
set_option maxRecDepth 100000 in
def xk_X12_checkedRange : XT (Instr × Nat) := [(8, [(0, .aload_n 0, 1), (1, .getfield 12, 3), (4, .aload_n 0, 1), (5, .getfield 19, 3)]),
  (18, [(8, .getfield 125, 3), (11, .getfield 129, 3), (14, .invokevirtual 580, 3), (17, .astore_n 1, 1)]),
  (26, [(18, .aload_n 1, 1), (19, .ifnonnull 14, 3), (22, .new 148, 3), (25, .dup, 1)]),
  (34, [(26, .ldc_w 584, 3), (29, .invokespecial 152, 3), (32, .athrow, 1), (33, .aload_n 1, 1)]),
  (100000, [(34, .areturn, 1)])]
set_option maxRecDepth 100000 in
theorem xd_X12_checkedRange : xchk cX12_checkedRange xk_X12_checkedRange = true := xchk_of (by decide +kernel)
set_option maxRecDepth 100000 in
def xk_X12_checksum : XT (Instr × Nat) := [(7, [(0, .bipush 17, 2), (2, .istore_n 1, 1), (3, .iconst 0, 1), (4, .istore_n 2, 1), (5, .iload_n 2, 1), (6, .aload_n 0, 1)]),
  (22, [(7, .getfield 19, 3), (10, .getfield 125, 3), (13, .getfield 129, 3), (16, .if_icmp .ge 51, 3), (19, .bipush 31, 2), (21, .iload_n 1, 1)]),
  (34, [(22, .imul, 1), (23, .aload_n 0, 1), (24, .aload_n 0, 1), (25, .getfield 19, 3), (28, .invokevirtual 228, 3), (31, .getfield 327, 3)]),
  (43, [(34, .iload_n 2, 1), (35, .invokevirtual 485, 3), (38, .iadd, 1), (39, .istore_n 1, 1), (40, .bipush 31, 2), (42, .iload_n 1, 1)]),
  (55, [(43, .imul, 1), (44, .aload_n 0, 1), (45, .aload_n 0, 1), (46, .getfield 19, 3), (49, .invokevirtual 228, 3), (52, .getfield 340, 3)]),
  (67, [(55, .iload_n 2, 1), (56, .invokevirtual 485, 3), (59, .iadd, 1), (60, .istore_n 1, 1), (61, .iinc 2 1, 3), (64, .goto (-59), 3)]),
  (100000, [(67, .iload_n 1, 1), (68, .ireturn, 1)])]
set_option maxRecDepth 100000 in
theorem xd_X12_checksum : xchk cX12_checksum xk_X12_checksum = true := xchk_of (by decide +kernel)
set_option maxRecDepth 100000 in
def xk_X12_clashes : XT (Instr × Nat) := [(6, [(0, .iconst 0, 1), (1, .istore_n 1, 1), (2, .iconst 0, 1), (3, .istore_n 2, 1), (4, .iconst 0, 1), (5, .istore_n 3, 1)]),
  (20, [(6, .iload_n 3, 1), (7, .aload_n 0, 1), (8, .getfield 19, 3), (11, .getfield 125, 3), (14, .getfield 222, 3), (17, .if_icmp .ge 58, 3)]),
  (34, [(20, .aload_n 0, 1), (21, .getfield 19, 3), (24, .invokevirtual 228, 3), (27, .getfield 327, 3), (30, .iload_n 3, 1), (31, .invokestatic 490, 3)]),
  (46, [(34, .ifCond .eq 35, 3), (37, .iload_n 2, 1), (38, .iload_n 1, 1), (39, .aload_n 0, 1), (40, .getfield 19, 3), (43, .getfield 125, 3)]),
  (54, [(46, .getfield 494, 3), (49, .iload_n 3, 1), (50, .iaload, 1), (51, .iand, 1), (52, .ior, 1), (53, .istore_n 2, 1)]),
  (66, [(54, .iload_n 1, 1), (55, .aload_n 0, 1), (56, .getfield 19, 3), (59, .getfield 125, 3), (62, .getfield 494, 3), (65, .iload_n 3, 1)]),
  (76, [(66, .iaload, 1), (67, .ior, 1), (68, .istore_n 1, 1), (69, .iinc 3 1, 3), (72, .goto (-66), 3), (75, .iload_n 2, 1)]),
  (100000, [(76, .invokestatic 295, 3), (79, .ireturn, 1)])]
set_option maxRecDepth 100000 in
theorem xd_X12_clashes : xchk cX12_clashes xk_X12_clashes = true := xchk_of (by decide +kernel)
set_option maxRecDepth 100000 in
def xk_X12_clearTape : XT (Instr × Nat) := [(100000, [(0, .aload_n 0, 1), (1, .getfield 12, 3), (4, .invokevirtual 119, 3), (7, .ireturn, 1)])]
set_option maxRecDepth 100000 in
theorem xd_X12_clearTape : xchk cX12_clearTape xk_X12_clearTape = true := xchk_of (by decide +kernel)
set_option maxRecDepth 100000 in
def xk_X12_core : XT (Instr × Nat) := [(6, [(0, .aload_n 0, 1), (1, .iconst 3, 1), (2, .invokevirtual 237, 3), (5, .aload_n 0, 1)]),
  (100000, [(6, .getfield 71, 3), (9, .getfield 373, 3), (12, .ireturn, 1)])]
set_option maxRecDepth 100000 in
theorem xd_X12_core : xchk cX12_core xk_X12_core = true := xchk_of (by decide +kernel)
set_option maxRecDepth 100000 in
def xk_X12_coreAt : XT (Instr × Nat) := [(11, [(0, .aload_n 0, 1), (1, .iconst 3, 1), (2, .invokevirtual 237, 3), (5, .iload_n 1, 1), (6, .ifCond .lt 14, 3), (9, .iload_n 1, 1), (10, .aload_n 0, 1)]),
  (30, [(11, .getfield 71, 3), (14, .getfield 373, 3), (17, .if_icmp .lt 14, 3), (20, .new 254, 3), (23, .dup, 1), (24, .ldc_w 256, 3), (27, .invokespecial 258, 3)]),
  (41, [(30, .athrow, 1), (31, .aload_n 0, 1), (32, .getfield 71, 3), (35, .getfield 376, 3), (38, .iload_n 1, 1), (39, .iaload, 1), (40, .istore_n 3, 1)]),
  (85, [(41, .iload_n 2, 1), (42, .tableswitch 75 0 4 #[34, 36, 46, 56, 66], 34), (76, .iload_n 3, 1), (77, .ireturn, 1), (78, .aload_n 0, 1), (79, .getfield 44, 3), (82, .getfield 379, 3)]),
  (96, [(85, .iload_n 3, 1), (86, .iaload, 1), (87, .ireturn, 1), (88, .aload_n 0, 1), (89, .getfield 44, 3), (92, .getfield 382, 3), (95, .iload_n 3, 1)]),
  (107, [(96, .iaload, 1), (97, .ireturn, 1), (98, .aload_n 0, 1), (99, .getfield 44, 3), (102, .getfield 385, 3), (105, .iload_n 3, 1), (106, .iaload, 1)]),
  (120, [(107, .ireturn, 1), (108, .aload_n 0, 1), (109, .getfield 44, 3), (112, .iload_n 3, 1), (113, .invokevirtual 388, 3), (116, .ireturn, 1), (117, .new 148, 3)]),
  (100000, [(120, .dup, 1), (121, .ldc 249, 2), (123, .invokespecial 152, 3), (126, .athrow, 1)])]
set_option maxRecDepth 100000 in
theorem xd_X12_coreAt : xchk cX12_coreAt xk_X12_coreAt = true := xchk_of (by decide +kernel)
set_option maxRecDepth 100000 in
def xk_X12_count : XT (Instr × Nat) := [(58, [(0, .iload_n 1, 1), (1, .tableswitch 125 0 7 #[47, 58, 69, 77, 88, 101, 112, 120], 47), (48, .aload_n 0, 1), (49, .getfield 19, 3), (52, .getfield 125, 3), (55, .getfield 129, 3)]),
  (70, [(58, .ireturn, 1), (59, .aload_n 0, 1), (60, .getfield 19, 3), (63, .getfield 125, 3), (66, .getfield 222, 3), (69, .ireturn, 1)]),
  (82, [(70, .aload_n 0, 1), (71, .getfield 19, 3), (74, .getfield 225, 3), (77, .ireturn, 1), (78, .aload_n 0, 1), (79, .getfield 19, 3)]),
  (94, [(82, .invokevirtual 228, 3), (85, .invokevirtual 232, 3), (88, .ireturn, 1), (89, .aload_n 0, 1), (90, .iconst 2, 1), (91, .invokevirtual 237, 3)]),
  (106, [(94, .aload_n 0, 1), (95, .getfield 44, 3), (98, .getfield 240, 3), (101, .ireturn, 1), (102, .aload_n 0, 1), (103, .getfield 19, 3)]),
  (120, [(106, .invokevirtual 228, 3), (109, .getfield 243, 3), (112, .ireturn, 1), (113, .aload_n 0, 1), (114, .getfield 19, 3), (117, .getfield 246, 3)]),
  (130, [(120, .ireturn, 1), (121, .aload_n 0, 1), (122, .getfield 86, 3), (125, .ireturn, 1), (126, .new 148, 3), (129, .dup, 1)]),
  (100000, [(130, .ldc 249, 2), (132, .invokespecial 152, 3), (135, .athrow, 1)])]
set_option maxRecDepth 100000 in
theorem xd_X12_count : xchk cX12_count xk_X12_count = true := xchk_of (by decide +kernel)
set_option maxRecDepth 100000 in
def xk_X12_errorPosition : XT (Instr × Nat) := [(100000, [(0, .aload_n 0, 1), (1, .getfield 12, 3), (4, .invokevirtual 122, 3), (7, .ireturn, 1)])]
set_option maxRecDepth 100000 in
theorem xd_X12_errorPosition : xchk cX12_errorPosition xk_X12_errorPosition = true := xchk_of (by decide +kernel)
set_option maxRecDepth 100000 in
def xk_X12_errors_0 : List (Nat × Instr × Nat) := [(0, .aload_n 0, 1), (1, .iconst 4, 1), (2, .invokevirtual 237, 3), (5, .aload_n 0, 1), (6, .invokevirtual 547, 3), (9, .istore_n 1, 1), (10, .aload_n 0, 1), (11, .getfield 62, 3), (14, .iconst 0, 1)]
set_option maxRecDepth 100000 in
theorem xd_X12_errors_0 : xchk1 cX12_errors xk_X12_errors_0 = true := xwalk_of 0 (by decide +kernel)
set_option maxRecDepth 100000 in
def xk_X12_errors_1 : List (Nat × Instr × Nat) := [(15, .invokevirtual 316, 3), (18, .istore_n 2, 1), (19, .iload_n 1, 1), (20, .iconst (-1), 1), (21, .if_icmp .eq 20, 3), (24, .iload_n 2, 1), (25, .iload_n 1, 1), (26, .ifCond .le 7, 3), (29, .iconst 1, 1)]
set_option maxRecDepth 100000 in
theorem xd_X12_errors_1 : xchk1 cX12_errors xk_X12_errors_1 = true := xwalk_of 15 (by decide +kernel)
set_option maxRecDepth 100000 in
def xk_X12_errors_2 : List (Nat × Instr × Nat) := [(30, .goto 4, 3), (33, .iconst 0, 1), (34, .if_icmp .eq 7, 3), (37, .iconst 1, 1), (38, .goto 4, 3), (41, .iconst 0, 1), (42, .istore_n 3, 1), (43, .iload_n 2, 1), (44, .ifCond .eq 72, 3)]
set_option maxRecDepth 100000 in
theorem xd_X12_errors_2 : xchk1 cX12_errors xk_X12_errors_2 = true := xwalk_of 30 (by decide +kernel)
set_option maxRecDepth 100000 in
def xk_X12_errors_3 : List (Nat × Instr × Nat) := [(47, .aload_n 0, 1), (48, .getfield 62, 3), (51, .invokevirtual 320, 3), (54, .iload_n 3, 1), (55, .aload_n 0, 1), (56, .aload_n 0, 1), (57, .getfield 62, 3), (60, .getfield 323, 3), (63, .iconst 0, 1)]
set_option maxRecDepth 100000 in
theorem xd_X12_errors_3 : xchk1 cX12_errors xk_X12_errors_3 = true := xwalk_of 47 (by decide +kernel)
set_option maxRecDepth 100000 in
def xk_X12_errors_4 : List (Nat × Instr × Nat) := [(64, .invokevirtual 550, 3), (67, .ifCond .eq 7, 3), (70, .iconst 1, 1), (71, .goto 4, 3), (74, .iconst 0, 1), (75, .iadd, 1), (76, .istore_n 3, 1), (77, .aload_n 0, 1), (78, .getfield 62, 3)]
set_option maxRecDepth 100000 in
theorem xd_X12_errors_4 : xchk1 cX12_errors xk_X12_errors_4 = true := xwalk_of 64 (by decide +kernel)
set_option maxRecDepth 100000 in
def xk_X12_errors_5 : List (Nat × Instr × Nat) := [(81, .iconst 1, 1), (82, .invokevirtual 316, 3), (85, .pop, 1), (86, .aload_n 0, 1), (87, .getfield 62, 3), (90, .invokevirtual 320, 3), (93, .iload_n 3, 1), (94, .aload_n 0, 1), (95, .aload_n 0, 1)]
set_option maxRecDepth 100000 in
theorem xd_X12_errors_5 : xchk1 cX12_errors xk_X12_errors_5 = true := xwalk_of 81 (by decide +kernel)
set_option maxRecDepth 100000 in
def xk_X12_errors_6 : List (Nat × Instr × Nat) := [(96, .getfield 62, 3), (99, .getfield 323, 3), (102, .iconst 1, 1), (103, .invokevirtual 550, 3), (106, .ifCond .eq 7, 3), (109, .iconst 1, 1), (110, .goto 4, 3), (113, .iconst 0, 1), (114, .iadd, 1)]
set_option maxRecDepth 100000 in
theorem xd_X12_errors_6 : xchk1 cX12_errors xk_X12_errors_6 = true := xwalk_of 96 (by decide +kernel)
set_option maxRecDepth 100000 in
def xk_X12_errors_7 : List (Nat × Instr × Nat) := [(115, .istore_n 3, 1), (116, .iload_n 3, 1), (117, .aload_n 0, 1), (118, .getfield 71, 3), (121, .invokevirtual 554, 3), (124, .ifCond .eq 7, 3), (127, .iconst 1, 1), (128, .goto 4, 3), (131, .iconst 0, 1)]
set_option maxRecDepth 100000 in
theorem xd_X12_errors_7 : xchk1 cX12_errors xk_X12_errors_7 = true := xwalk_of 115 (by decide +kernel)
set_option maxRecDepth 100000 in
def xk_X12_errors_8 : List (Nat × Instr × Nat) := [(132, .iadd, 1), (133, .istore_n 3, 1), (134, .iload_n 3, 1), (135, .aload_n 0, 1), (136, .getfield 71, 3), (139, .invokevirtual 557, 3), (142, .ifCond .eq 7, 3), (145, .iconst 1, 1), (146, .goto 4, 3)]
set_option maxRecDepth 100000 in
theorem xd_X12_errors_8 : xchk1 cX12_errors xk_X12_errors_8 = true := xwalk_of 132 (by decide +kernel)
set_option maxRecDepth 100000 in
def xk_X12_errors_9 : List (Nat × Instr × Nat) := [(149, .iconst 0, 1), (150, .iadd, 1), (151, .istore_n 3, 1), (152, .iload_n 3, 1), (153, .ireturn, 1)]
set_option maxRecDepth 100000 in
theorem xd_X12_errors_9 : xchk1 cX12_errors xk_X12_errors_9 = true := xwalk_of 149 (by decide +kernel)
set_option maxRecDepth 100000 in
def xk_X12_errors : XT (Instr × Nat) := [(15, xk_X12_errors_0),
  (30, xk_X12_errors_1),
  (47, xk_X12_errors_2),
  (64, xk_X12_errors_3),
  (81, xk_X12_errors_4),
  (96, xk_X12_errors_5),
  (115, xk_X12_errors_6),
  (132, xk_X12_errors_7),
  (149, xk_X12_errors_8),
  (100000, xk_X12_errors_9)]
set_option maxRecDepth 100000 in
theorem xd_X12_errors : xchk cX12_errors xk_X12_errors = true := (xchk_cons xd_X12_errors_0 (xchk_cons xd_X12_errors_1 (xchk_cons xd_X12_errors_2 (xchk_cons xd_X12_errors_3 (xchk_cons xd_X12_errors_4 (xchk_cons xd_X12_errors_5 (xchk_cons xd_X12_errors_6 (xchk_cons xd_X12_errors_7 (xchk_cons xd_X12_errors_8 (xchk_cons xd_X12_errors_9 xchk_nil))))))))))
set_option maxRecDepth 100000 in
def xk_X12_fails : XT (Instr × Nat) := [(9, [(0, .aload_n 0, 1), (1, .iload_n 1, 1), (2, .iload_n 2, 1), (3, .invokevirtual 166, 3), (6, .istore 4, 2), (8, .aload_n 0, 1)]),
  (24, [(9, .invokevirtual 136, 3), (12, .aload_n 0, 1), (13, .getfield 19, 3), (16, .getfield 125, 3), (19, .getfield 500, 3), (22, .iload 4, 2)]),
  (39, [(24, .invokestatic 490, 3), (27, .istore 5, 2), (29, .aload_n 0, 1), (30, .getfield 19, 3), (33, .getfield 125, 3), (36, .getfield 500, 3)]),
  (48, [(39, .lconst 1, 1), (40, .iload 4, 2), (42, .lshl, 1), (43, .ldc2_w 503, 3), (46, .lxor, 1), (47, .land, 1)]),
  (61, [(48, .lstore 6, 2), (50, .aload_n 0, 1), (51, .getfield 19, 3), (54, .getfield 125, 3), (57, .iload_n 3, 1), (58, .ifCond .eq 13, 3)]),
  (71, [(61, .lload 6, 2), (63, .lconst 1, 1), (64, .iload 4, 2), (66, .lshl, 1), (67, .lor, 1), (68, .goto 5, 3)]),
  (100000, [(71, .lload 6, 2), (73, .putfield 500, 3), (76, .iload 5, 2), (78, .ireturn, 1)])]
set_option maxRecDepth 100000 in
theorem xd_X12_fails : xchk cX12_fails xk_X12_fails = true := xchk_of (by decide +kernel)
set_option maxRecDepth 100000 in
def xk_X12_failure : XT (Instr × Nat) := [(32, [(0, .iload_n 1, 1), (1, .tableswitch 60 0 2 #[27, 38, 49], 27), (28, .aload_n 0, 1), (29, .getfield 19, 3)]),
  (40, [(32, .invokevirtual 228, 3), (35, .getfield 476, 3), (38, .ireturn, 1), (39, .aload_n 0, 1)]),
  (50, [(40, .getfield 19, 3), (43, .invokevirtual 228, 3), (46, .getfield 479, 3), (49, .ireturn, 1)]),
  (60, [(50, .aload_n 0, 1), (51, .getfield 19, 3), (54, .invokevirtual 228, 3), (57, .getfield 482, 3)]),
  (67, [(60, .ireturn, 1), (61, .new 148, 3), (64, .dup, 1), (65, .ldc 249, 2)]),
  (100000, [(67, .invokespecial 152, 3), (70, .athrow, 1)])]
set_option maxRecDepth 100000 in
theorem xd_X12_failure : xchk cX12_failure xk_X12_failure = true := xchk_of (by decide +kernel)
set_option maxRecDepth 100000 in
def xk_X12_far : XT (Instr × Nat) := [(6, [(0, .aload_n 0, 1), (1, .iload_n 1, 1), (2, .invokevirtual 142, 3), (5, .aload_n 0, 1)]),
  (14, [(6, .invokevirtual 350, 3), (9, .aload_n 0, 1), (10, .getfield 78, 3), (13, .aload_n 0, 1)]),
  (26, [(14, .getfield 19, 3), (17, .invokevirtual 228, 3), (20, .getfield 327, 3), (23, .invokevirtual 363, 3)]),
  (34, [(26, .aload_n 0, 1), (27, .getfield 78, 3), (30, .getfield 370, 3), (33, .iload_n 1, 1)]),
  (100000, [(34, .iaload, 1), (35, .ireturn, 1)])]
set_option maxRecDepth 100000 in
theorem xd_X12_far : xchk cX12_far xk_X12_far = true := xchk_of (by decide +kernel)
set_option maxRecDepth 100000 in
def xk_X12_fetchAt : XT (Instr × Nat) := [(12, [(0, .aload_n 0, 1), (1, .invokevirtual 350, 3), (4, .aload_n 0, 1), (5, .getfield 78, 3), (8, .aload_n 0, 1), (9, .getfield 19, 3)]),
  (28, [(12, .invokevirtual 228, 3), (15, .getfield 327, 3), (18, .invokevirtual 440, 3), (21, .aload_n 0, 1), (22, .getfield 78, 3), (25, .getfield 443, 3)]),
  (42, [(28, .ifCond .eq 14, 3), (31, .new 450, 3), (34, .dup, 1), (35, .ldc_w 452, 3), (38, .invokespecial 454, 3), (41, .athrow, 1)]),
  (54, [(42, .iload_n 1, 1), (43, .ifCond .lt 14, 3), (46, .iload_n 1, 1), (47, .aload_n 0, 1), (48, .getfield 78, 3), (51, .invokevirtual 447, 3)]),
  (68, [(54, .if_icmp .lt 14, 3), (57, .new 254, 3), (60, .dup, 1), (61, .ldc_w 256, 3), (64, .invokespecial 258, 3), (67, .athrow, 1)]),
  (100000, [(68, .aload_n 0, 1), (69, .getfield 78, 3), (72, .iload_n 1, 1), (73, .iload_n 2, 1), (74, .invokevirtual 455, 3), (77, .ireturn, 1)])]
set_option maxRecDepth 100000 in
theorem xd_X12_fetchAt : xchk cX12_fetchAt xk_X12_fetchAt = true := xchk_of (by decide +kernel)
set_option maxRecDepth 100000 in
def xk_X12_fetches : XT (Instr × Nat) := [(8, [(0, .aload_n 0, 1), (1, .invokevirtual 350, 3), (4, .aload_n 0, 1), (5, .getfield 78, 3)]),
  (18, [(8, .aload_n 0, 1), (9, .getfield 19, 3), (12, .invokevirtual 228, 3), (15, .getfield 327, 3)]),
  (28, [(18, .invokevirtual 440, 3), (21, .aload_n 0, 1), (22, .getfield 78, 3), (25, .getfield 443, 3)]),
  (36, [(28, .ifCond .eq 7, 3), (31, .iconst (-1), 1), (32, .goto 10, 3), (35, .aload_n 0, 1)]),
  (100000, [(36, .getfield 78, 3), (39, .invokevirtual 447, 3), (42, .ireturn, 1)])]
set_option maxRecDepth 100000 in
theorem xd_X12_fetches : xchk cX12_fetches xk_X12_fetches = true := xchk_of (by decide +kernel)
set_option maxRecDepth 100000 in
def xk_X12_fitting : XT (Instr × Nat) := [(12, [(0, .aload_n 0, 1), (1, .invokevirtual 350, 3), (4, .aload_n 0, 1), (5, .getfield 35, 3), (8, .invokevirtual 353, 3), (11, .istore_n 1, 1)]),
  (22, [(12, .iload_n 1, 1), (13, .sipush 5000, 3), (16, .if_icmp .le 5, 3), (19, .iconst (-1), 1), (20, .ireturn, 1), (21, .iconst 0, 1)]),
  (30, [(22, .istore_n 2, 1), (23, .iconst 0, 1), (24, .istore_n 3, 1), (25, .iload_n 3, 1), (26, .iload_n 1, 1), (27, .if_icmp .ge 35, 3)]),
  (40, [(30, .iload_n 2, 1), (31, .aload_n 0, 1), (32, .getfield 35, 3), (35, .aload_n 0, 1), (36, .getfield 35, 3), (39, .iload_n 3, 1)]),
  (54, [(40, .invokevirtual 356, 3), (43, .invokevirtual 359, 3), (46, .ifCond .eq 7, 3), (49, .iconst 1, 1), (50, .goto 4, 3), (53, .iconst 0, 1)]),
  (100000, [(54, .iadd, 1), (55, .istore_n 2, 1), (56, .iinc 3 1, 3), (59, .goto (-34), 3), (62, .iload_n 2, 1), (63, .ireturn, 1)])]
set_option maxRecDepth 100000 in
theorem xd_X12_fitting : xchk cX12_fitting xk_X12_fitting = true := xchk_of (by decide +kernel)
set_option maxRecDepth 100000 in
def xk_X12_has : XT (Instr × Nat) := [(4, [(0, .lload_n 0, 1), (1, .iload_n 2, 1), (2, .lshr, 1), (3, .lconst 1, 1)]),
  (10, [(4, .land, 1), (5, .lconst 0, 1), (6, .lcmp, 1), (7, .ifCond .eq 7, 3)]),
  (100000, [(10, .iconst 1, 1), (11, .goto 4, 3), (14, .iconst 0, 1), (15, .ireturn, 1)])]
set_option maxRecDepth 100000 in
theorem xd_X12_has : xchk cX12_has xk_X12_has = true := xchk_of (by decide +kernel)
set_option maxRecDepth 100000 in
def xk_X12_hold : XT (Instr × Nat) := [(9, [(0, .aload_n 0, 1), (1, .iload_n 1, 1), (2, .invokevirtual 142, 3), (5, .aload_n 0, 1), (6, .invokevirtual 136, 3)]),
  (18, [(9, .aload_n 0, 1), (10, .getfield 19, 3), (13, .invokevirtual 228, 3), (16, .astore_n 3, 1), (17, .aload_n 3, 1)]),
  (27, [(18, .iload_n 2, 1), (19, .ifCond .eq 14, 3), (22, .aload_n 3, 1), (23, .getfield 292, 3), (26, .iconst 1, 1)]),
  (34, [(27, .iload_n 1, 1), (28, .ishl, 1), (29, .ior, 1), (30, .goto 13, 3), (33, .aload_n 3, 1)]),
  (41, [(34, .getfield 292, 3), (37, .iconst 1, 1), (38, .iload_n 1, 1), (39, .ishl, 1), (40, .iconst (-1), 1)]),
  (50, [(41, .ixor, 1), (42, .iand, 1), (43, .putfield 292, 3), (46, .aload_n 3, 1), (47, .getfield 292, 3)]),
  (100000, [(50, .invokestatic 295, 3), (53, .ireturn, 1)])]
set_option maxRecDepth 100000 in
theorem xd_X12_hold : xchk cX12_hold xk_X12_hold = true := xchk_of (by decide +kernel)
set_option maxRecDepth 100000 in
def xk_X12_inRange : XT (Instr × Nat) := [(6, [(0, .aload_n 0, 1), (1, .iload_n 1, 1), (2, .invokevirtual 142, 3), (5, .aload_n 0, 1)]),
  (14, [(6, .invokevirtual 265, 3), (9, .astore_n 2, 1), (10, .aload_n 0, 1), (11, .getfield 19, 3)]),
  (22, [(14, .getfield 125, 3), (17, .iload_n 1, 1), (18, .aload_n 2, 1), (19, .invokevirtual 269, 3)]),
  (100000, [(22, .invokestatic 216, 3), (25, .ireturn, 1)])]
set_option maxRecDepth 100000 in
theorem xd_X12_inRange : xchk cX12_inRange xk_X12_inRange = true := xchk_of (by decide +kernel)
set_option maxRecDepth 100000 in
def xk_X12_init_0 : List (Nat × Instr × Nat) := [(0, .aload_n 0, 1), (1, .invokespecial 3, 3), (4, .aload_n 0, 1), (5, .new 9, 3), (8, .dup, 1), (9, .invokespecial 11, 3), (12, .putfield 12, 3), (15, .aload_n 0, 1), (16, .new 16, 3)]
set_option maxRecDepth 100000 in
theorem xd_X12_init_0 : xchk1 cX12_init xk_X12_init_0 = true := xwalk_of 0 (by decide +kernel)
set_option maxRecDepth 100000 in
def xk_X12_init_1 : List (Nat × Instr × Nat) := [(19, .dup, 1), (20, .invokespecial 18, 3), (23, .putfield 19, 3), (26, .aload_n 0, 1), (27, .new 23, 3), (30, .dup, 1), (31, .invokespecial 25, 3), (34, .putfield 26, 3), (37, .aload_n 0, 1)]
set_option maxRecDepth 100000 in
theorem xd_X12_init_1 : xchk1 cX12_init xk_X12_init_1 = true := xwalk_of 19 (by decide +kernel)
set_option maxRecDepth 100000 in
def xk_X12_init_2 : List (Nat × Instr × Nat) := [(38, .new 30, 3), (41, .dup, 1), (42, .aload_n 0, 1), (43, .getfield 19, 3), (46, .invokespecial 32, 3), (49, .putfield 35, 3), (52, .aload_n 0, 1), (53, .new 39, 3), (56, .dup, 1)]
set_option maxRecDepth 100000 in
theorem xd_X12_init_2 : xchk1 cX12_init xk_X12_init_2 = true := xwalk_of 38 (by decide +kernel)
set_option maxRecDepth 100000 in
def xk_X12_init_3 : List (Nat × Instr × Nat) := [(57, .aload_n 0, 1), (58, .getfield 19, 3), (61, .aload_n 0, 1), (62, .getfield 35, 3), (65, .invokespecial 41, 3), (68, .putfield 44, 3), (71, .aload_n 0, 1), (72, .new 48, 3), (75, .dup, 1)]
set_option maxRecDepth 100000 in
theorem xd_X12_init_3 : xchk1 cX12_init xk_X12_init_3 = true := xwalk_of 57 (by decide +kernel)
set_option maxRecDepth 100000 in
def xk_X12_init_4 : List (Nat × Instr × Nat) := [(76, .aload_n 0, 1), (77, .getfield 44, 3), (80, .invokespecial 50, 3), (83, .putfield 53, 3), (86, .aload_n 0, 1), (87, .new 57, 3), (90, .dup, 1), (91, .aload_n 0, 1), (92, .getfield 19, 3)]
set_option maxRecDepth 100000 in
theorem xd_X12_init_4 : xchk1 cX12_init xk_X12_init_4 = true := xwalk_of 76 (by decide +kernel)
set_option maxRecDepth 100000 in
def xk_X12_init_5 : List (Nat × Instr × Nat) := [(95, .aload_n 0, 1), (96, .getfield 53, 3), (99, .invokespecial 59, 3), (102, .putfield 62, 3), (105, .aload_n 0, 1), (106, .new 66, 3), (109, .dup, 1), (110, .aload_n 0, 1), (111, .getfield 44, 3)]
set_option maxRecDepth 100000 in
theorem xd_X12_init_5 : xchk1 cX12_init xk_X12_init_5 = true := xwalk_of 95 (by decide +kernel)
set_option maxRecDepth 100000 in
def xk_X12_init_6 : List (Nat × Instr × Nat) := [(114, .aload_n 0, 1), (115, .getfield 53, 3), (118, .invokespecial 68, 3), (121, .putfield 71, 3), (124, .aload_n 0, 1), (125, .new 75, 3), (128, .dup, 1), (129, .aload_n 0, 1), (130, .getfield 19, 3)]
set_option maxRecDepth 100000 in
theorem xd_X12_init_6 : xchk1 cX12_init xk_X12_init_6 = true := xwalk_of 114 (by decide +kernel)
set_option maxRecDepth 100000 in
def xk_X12_init_7 : List (Nat × Instr × Nat) := [(133, .aload_n 0, 1), (134, .getfield 35, 3), (137, .invokespecial 77, 3), (140, .putfield 78, 3), (143, .aload_n 0, 1), (144, .iconst 0, 1), (145, .putfield 82, 3), (148, .aload_n 0, 1), (149, .iconst 0, 1)]
set_option maxRecDepth 100000 in
theorem xd_X12_init_7 : xchk1 cX12_init xk_X12_init_7 = true := xwalk_of 133 (by decide +kernel)
set_option maxRecDepth 100000 in
def xk_X12_init_8 : List (Nat × Instr × Nat) := [(150, .putfield 86, 3), (153, .aload_n 0, 1), (154, .iconst 0, 1), (155, .putfield 89, 3), (158, .iconst 0, 1), (159, .istore_n 1, 1), (160, .iload_n 1, 1), (161, .bipush 10, 2), (163, .if_icmp .ge 24, 3)]
set_option maxRecDepth 100000 in
theorem xd_X12_init_8 : xchk1 cX12_init xk_X12_init_8 = true := xwalk_of 150 (by decide +kernel)
set_option maxRecDepth 100000 in
def xk_X12_init_9 : List (Nat × Instr × Nat) := [(166, .aload_n 0, 1), (167, .getfield 26, 3), (170, .new 16, 3), (173, .dup, 1), (174, .invokespecial 18, 3), (177, .invokevirtual 92, 3), (180, .pop, 1), (181, .iinc 1 1, 3), (184, .goto (-24), 3)]
set_option maxRecDepth 100000 in
theorem xd_X12_init_9 : xchk1 cX12_init xk_X12_init_9 = true := xwalk_of 166 (by decide +kernel)
set_option maxRecDepth 100000 in
def xk_X12_init_10 : List (Nat × Instr × Nat) := [(187, .return_, 1)]
set_option maxRecDepth 100000 in
theorem xd_X12_init_10 : xchk1 cX12_init xk_X12_init_10 = true := xwalk_of 187 (by decide +kernel)
set_option maxRecDepth 100000 in
def xk_X12_init : XT (Instr × Nat) := [(19, xk_X12_init_0),
  (38, xk_X12_init_1),
  (57, xk_X12_init_2),
  (76, xk_X12_init_3),
  (95, xk_X12_init_4),
  (114, xk_X12_init_5),
  (133, xk_X12_init_6),
  (150, xk_X12_init_7),
  (166, xk_X12_init_8),
  (187, xk_X12_init_9),
  (100000, xk_X12_init_10)]
set_option maxRecDepth 100000 in
theorem xd_X12_init : xchk cX12_init xk_X12_init = true := (xchk_cons xd_X12_init_0 (xchk_cons xd_X12_init_1 (xchk_cons xd_X12_init_2 (xchk_cons xd_X12_init_3 (xchk_cons xd_X12_init_4 (xchk_cons xd_X12_init_5 (xchk_cons xd_X12_init_6 (xchk_cons xd_X12_init_7 (xchk_cons xd_X12_init_8 (xchk_cons xd_X12_init_9 (xchk_cons xd_X12_init_10 xchk_nil)))))))))))
set_option maxRecDepth 100000 in
def xk_X12_install : XT (Instr × Nat) := [(8, [(0, .aload_n 0, 1), (1, .invokevirtual 459, 3), (4, .aload_n 0, 1), (5, .invokevirtual 136, 3)]),
  (16, [(8, .aload_n 0, 1), (9, .invokevirtual 350, 3), (12, .aload_n 0, 1), (13, .getfield 78, 3)]),
  (100000, [(16, .invokevirtual 473, 3), (19, .ireturn, 1)])]
set_option maxRecDepth 100000 in
theorem xd_X12_install : xchk cX12_install xk_X12_install = true := xchk_of (by decide +kernel)
set_option maxRecDepth 100000 in
def xk_X12_installed : XT (Instr × Nat) := [(6, [(0, .aload_n 0, 1), (1, .iload_n 1, 1), (2, .invokevirtual 142, 3), (5, .aload_n 0, 1)]),
  (16, [(6, .aload_n 0, 1), (7, .getfield 19, 3), (10, .invokevirtual 228, 3), (13, .getfield 340, 3)]),
  (100000, [(16, .iload_n 1, 1), (17, .invokevirtual 485, 3), (20, .ireturn, 1)])]
set_option maxRecDepth 100000 in
theorem xd_X12_installed : xchk cX12_installed xk_X12_installed = true := xchk_of (by decide +kernel)
set_option maxRecDepth 100000 in
def xk_X12_isBeaten : XT (Instr × Nat) := [(17, [(0, .aload_n 0, 1), (1, .aload_n 0, 1), (2, .getfield 19, 3), (5, .invokevirtual 228, 3), (8, .getfield 340, 3), (11, .lload_n 1, 1), (12, .invokevirtual 343, 3), (15, .istore 4, 2)]),
  (33, [(17, .aload_n 0, 1), (18, .getfield 35, 3), (21, .invokevirtual 353, 3), (24, .istore 5, 2), (26, .iconst 0, 1), (27, .istore 6, 2), (29, .iload 6, 2), (31, .iload 5, 2)]),
  (53, [(33, .if_icmp .ge 92, 3), (36, .iload 5, 2), (38, .sipush 5000, 3), (41, .if_icmp .gt 84, 3), (44, .aload_n 0, 1), (45, .getfield 35, 3), (48, .iload 6, 2), (50, .invokevirtual 356, 3)]),
  (70, [(53, .lstore 7, 2), (55, .iload_n 3, 1), (56, .ifCond .eq 32, 3), (59, .aload_n 0, 1), (60, .aload_n 0, 1), (61, .getfield 19, 3), (64, .invokevirtual 228, 3), (67, .getfield 340, 3)]),
  (88, [(70, .lload 7, 2), (72, .invokevirtual 343, 3), (75, .iload 4, 2), (77, .if_icmp .ge 7, 3), (80, .iconst 1, 1), (81, .goto 17, 3), (84, .iconst 0, 1), (85, .goto 13, 3)]),
  (105, [(88, .aload_n 0, 1), (89, .getfield 62, 3), (92, .lload 7, 2), (94, .lload_n 1, 1), (95, .invokevirtual 604, 3), (98, .istore 9, 2), (100, .iload 9, 2), (102, .ifCond .eq 17, 3)]),
  (122, [(105, .aload_n 0, 1), (106, .getfield 35, 3), (109, .lload 7, 2), (111, .invokevirtual 359, 3), (114, .ifCond .eq 5, 3), (117, .iconst 1, 1), (118, .ireturn, 1), (119, .iinc 6 1, 3)]),
  (140, [(122, .goto (-93), 3), (125, .aload_n 0, 1), (126, .getfield 35, 3), (129, .lload_n 1, 1), (130, .invokevirtual 359, 3), (133, .ifCond .ne 7, 3), (136, .iconst 1, 1), (137, .goto 4, 3)]),
  (100000, [(140, .iconst 0, 1), (141, .ireturn, 1)])]
set_option maxRecDepth 100000 in
theorem xd_X12_isBeaten : xchk cX12_isBeaten xk_X12_isBeaten = true := xchk_of (by decide +kernel)
set_option maxRecDepth 100000 in
def xk_X12_isCode : XT (Instr × Nat) := [(8, [(0, .iload_n 0, 1), (1, .ifCond .lt 21, 3), (4, .iload_n 0, 1), (5, .ldc_w 561, 3)]),
  (15, [(8, .if_icmp .ge 14, 3), (11, .iload_n 0, 1), (12, .bipush 100, 2), (14, .irem, 1)]),
  (23, [(15, .ifCond .eq 7, 3), (18, .iconst 1, 1), (19, .goto 4, 3), (22, .iconst 0, 1)]),
  (100000, [(23, .ireturn, 1)])]
set_option maxRecDepth 100000 in
theorem xd_X12_isCode : xchk cX12_isCode xk_X12_isCode = true := xchk_of (by decide +kernel)
set_option maxRecDepth 100000 in
def xk_X12_isOn : XT (Instr × Nat) := [(6, [(0, .aload_n 0, 1), (1, .iload_n 1, 1), (2, .invokevirtual 142, 3), (5, .aload_n 0, 1)]),
  (16, [(6, .getfield 19, 3), (9, .invokevirtual 228, 3), (12, .getfield 327, 3), (15, .iload_n 1, 1)]),
  (22, [(16, .invokestatic 337, 3), (19, .land, 1), (20, .lconst 0, 1), (21, .lcmp, 1)]),
  (30, [(22, .ifCond .eq 7, 3), (25, .iconst 1, 1), (26, .goto 4, 3), (29, .iconst 0, 1)]),
  (100000, [(30, .ireturn, 1)])]
set_option maxRecDepth 100000 in
theorem xd_X12_isOn : xchk cX12_isOn xk_X12_isOn = true := xchk_of (by decide +kernel)
set_option maxRecDepth 100000 in
def xk_X12_isSound : XT (Instr × Nat) := [(6, [(0, .aload_n 0, 1), (1, .invokevirtual 350, 3), (4, .iconst 0, 1), (5, .istore_n 1, 1)]),
  (12, [(6, .iload_n 1, 1), (7, .iconst 3, 1), (8, .if_icmp .ge 32, 3), (11, .aload_n 0, 1)]),
  (20, [(12, .getfield 35, 3), (15, .aload_n 0, 1), (16, .getfield 19, 3), (19, .iload_n 1, 1)]),
  (32, [(20, .invokevirtual 540, 3), (23, .getfield 340, 3), (26, .invokevirtual 544, 3), (29, .ifCond .ne 5, 3)]),
  (40, [(32, .iconst 0, 1), (33, .ireturn, 1), (34, .iinc 1 1, 3), (37, .goto (-31), 3)]),
  (100000, [(40, .iconst 1, 1), (41, .ireturn, 1)])]
set_option maxRecDepth 100000 in
theorem xd_X12_isSound : xchk cX12_isSound xk_X12_isSound = true := xchk_of (by decide +kernel)
set_option maxRecDepth 100000 in
def xk_X12_know : XT (Instr × Nat) := [(12, [(0, .aload_n 0, 1), (1, .invokevirtual 350, 3), (4, .aload_n 0, 1), (5, .getfield 89, 3), (8, .iconst 2, 1), (9, .if_icmp .ge 20, 3)]),
  (24, [(12, .iload_n 1, 1), (13, .iconst 2, 1), (14, .if_icmp .lt 15, 3), (17, .aload_n 0, 1), (18, .getfield 44, 3), (21, .invokevirtual 589, 3)]),
  (34, [(24, .aload_n 0, 1), (25, .iconst 2, 1), (26, .putfield 89, 3), (29, .aload_n 0, 1), (30, .getfield 89, 3), (33, .iconst 3, 1)]),
  (46, [(34, .if_icmp .ge 20, 3), (37, .iload_n 1, 1), (38, .iconst 3, 1), (39, .if_icmp .lt 15, 3), (42, .aload_n 0, 1), (43, .getfield 71, 3)]),
  (58, [(46, .invokevirtual 592, 3), (49, .aload_n 0, 1), (50, .iconst 3, 1), (51, .putfield 89, 3), (54, .aload_n 0, 1), (55, .getfield 89, 3)]),
  (68, [(58, .iconst 4, 1), (59, .if_icmp .ge 20, 3), (62, .iload_n 1, 1), (63, .iconst 4, 1), (64, .if_icmp .lt 15, 3), (67, .aload_n 0, 1)]),
  (100000, [(68, .getfield 71, 3), (71, .invokevirtual 595, 3), (74, .aload_n 0, 1), (75, .iconst 4, 1), (76, .putfield 89, 3), (79, .return_, 1)])]
set_option maxRecDepth 100000 in
theorem xd_X12_know : xchk cX12_know xk_X12_know = true := xchk_of (by decide +kernel)
set_option maxRecDepth 100000 in
def xk_X12_knowMet : XT (Instr × Nat) := [(8, [(0, .aload_n 0, 1), (1, .getfield 89, 3), (4, .iconst 1, 1), (5, .if_icmp .ge 15, 3)]),
  (16, [(8, .aload_n 0, 1), (9, .getfield 35, 3), (12, .invokevirtual 586, 3), (15, .aload_n 0, 1)]),
  (100000, [(16, .iconst 1, 1), (17, .putfield 89, 3), (20, .return_, 1)])]
set_option maxRecDepth 100000 in
theorem xd_X12_knowMet : xchk cX12_knowMet xk_X12_knowMet = true := xchk_of (by decide +kernel)
set_option maxRecDepth 100000 in
def xk_X12_literalAt : XT (Instr × Nat) := [(10, [(0, .aload_n 0, 1), (1, .iconst 4, 1), (2, .invokevirtual 237, 3), (5, .iload_n 1, 1), (6, .ifCond .lt 30, 3), (9, .iload_n 1, 1)]),
  (24, [(10, .aload_n 0, 1), (11, .getfield 71, 3), (14, .getfield 391, 3), (17, .if_icmp .ge 19, 3), (20, .iload_n 2, 1), (21, .ifCond .lt 15, 3)]),
  (36, [(24, .iload_n 2, 1), (25, .aload_n 0, 1), (26, .getfield 71, 3), (29, .iload_n 1, 1), (30, .invokevirtual 402, 3), (33, .if_icmp .lt 14, 3)]),
  (48, [(36, .new 254, 3), (39, .dup, 1), (40, .ldc_w 403, 3), (43, .invokespecial 258, 3), (46, .athrow, 1), (47, .aload_n 0, 1)]),
  (58, [(48, .aload_n 0, 1), (49, .getfield 71, 3), (52, .getfield 405, 3), (55, .iload_n 1, 1), (56, .laload, 1), (57, .aload_n 0, 1)]),
  (70, [(58, .getfield 71, 3), (61, .getfield 409, 3), (64, .iload_n 1, 1), (65, .laload, 1), (66, .iload_n 2, 1), (67, .invokevirtual 412, 3)]),
  (100000, [(70, .ireturn, 1)])]
set_option maxRecDepth 100000 in
theorem xd_X12_literalAt : xchk cX12_literalAt xk_X12_literalAt = true := xchk_of (by decide +kernel)
set_option maxRecDepth 100000 in
def xk_X12_literalIn_0 : List (Nat × Instr × Nat) := [(0, .aload_n 0, 1), (1, .getfield 19, 3), (4, .getfield 125, 3), (7, .astore 6, 2), (9, .iload 5, 2), (11, .istore 7, 2), (13, .iconst 0, 1), (14, .istore 8, 2), (16, .iload 8, 2)]
set_option maxRecDepth 100000 in
theorem xd_X12_literalIn_0 : xchk1 cX12_literalIn xk_X12_literalIn_0 = true := xwalk_of 0 (by decide +kernel)
set_option maxRecDepth 100000 in
def xk_X12_literalIn_1 : List (Nat × Instr × Nat) := [(18, .aload 6, 2), (20, .getfield 129, 3), (23, .if_icmp .ge 155, 3), (26, .iconst 0, 1), (27, .istore 9, 2), (29, .iload 9, 2), (31, .aload 6, 2), (33, .getfield 251, 3), (36, .iload 8, 2)]
set_option maxRecDepth 100000 in
theorem xd_X12_literalIn_1 : xchk1 cX12_literalIn xk_X12_literalIn_1 = true := xwalk_of 18 (by decide +kernel)
set_option maxRecDepth 100000 in
def xk_X12_literalIn_2 : List (Nat × Instr × Nat) := [(38, .iaload, 1), (39, .if_icmp .gt 133, 3), (42, .iload 9, 2), (44, .aload 6, 2), (46, .getfield 251, 3), (49, .iload 8, 2), (51, .iaload, 1), (52, .if_icmp .ne 7, 3), (55, .iconst 1, 1)]
set_option maxRecDepth 100000 in
theorem xd_X12_literalIn_2 : xchk1 cX12_literalIn xk_X12_literalIn_2 = true := xwalk_of 38 (by decide +kernel)
set_option maxRecDepth 100000 in
def xk_X12_literalIn_3 : List (Nat × Instr × Nat) := [(56, .goto 4, 3), (59, .iconst 0, 1), (60, .istore 10, 2), (62, .iload 10, 2), (64, .ifCond .eq 7, 3), (67, .iconst (-1), 1), (68, .goto 12, 3), (71, .aload 6, 2), (73, .iload 8, 2)]
set_option maxRecDepth 100000 in
theorem xd_X12_literalIn_3 : xchk1 cX12_literalIn xk_X12_literalIn_3 = true := xwalk_of 56 (by decide +kernel)
set_option maxRecDepth 100000 in
def xk_X12_literalIn_4 : List (Nat × Instr × Nat) := [(75, .iload 9, 2), (77, .invokevirtual 262, 3), (80, .istore 11, 2), (82, .iload 10, 2), (84, .ifCond .eq 11, 3), (87, .iload 8, 2), (89, .invokestatic 337, 3), (92, .goto 7, 3), (95, .lconst 1, 1)]
set_option maxRecDepth 100000 in
theorem xd_X12_literalIn_4 : xchk1 cX12_literalIn xk_X12_literalIn_4 = true := xwalk_of 75 (by decide +kernel)
set_option maxRecDepth 100000 in
def xk_X12_literalIn_5 : List (Nat × Instr × Nat) := [(96, .iload 11, 2), (98, .lshl, 1), (99, .lstore 12, 2), (101, .lload_n 1, 1), (102, .lload_n 3, 1), (103, .lor, 1), (104, .lload 12, 2), (106, .land, 1), (107, .lconst 0, 1)]
set_option maxRecDepth 100000 in
theorem xd_X12_literalIn_5 : xchk1 cX12_literalIn xk_X12_literalIn_5 = true := xwalk_of 96 (by decide +kernel)
set_option maxRecDepth 100000 in
def xk_X12_literalIn_6 : List (Nat × Instr × Nat) := [(108, .lcmp, 1), (109, .ifCond .eq 57, 3), (112, .ldc_w 561, 3), (115, .iload 8, 2), (117, .imul, 1), (118, .iload 10, 2), (120, .ifCond .eq 7, 3), (123, .iconst 0, 1), (124, .goto 11, 3)]
set_option maxRecDepth 100000 in
theorem xd_X12_literalIn_6 : xchk1 cX12_literalIn xk_X12_literalIn_6 = true := xwalk_of 108 (by decide +kernel)
set_option maxRecDepth 100000 in
def xk_X12_literalIn_7 : List (Nat × Instr × Nat) := [(127, .aload 6, 2), (129, .getfield 259, 3), (132, .iload 11, 2), (134, .iaload, 1), (135, .iadd, 1), (136, .istore 14, 2), (138, .iload 7, 2), (140, .ifCond .ne 23, 3), (143, .lload_n 1, 1)]
set_option maxRecDepth 100000 in
theorem xd_X12_literalIn_7 : xchk1 cX12_literalIn xk_X12_literalIn_7 = true := xwalk_of 127 (by decide +kernel)
set_option maxRecDepth 100000 in
def xk_X12_literalIn_8 : List (Nat × Instr × Nat) := [(144, .lload 12, 2), (146, .land, 1), (147, .lconst 0, 1), (148, .lcmp, 1), (149, .ifCond .eq 8, 3), (152, .iload 14, 2), (154, .goto 8, 3), (157, .iload 14, 2), (159, .ineg, 1)]
set_option maxRecDepth 100000 in
theorem xd_X12_literalIn_8 : xchk1 cX12_literalIn xk_X12_literalIn_8 = true := xwalk_of 144 (by decide +kernel)
set_option maxRecDepth 100000 in
def xk_X12_literalIn_9 : List (Nat × Instr × Nat) := [(160, .iconst 1, 1), (161, .isub, 1), (162, .ireturn, 1), (163, .iinc 7 (-1), 3), (166, .iinc 9 1, 3), (169, .goto (-140), 3), (172, .iinc 8 1, 3), (175, .goto (-159), 3), (178, .iconst (-1), 1)]
set_option maxRecDepth 100000 in
theorem xd_X12_literalIn_9 : xchk1 cX12_literalIn xk_X12_literalIn_9 = true := xwalk_of 160 (by decide +kernel)
set_option maxRecDepth 100000 in
def xk_X12_literalIn_10 : List (Nat × Instr × Nat) := [(179, .ireturn, 1)]
set_option maxRecDepth 100000 in
theorem xd_X12_literalIn_10 : xchk1 cX12_literalIn xk_X12_literalIn_10 = true := xwalk_of 179 (by decide +kernel)
set_option maxRecDepth 100000 in
def xk_X12_literalIn : XT (Instr × Nat) := [(18, xk_X12_literalIn_0),
  (38, xk_X12_literalIn_1),
  (56, xk_X12_literalIn_2),
  (75, xk_X12_literalIn_3),
  (96, xk_X12_literalIn_4),
  (108, xk_X12_literalIn_5),
  (127, xk_X12_literalIn_6),
  (144, xk_X12_literalIn_7),
  (160, xk_X12_literalIn_8),
  (179, xk_X12_literalIn_9),
  (100000, xk_X12_literalIn_10)]
set_option maxRecDepth 100000 in
theorem xd_X12_literalIn : xchk cX12_literalIn xk_X12_literalIn = true := (xchk_cons xd_X12_literalIn_0 (xchk_cons xd_X12_literalIn_1 (xchk_cons xd_X12_literalIn_2 (xchk_cons xd_X12_literalIn_3 (xchk_cons xd_X12_literalIn_4 (xchk_cons xd_X12_literalIn_5 (xchk_cons xd_X12_literalIn_6 (xchk_cons xd_X12_literalIn_7 (xchk_cons xd_X12_literalIn_8 (xchk_cons xd_X12_literalIn_9 (xchk_cons xd_X12_literalIn_10 xchk_nil)))))))))))
set_option maxRecDepth 100000 in
def xk_X12_lock : XT (Instr × Nat) := [(8, [(0, .iload_n 1, 1), (1, .invokestatic 416, 3), (4, .aload_n 0, 1), (5, .invokevirtual 136, 3)]),
  (16, [(8, .aload_n 0, 1), (9, .getfield 19, 3), (12, .getfield 419, 3), (15, .iload_n 1, 1)]),
  (26, [(16, .aload_n 0, 1), (17, .getfield 19, 3), (20, .invokevirtual 228, 3), (23, .getfield 327, 3)]),
  (34, [(26, .lastore, 1), (27, .aload_n 0, 1), (28, .getfield 19, 3), (31, .getfield 419, 3)]),
  (100000, [(34, .iload_n 1, 1), (35, .laload, 1), (36, .invokestatic 330, 3), (39, .ireturn, 1)])]
set_option maxRecDepth 100000 in
theorem xd_X12_lock : xchk cX12_lock xk_X12_lock = true := xchk_of (by decide +kernel)
set_option maxRecDepth 100000 in
def xk_X12_lockDiffers : XT (Instr × Nat) := [(8, [(0, .iload_n 1, 1), (1, .invokestatic 416, 3), (4, .iload_n 2, 1), (5, .invokestatic 416, 3)]),
  (16, [(8, .aload_n 0, 1), (9, .aload_n 0, 1), (10, .getfield 19, 3), (13, .getfield 419, 3)]),
  (22, [(16, .iload_n 1, 1), (17, .laload, 1), (18, .aload_n 0, 1), (19, .getfield 19, 3)]),
  (30, [(22, .getfield 419, 3), (25, .iload_n 2, 1), (26, .laload, 1), (27, .invokevirtual 343, 3)]),
  (100000, [(30, .ireturn, 1)])]
set_option maxRecDepth 100000 in
theorem xd_X12_lockDiffers : xchk cX12_lockDiffers xk_X12_lockDiffers = true := xchk_of (by decide +kernel)
set_option maxRecDepth 100000 in
def xk_X12_meanSize : XT (Instr × Nat) := [(10, [(0, .aload_n 0, 1), (1, .getfield 19, 3), (4, .invokevirtual 228, 3), (7, .getfield 340, 3)]),
  (18, [(10, .invokestatic 330, 3), (13, .istore_n 1, 1), (14, .iload_n 1, 1), (15, .ifCond .ne 5, 3)]),
  (24, [(18, .dconst 0, 1), (19, .dreturn, 1), (20, .aload_n 0, 1), (21, .invokevirtual 560, 3)]),
  (28, [(24, .i2d, 1), (25, .iload_n 1, 1), (26, .i2d, 1), (27, .ddiv, 1)]),
  (100000, [(28, .dreturn, 1)])]
set_option maxRecDepth 100000 in
theorem xd_X12_meanSize : xchk cX12_meanSize xk_X12_meanSize = true := xchk_of (by decide +kernel)
set_option maxRecDepth 100000 in
def xk_X12_mergeLocks : XT (Instr × Nat) := [(8, [(0, .iload_n 1, 1), (1, .invokestatic 416, 3), (4, .iload_n 2, 1), (5, .invokestatic 416, 3)]),
  (14, [(8, .aload_n 0, 1), (9, .invokevirtual 136, 3), (12, .aload_n 0, 1), (13, .aload_n 0, 1)]),
  (22, [(14, .aload_n 0, 1), (15, .getfield 19, 3), (18, .getfield 419, 3), (21, .iload_n 1, 1)]),
  (30, [(22, .laload, 1), (23, .aload_n 0, 1), (24, .getfield 19, 3), (27, .getfield 419, 3)]),
  (38, [(30, .iload_n 2, 1), (31, .laload, 1), (32, .invokevirtual 422, 3), (35, .invokevirtual 426, 3)]),
  (100000, [(38, .ireturn, 1)])]
set_option maxRecDepth 100000 in
theorem xd_X12_mergeLocks : xchk cX12_mergeLocks xk_X12_mergeLocks = true := xchk_of (by decide +kernel)
set_option maxRecDepth 100000 in
def xk_X12_merged : XT (Instr × Nat) := [(15, [(0, .lconst 0, 1), (1, .lstore 5, 2), (3, .iconst 0, 1), (4, .istore 7, 2), (6, .iload 7, 2), (8, .aload_n 0, 1), (9, .getfield 19, 3), (12, .getfield 125, 3)]),
  (34, [(15, .getfield 129, 3), (18, .if_icmp .ge 116, 3), (21, .aload_n 0, 1), (22, .getfield 19, 3), (25, .getfield 125, 3), (28, .lload_n 1, 1), (29, .iload 7, 2), (31, .invokevirtual 510, 3)]),
  (51, [(34, .istore 8, 2), (36, .aload_n 0, 1), (37, .getfield 19, 3), (40, .getfield 125, 3), (43, .lload_n 3, 1), (44, .iload 7, 2), (46, .invokevirtual 510, 3), (49, .istore 9, 2)]),
  (69, [(51, .aload_n 0, 1), (52, .getfield 19, 3), (55, .getfield 125, 3), (58, .iload 8, 2), (60, .iload 9, 2), (62, .invokevirtual 601, 3), (65, .istore 10, 2), (67, .iload 10, 2)]),
  (82, [(69, .iconst (-1), 1), (70, .if_icmp .eq 58, 3), (73, .lload 5, 2), (75, .lconst 1, 1), (76, .iload 10, 2), (78, .lshl, 1), (79, .lor, 1), (80, .lstore 5, 2)]),
  (98, [(82, .lload 5, 2), (84, .iload 8, 2), (86, .iload 10, 2), (88, .if_icmp .ne 13, 3), (91, .lload_n 1, 1), (92, .iload 7, 2), (94, .invokestatic 337, 3), (97, .land, 1)]),
  (114, [(98, .goto 4, 3), (101, .lconst 0, 1), (102, .lor, 1), (103, .lstore 5, 2), (105, .lload 5, 2), (107, .iload 9, 2), (109, .iload 10, 2), (111, .if_icmp .ne 13, 3)]),
  (128, [(114, .lload_n 3, 1), (115, .iload 7, 2), (117, .invokestatic 337, 3), (120, .land, 1), (121, .goto 4, 3), (124, .lconst 0, 1), (125, .lor, 1), (126, .lstore 5, 2)]),
  (100000, [(128, .iinc 7 1, 3), (131, .goto (-125), 3), (134, .lload 5, 2), (136, .lreturn, 1)])]
set_option maxRecDepth 100000 in
theorem xd_X12_merged : xchk cX12_merged xk_X12_merged = true := xchk_of (by decide +kernel)
set_option maxRecDepth 100000 in
def xk_X12_mirror : XT (Instr × Nat) := [(11, [(0, .aload_n 0, 1), (1, .getfield 19, 3), (4, .getfield 225, 3), (7, .iconst 3, 1), (8, .if_icmp .lt 14, 3)]),
  (22, [(11, .new 104, 3), (14, .dup, 1), (15, .ldc_w 429, 3), (18, .invokespecial 108, 3), (21, .athrow, 1)]),
  (33, [(22, .aload_n 0, 1), (23, .invokevirtual 136, 3), (26, .aload_n 0, 1), (27, .getfield 19, 3), (30, .getfield 225, 3)]),
  (42, [(33, .istore_n 1, 1), (34, .aload_n 0, 1), (35, .getfield 19, 3), (38, .dup, 1), (39, .getfield 225, 3)]),
  (100000, [(42, .iconst 1, 1), (43, .iadd, 1), (44, .putfield 225, 3), (47, .iload_n 1, 1), (48, .ireturn, 1)])]
set_option maxRecDepth 100000 in
theorem xd_X12_mirror : xchk cX12_mirror xk_X12_mirror = true := xchk_of (by decide +kernel)
set_option maxRecDepth 100000 in
def xk_X12_must : XT (Instr × Nat) := [(6, [(0, .aload_n 0, 1), (1, .iload_n 1, 1), (2, .iload_n 2, 1), (3, .invokevirtual 166, 3)]),
  (12, [(6, .istore_n 3, 1), (7, .aload_n 0, 1), (8, .iconst 2, 1), (9, .invokevirtual 237, 3)]),
  (18, [(12, .aload_n 0, 1), (13, .getfield 62, 3), (16, .lconst 1, 1), (17, .iload_n 3, 1)]),
  (100000, [(18, .lshl, 1), (19, .invokevirtual 347, 3), (22, .ireturn, 1)])]
set_option maxRecDepth 100000 in
theorem xd_X12_must : xchk cX12_must xk_X12_must = true := xchk_of (by decide +kernel)
set_option maxRecDepth 100000 in
def xk_X12_need : XT (Instr × Nat) := [(9, [(0, .aload_n 0, 1), (1, .iload_n 1, 1), (2, .iload_n 2, 1), (3, .invokevirtual 166, 3), (6, .istore 4, 2), (8, .aload_n 0, 1)]),
  (22, [(9, .getfield 19, 3), (12, .getfield 125, 3), (15, .getfield 169, 3), (18, .iload 4, 2), (20, .iaload, 1), (21, .iconst 3, 1)]),
  (37, [(22, .if_icmp .ge 15, 3), (25, .aload_n 0, 1), (26, .getfield 19, 3), (29, .iload 4, 2), (31, .invokevirtual 173, 3), (34, .ifCond .eq 13, 3)]),
  (48, [(37, .new 104, 3), (40, .dup, 1), (41, .ldc 176, 2), (43, .invokespecial 108, 3), (46, .athrow, 1), (47, .aload_n 0, 1)]),
  (59, [(48, .iconst 0, 1), (49, .invokevirtual 178, 3), (52, .astore 5, 2), (54, .aload_n 0, 1), (55, .invokevirtual 136, 3), (58, .aload_n 0, 1)]),
  (73, [(59, .getfield 19, 3), (62, .getfield 125, 3), (65, .iload 4, 2), (67, .aload 5, 2), (69, .iload_n 3, 1), (70, .invokevirtual 182, 3)]),
  (100000, [(73, .ireturn, 1)])]
set_option maxRecDepth 100000 in
theorem xd_X12_need : xchk cX12_need xk_X12_need = true := xchk_of (by decide +kernel)
set_option maxRecDepth 100000 in
def xk_X12_offer : XT (Instr × Nat) := [(6, [(0, .aload_n 0, 1), (1, .iload_n 1, 1), (2, .invokevirtual 431, 3), (5, .aload_n 0, 1)]),
  (13, [(6, .iload_n 2, 1), (7, .iload_n 3, 1), (8, .invokevirtual 166, 3), (11, .istore 5, 2)]),
  (21, [(13, .aload_n 0, 1), (14, .invokevirtual 136, 3), (17, .aload_n 0, 1), (18, .getfield 19, 3)]),
  (29, [(21, .iload_n 1, 1), (22, .iload 5, 2), (24, .iload 4, 2), (26, .invokevirtual 434, 3)]),
  (100000, [(29, .ireturn, 1)])]
set_option maxRecDepth 100000 in
theorem xd_X12_offer : xchk cX12_offer xk_X12_offer = true := xchk_of (by decide +kernel)
set_option maxRecDepth 100000 in
def xk_X12_option : XT (Instr × Nat) := [(8, [(0, .aload_n 0, 1), (1, .iload_n 1, 1), (2, .iload_n 2, 1), (3, .invokevirtual 166, 3), (6, .istore_n 3, 1), (7, .aload_n 0, 1)]),
  (22, [(8, .getfield 19, 3), (11, .getfield 125, 3), (14, .getfield 206, 3), (17, .iload_n 3, 1), (18, .aaload, 1), (19, .ifnonnull 14, 3)]),
  (36, [(22, .aload_n 0, 1), (23, .getfield 19, 3), (26, .iload_n 3, 1), (27, .invokevirtual 173, 3), (30, .ifCond .eq 13, 3), (33, .new 104, 3)]),
  (45, [(36, .dup, 1), (37, .ldc 210, 2), (39, .invokespecial 108, 3), (42, .athrow, 1), (43, .aload_n 0, 1), (44, .iconst 0, 1)]),
  (58, [(45, .invokevirtual 178, 3), (48, .astore 4, 2), (50, .aload_n 0, 1), (51, .invokevirtual 136, 3), (54, .aload_n 0, 1), (55, .getfield 19, 3)]),
  (69, [(58, .getfield 125, 3), (61, .getfield 206, 3), (64, .iload_n 3, 1), (65, .aload 4, 2), (67, .aastore, 1), (68, .aload_n 0, 1)]),
  (100000, [(69, .getfield 19, 3), (72, .getfield 125, 3), (75, .iload_n 1, 1), (76, .invokevirtual 212, 3), (79, .invokestatic 216, 3), (82, .ireturn, 1)])]
set_option maxRecDepth 100000 in
theorem xd_X12_option : xchk cX12_option xk_X12_option = true := xchk_of (by decide +kernel)
set_option maxRecDepth 100000 in
def xk_X12_orphans : XT (Instr × Nat) := [(12, [(0, .aload_n 0, 1), (1, .invokevirtual 350, 3), (4, .aload_n 0, 1), (5, .getfield 78, 3), (8, .aload_n 0, 1), (9, .getfield 19, 3)]),
  (24, [(12, .invokevirtual 228, 3), (15, .getfield 340, 3), (18, .invokevirtual 363, 3), (21, .iconst 0, 1), (22, .istore_n 1, 1), (23, .iconst 0, 1)]),
  (36, [(24, .istore_n 2, 1), (25, .iload_n 2, 1), (26, .aload_n 0, 1), (27, .getfield 19, 3), (30, .getfield 125, 3), (33, .getfield 129, 3)]),
  (50, [(36, .if_icmp .ge 53, 3), (39, .aload_n 0, 1), (40, .getfield 19, 3), (43, .getfield 125, 3), (46, .aload_n 0, 1), (47, .getfield 19, 3)]),
  (64, [(50, .invokevirtual 228, 3), (53, .getfield 340, 3), (56, .iload_n 2, 1), (57, .invokevirtual 510, 3), (60, .iconst (-1), 1), (61, .if_icmp .eq 22, 3)]),
  (74, [(64, .aload_n 0, 1), (65, .getfield 78, 3), (68, .getfield 370, 3), (71, .iload_n 2, 1), (72, .iaload, 1), (73, .iconst (-1), 1)]),
  (82, [(74, .if_icmp .ne 9, 3), (77, .iload_n 1, 1), (78, .iconst 1, 1), (79, .iload_n 2, 1), (80, .ishl, 1), (81, .ior, 1)]),
  (100000, [(82, .istore_n 1, 1), (83, .iinc 2 1, 3), (86, .goto (-61), 3), (89, .iload_n 1, 1), (90, .ireturn, 1)])]
set_option maxRecDepth 100000 in
theorem xd_X12_orphans : xchk cX12_orphans xk_X12_orphans = true := xchk_of (by decide +kernel)
set_option maxRecDepth 100000 in
def xk_X12_owner : XT (Instr × Nat) := [(13, [(0, .iload_n 1, 1), (1, .ifCond .lt 9, 3), (4, .iload_n 1, 1), (5, .bipush 31, 2), (7, .if_icmp .lt 14, 3), (10, .new 148, 3)]),
  (23, [(13, .dup, 1), (14, .ldc_w 488, 3), (17, .invokespecial 152, 3), (20, .athrow, 1), (21, .iconst 0, 1), (22, .istore_n 2, 1)]),
  (37, [(23, .iload_n 2, 1), (24, .aload_n 0, 1), (25, .getfield 19, 3), (28, .getfield 125, 3), (31, .getfield 222, 3), (34, .if_icmp .ge 58, 3)]),
  (51, [(37, .aload_n 0, 1), (38, .getfield 19, 3), (41, .invokevirtual 228, 3), (44, .getfield 340, 3), (47, .iload_n 2, 1), (48, .invokestatic 490, 3)]),
  (65, [(51, .ifCond .eq 35, 3), (54, .aload_n 0, 1), (55, .getfield 19, 3), (58, .getfield 125, 3), (61, .getfield 494, 3), (64, .iload_n 2, 1)]),
  (73, [(65, .iaload, 1), (66, .iload_n 1, 1), (67, .ishr, 1), (68, .iconst 1, 1), (69, .iand, 1), (70, .ifCond .eq 16, 3)]),
  (85, [(73, .aload_n 0, 1), (74, .getfield 19, 3), (77, .getfield 125, 3), (80, .getfield 497, 3), (83, .iload_n 2, 1), (84, .iaload, 1)]),
  (100000, [(85, .ireturn, 1), (86, .iinc 2 1, 3), (89, .goto (-66), 3), (92, .iconst (-1), 1), (93, .ireturn, 1)])]
set_option maxRecDepth 100000 in
theorem xd_X12_owner : xchk cX12_owner xk_X12_owner = true := xchk_of (by decide +kernel)
set_option maxRecDepth 100000 in
def xk_X12_pack : XT (Instr × Nat) := [(10, [(0, .aload_n 0, 1), (1, .getfield 19, 3), (4, .getfield 125, 3), (7, .getfield 129, 3)]),
  (19, [(10, .bipush 12, 2), (12, .if_icmp .lt 13, 3), (15, .new 104, 3), (18, .dup, 1)]),
  (26, [(19, .ldc 134, 2), (21, .invokespecial 108, 3), (24, .athrow, 1), (25, .aload_n 0, 1)]),
  (36, [(26, .invokevirtual 136, 3), (29, .aload_n 0, 1), (30, .getfield 19, 3), (33, .getfield 125, 3)]),
  (100000, [(36, .invokevirtual 139, 3), (39, .ireturn, 1)])]
set_option maxRecDepth 100000 in
theorem xd_X12_pack : xchk cX12_pack xk_X12_pack = true := xchk_of (by decide +kernel)
set_option maxRecDepth 100000 in
def xk_X12_packsIn : XT (Instr × Nat) := [(8, [(0, .lload_n 0, 1), (1, .ldc2_w 562, 3), (4, .land, 1), (5, .invokestatic 216, 3)]),
  (100000, [(8, .ireturn, 1)])]
set_option maxRecDepth 100000 in
theorem xd_X12_packsIn : xchk cX12_packsIn xk_X12_packsIn = true := xchk_of (by decide +kernel)
set_option maxRecDepth 100000 in
def xk_X12_pin : XT (Instr × Nat) := [(9, [(0, .aload_n 0, 1), (1, .iload_n 1, 1), (2, .invokevirtual 142, 3), (5, .aload_n 0, 1), (6, .getfield 12, 3)]),
  (20, [(9, .invokevirtual 299, 3), (12, .ifCond .eq 7, 3), (15, .aconst_null, 1), (16, .goto 7, 3), (19, .aload_n 0, 1)]),
  (29, [(20, .invokevirtual 265, 3), (23, .astore_n 2, 1), (24, .aload_n 0, 1), (25, .invokevirtual 136, 3), (28, .aload_n 0, 1)]),
  (40, [(29, .getfield 19, 3), (32, .invokevirtual 228, 3), (35, .getfield 303, 3), (38, .iload_n 1, 1), (39, .aload_n 2, 1)]),
  (51, [(40, .aastore, 1), (41, .aload_n 0, 1), (42, .getfield 19, 3), (45, .invokevirtual 228, 3), (48, .invokevirtual 307, 3)]),
  (100000, [(51, .ireturn, 1)])]
set_option maxRecDepth 100000 in
theorem xd_X12_pin : xchk cX12_pin xk_X12_pin = true := xchk_of (by decide +kernel)
set_option maxRecDepth 100000 in
def xk_X12_plan : XT (Instr × Nat) := [(8, [(0, .aload_n 0, 1), (1, .invokevirtual 459, 3), (4, .aload_n 0, 1), (5, .getfield 78, 3)]),
  (18, [(8, .invokevirtual 462, 3), (11, .aload_n 0, 1), (12, .getfield 78, 3), (15, .getfield 465, 3)]),
  (100000, [(18, .ireturn, 1)])]
set_option maxRecDepth 100000 in
theorem xd_X12_plan : xchk cX12_plan xk_X12_plan = true := xchk_of (by decide +kernel)
set_option maxRecDepth 100000 in
def xk_X12_planAt : XT (Instr × Nat) := [(8, [(0, .aload_n 0, 1), (1, .invokevirtual 459, 3), (4, .aload_n 0, 1), (5, .getfield 78, 3)]),
  (16, [(8, .invokevirtual 462, 3), (11, .iload_n 1, 1), (12, .ifCond .lt 14, 3), (15, .iload_n 1, 1)]),
  (26, [(16, .aload_n 0, 1), (17, .getfield 78, 3), (20, .getfield 465, 3), (23, .if_icmp .lt 14, 3)]),
  (36, [(26, .new 254, 3), (29, .dup, 1), (30, .ldc_w 468, 3), (33, .invokespecial 258, 3)]),
  (44, [(36, .athrow, 1), (37, .aload_n 0, 1), (38, .getfield 78, 3), (41, .getfield 470, 3)]),
  (100000, [(44, .iload_n 1, 1), (45, .iaload, 1), (46, .ireturn, 1)])]
set_option maxRecDepth 100000 in
theorem xd_X12_planAt : xchk cX12_planAt xk_X12_planAt = true := xchk_of (by decide +kernel)
set_option maxRecDepth 100000 in
def xk_X12_proof : XT (Instr × Nat) := [(6, [(0, .aload_n 0, 1), (1, .iconst 4, 1), (2, .invokevirtual 237, 3), (5, .aload_n 0, 1)]),
  (100000, [(6, .getfield 71, 3), (9, .getfield 391, 3), (12, .ireturn, 1)])]
set_option maxRecDepth 100000 in
theorem xd_X12_proof : xchk cX12_proof xk_X12_proof = true := xchk_of (by decide +kernel)
set_option maxRecDepth 100000 in
def xk_X12_proofAt : XT (Instr × Nat) := [(10, [(0, .aload_n 0, 1), (1, .iconst 4, 1), (2, .invokevirtual 237, 3), (5, .iload_n 1, 1), (6, .ifCond .lt 14, 3), (9, .iload_n 1, 1)]),
  (24, [(10, .aload_n 0, 1), (11, .getfield 71, 3), (14, .getfield 391, 3), (17, .if_icmp .lt 14, 3), (20, .new 254, 3), (23, .dup, 1)]),
  (61, [(24, .ldc_w 394, 3), (27, .invokespecial 258, 3), (30, .athrow, 1), (31, .iload_n 2, 1), (32, .tableswitch 57 0 2 #[28, 38, 48], 28), (60, .aload_n 0, 1)]),
  (71, [(61, .getfield 71, 3), (64, .getfield 396, 3), (67, .iload_n 1, 1), (68, .iaload, 1), (69, .ireturn, 1), (70, .aload_n 0, 1)]),
  (81, [(71, .getfield 71, 3), (74, .getfield 399, 3), (77, .iload_n 1, 1), (78, .iaload, 1), (79, .ireturn, 1), (80, .aload_n 0, 1)]),
  (93, [(81, .getfield 71, 3), (84, .iload_n 1, 1), (85, .invokevirtual 402, 3), (88, .ireturn, 1), (89, .new 148, 3), (92, .dup, 1)]),
  (100000, [(93, .ldc 249, 2), (95, .invokespecial 152, 3), (98, .athrow, 1)])]
set_option maxRecDepth 100000 in
theorem xd_X12_proofAt : xchk cX12_proofAt xk_X12_proofAt = true := xchk_of (by decide +kernel)
set_option maxRecDepth 100000 in
def xk_X12_provide : XT (Instr × Nat) := [(9, [(0, .aload_n 0, 1), (1, .iload_n 1, 1), (2, .iload_n 2, 1), (3, .invokevirtual 166, 3), (6, .istore 5, 2), (8, .aload_n 0, 1)]),
  (20, [(9, .iload_n 3, 1), (10, .invokevirtual 142, 3), (13, .iload_n 3, 1), (14, .iload_n 1, 1), (15, .if_icmp .eq 11, 3), (18, .iload 4, 2)]),
  (35, [(20, .invokestatic 145, 3), (23, .ifCond .ne 13, 3), (26, .new 148, 3), (29, .dup, 1), (30, .ldc 195, 2), (32, .invokespecial 152, 3)]),
  (48, [(35, .athrow, 1), (36, .aload_n 0, 1), (37, .getfield 19, 3), (40, .getfield 125, 3), (43, .getfield 197, 3), (46, .iload 5, 2)]),
  (59, [(48, .iaload, 1), (49, .iconst 2, 1), (50, .if_icmp .ge 15, 3), (53, .aload_n 0, 1), (54, .getfield 19, 3), (57, .iload 5, 2)]),
  (74, [(59, .invokevirtual 173, 3), (62, .ifCond .eq 13, 3), (65, .new 104, 3), (68, .dup, 1), (69, .ldc 200, 2), (71, .invokespecial 108, 3)]),
  (86, [(74, .athrow, 1), (75, .aload_n 0, 1), (76, .invokevirtual 136, 3), (79, .aload_n 0, 1), (80, .getfield 19, 3), (83, .getfield 125, 3)]),
  (100000, [(86, .iload 5, 2), (88, .iload_n 3, 1), (89, .iload 4, 2), (91, .invokevirtual 202, 3), (94, .ireturn, 1)])]
set_option maxRecDepth 100000 in
theorem xd_X12_provide : xchk cX12_provide xk_X12_provide = true := xchk_of (by decide +kernel)
