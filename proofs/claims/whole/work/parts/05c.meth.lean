/-! printed by gen_tab.py: methods, pools, the program -/
abbrev xm_L_law : XM := (RL, x, cL_law, 9, (some .boolean), 1, [])
abbrev xm_J13_bitCount_95d88 : XM := (RJ13, yJ13_bitCount_95d88, cJ13_bitCount_95d88, 2, (some .int), 1, [])
abbrev xm_J13_lowestOneBit_067f4 : XM := (RJ13, yJ13_lowestOneBit_067f4, cJ13_lowestOneBit_067f4, 2, (some .long), 1, [])
abbrev xm_J15_checkIndex_7cf53 : XM := (RJ15, yJ15_checkIndex_7cf53, cJ15_checkIndex_7cf53, 2, (some .int), 2, [])
abbrev xm_J3_checkIndex_8e157 : XM := (RJ3, yJ3_checkIndex_8e157, cJ3_checkIndex_8e157, 3, (some .int), 3, [])
abbrev xm_J6_bitCount_0f7a4 : XM := (RJ6, yJ6_bitCount_0f7a4, cJ6_bitCount_0f7a4, 1, (some .int), 1, [])
abbrev xm_J6_numberOfLeadingZeros_0f7a4 : XM := (RJ6, yJ6_numberOfLeadingZeros_0f7a4, cJ6_numberOfLeadingZeros_0f7a4, 2, (some .int), 1, [])
abbrev xm_J7_copyOf_1904c : XM := (RJ7, yJ7_copyOf_1904c, cJ7_copyOf_1904c, 2, (some (.array (.object "java/lang/Object"))), 2, [])
abbrev xm_J7_copyOf_6403c : XM := (RJ7, yJ7_copyOf_6403c, cJ7_copyOf_6403c, 4, (some (.array (.object "java/lang/Object"))), 3, [])
abbrev xm_J7_fill_53178 : XM := (RJ7, yJ7_fill_53178, cJ7_fill_53178, 4, none, 2, [])
abbrev xm_J7_fill_d0a16 : XM := (RJ7, yJ7_fill_d0a16, cJ7_fill_d0a16, 5, none, 2, [])
abbrev xm_J8_hugeLength_7cf53 : XM := (RJ8, yJ8_hugeLength_7cf53, cJ8_hugeLength_7cf53, 3, (some .int), 2, [])
abbrev xm_J8_newLength_cabcc : XM := (RJ8, yJ8_newLength_cabcc, cJ8_newLength_cabcc, 4, (some .int), 3, [])
abbrev xm_J9_abs_0f7a4 : XM := ("java/lang/Math", Lib.Math.abs.name, Lib.Math.abs.code, 1, (some .int), 1, [])
abbrev xm_J9_floorMod_7cf53 : XM := (RJ9, yJ9_floorMod_7cf53, cJ9_floorMod_7cf53, 3, (some .int), 2, [])
abbrev xm_J9_max_7cf53 : XM := ("java/lang/Math", Lib.Math.max.name, Lib.Math.max.code, 2, (some .int), 2, [])
abbrev xm_J9_min_7cf53 : XM := ("java/lang/Math", Lib.Math.min.name, Lib.Math.min.code, 2, (some .int), 2, [])
abbrev xm_Jx4a65c_add_72be8 : XM := (RJx4a65c, yJx4a65c_add_72be8, cJx4a65c_add_72be8, 4, none, 4, [])
abbrev xm_Jx4a65c_add_9ea2d : XM := (RJx4a65c, yJx4a65c_add_9ea2d, cJx4a65c_add_9ea2d, 2, (some .boolean), 2, [])
abbrev xm_Jx4a65c_elementData_915e3 : XM := (RJx4a65c, yJx4a65c_elementData_915e3, cJx4a65c_elementData_915e3, 2, (some (.object "java/lang/Object")), 2, [])
abbrev xm_Jx4a65c_get_915e3 : XM := (RJx4a65c, yJx4a65c_get_915e3, cJx4a65c_get_915e3, 2, (some (.object "java/lang/Object")), 2, [])
abbrev xm_Jx4a65c_grow_92f84 : XM := (RJx4a65c, yJx4a65c_grow_92f84, cJx4a65c_grow_92f84, 4, (some (.array (.object "java/lang/Object"))), 2, [])
abbrev xm_Jx4a65c_grow_d5877 : XM := (RJx4a65c, yJx4a65c_grow_d5877, cJx4a65c_grow_d5877, 1, (some (.array (.object "java/lang/Object"))), 1, [])
abbrev xm_Jx4a65c_init_da8c8 : XM := (RJx4a65c, yJx4a65c_init_da8c8, cJx4a65c_init_da8c8, 1, none, 1, [])
abbrev xm_Jx4a65c_size_8abf5 : XM := (RJx4a65c, yJx4a65c_size_8abf5, cJx4a65c_size_8abf5, 1, (some .int), 1, [])
abbrev xm_Jxa1e45_init_da8c8 : XM := (RJxa1e45, yJxa1e45_init_da8c8, cJxa1e45_init_da8c8, 1, none, 1, [])
abbrev xm_Jxc12de_init_da8c8 : XM := (RJxc12de, yJxc12de_init_da8c8, cJxc12de_init_da8c8, 1, none, 1, [])
abbrev xm_L_append : XM := (RL, yL_append, cL_append, 8, (some .int), 7, [(0, 16, 19, 13)])
abbrev xm_L_backTo : XM := (RL, yL_backTo, cL_backTo, 4, (some .int), 3, [(0, 9, 12, 122)])
abbrev xm_L_ban : XM := (RL, yL_ban, cL_ban, 5, (some .int), 4, [(0, 10, 13, 22), (0, 10, 17, 13), (0, 10, 21, 24)])
abbrev xm_L_because : XM := (RL, yL_because, cL_because, 4, (some .int), 3, [(0, 9, 12, 22)])
abbrev xm_L_coreAt : XM := (RL, yL_coreAt, cL_coreAt, 5, (some .int), 4, [(0, 10, 13, 22), (0, 10, 17, 24)])
abbrev xm_L_count : XM := (RL, yL_count, cL_count, 4, (some .int), 3, [(0, 9, 12, 24)])
abbrev xm_L_fails : XM := (RL, yL_fails, cL_fails, 6, (some .int), 5, [(0, 19, 22, 22)])
abbrev xm_L_failure : XM := (RL, yL_failure, cL_failure, 4, (some .int), 3, [(0, 9, 12, 24)])
abbrev xm_L_far : XM := (RL, yL_far, cL_far, 4, (some .int), 3, [(0, 9, 12, 22)])
abbrev xm_L_fetchAt : XM := (RL, yL_fetchAt, cL_fetchAt, 5, (some .int), 4, [(0, 10, 13, 122), (0, 10, 17, 22)])
abbrev xm_L_hold : XM := (RL, yL_hold, cL_hold, 5, (some .int), 4, [(0, 10, 13, 22)])
abbrev xm_L_inRange : XM := (RL, yL_inRange, cL_inRange, 4, (some .int), 3, [(0, 9, 12, 22), (0, 9, 15, 24)])
abbrev xm_L_install : XM := (RL, yL_install, cL_install, 3, (some .int), 2, [(0, 8, 11, 13)])
abbrev xm_L_installed : XM := (RL, yL_installed, cL_installed, 4, (some .int), 3, [(0, 9, 12, 22)])
abbrev xm_L_isOn : XM := (RL, yL_isOn, cL_isOn, 4, (some .int), 3, [(0, 16, 19, 22)])
abbrev xm_L_literalAt : XM := (RL, yL_literalAt, cL_literalAt, 5, (some .int), 4, [(0, 10, 13, 22)])
abbrev xm_L_lock : XM := (RL, yL_lock, cL_lock, 4, (some .int), 3, [(0, 9, 12, 24)])
abbrev xm_L_lockDiffers : XM := (RL, yL_lockDiffers, cL_lockDiffers, 5, (some .int), 4, [(0, 10, 13, 24)])
abbrev xm_L_mergeLocks : XM := (RL, yL_mergeLocks, cL_mergeLocks, 5, (some .int), 4, [(0, 10, 13, 24)])
abbrev xm_L_mirror : XM := (RL, yL_mirror, cL_mirror, 3, (some .int), 2, [(0, 8, 11, 13)])
abbrev xm_L_must : XM := (RL, yL_must, cL_must, 5, (some .int), 4, [(0, 10, 13, 22)])
abbrev xm_L_need : XM := (RL, yL_need, cL_need, 6, (some .int), 5, [(0, 12, 15, 22), (0, 12, 19, 13), (0, 12, 23, 24)])
abbrev xm_L_offer : XM := (RL, yL_offer, cL_offer, 7, (some .int), 6, [(0, 14, 17, 22)])
abbrev xm_L_option : XM := (RL, yL_option, cL_option, 5, (some .int), 4, [(0, 10, 13, 22), (0, 10, 17, 13), (0, 10, 21, 24)])
abbrev xm_L_owner : XM := (RL, yL_owner, cL_owner, 4, (some .int), 3, [(0, 9, 12, 24)])
abbrev xm_L_pack : XM := (RL, yL_pack, cL_pack, 3, (some .int), 2, [(0, 8, 11, 13)])
abbrev xm_L_pin : XM := (RL, yL_pin, cL_pin, 4, (some .int), 3, [(0, 9, 12, 22), (0, 9, 15, 24)])
abbrev xm_L_plan : XM := (RL, yL_plan, cL_plan, 3, (some .int), 2, [(0, 8, 11, 13)])
abbrev xm_L_planAt : XM := (RL, yL_planAt, cL_planAt, 4, (some .int), 3, [(0, 9, 12, 13), (0, 9, 15, 22)])
abbrev xm_L_proofAt : XM := (RL, yL_proofAt, cL_proofAt, 5, (some .int), 4, [(0, 10, 13, 22), (0, 10, 17, 24)])
abbrev xm_L_provide : XM := (RL, yL_provide, cL_provide, 7, (some .int), 6, [(0, 14, 17, 22), (0, 14, 21, 24), (0, 14, 25, 13)])
abbrev xm_L_quota : XM := (RL, yL_quota, cL_quota, 4, (some .int), 3, [(0, 9, 12, 24)])
abbrev xm_L_root : XM := (RL, yL_root, cL_root, 4, (some .int), 3, [(0, 9, 12, 24)])
abbrev xm_L_scriptAt : XM := (RL, yL_scriptAt, cL_scriptAt, 4, (some .int), 3, [(0, 9, 12, 22)])
abbrev xm_L_sumWrong : XM := (RL, yL_sumWrong, cL_sumWrong, 4, (some .int), 3, [(0, 9, 12, 22)])
abbrev xm_L_takeLock : XM := (RL, yL_takeLock, cL_takeLock, 4, (some .int), 3, [(0, 9, 12, 24)])
abbrev xm_L_then : XM := (RL, yL_then, cL_then, 5, (some .int), 4, [(0, 10, 13, 122), (0, 10, 17, 22)])
abbrev xm_L_unwish : XM := (RL, yL_unwish, cL_unwish, 4, (some .int), 3, [(0, 9, 12, 22)])
abbrev xm_L_version : XM := (RL, yL_version, cL_version, 8, (some .int), 7, [(0, 16, 19, 22), (0, 16, 23, 24), (0, 16, 27, 13)])
abbrev xm_L_versionAt : XM := (RL, yL_versionAt, cL_versionAt, 5, (some .int), 4, [(0, 10, 13, 22)])
abbrev xm_L_versionOf : XM := (RL, yL_versionOf, cL_versionOf, 4, (some .int), 3, [(0, 9, 12, 22)])
abbrev xm_L_versions : XM := (RL, yL_versions, cL_versions, 4, (some .int), 3, [(0, 9, 12, 22)])
abbrev xm_L_wish : XM := (RL, yL_wish, cL_wish, 3, (some .int), 2, [(0, 8, 11, 13), (0, 8, 14, 24)])
abbrev xm_L_without : XM := (RL, yL_without, cL_without, 4, (some .int), 3, [(0, 9, 12, 22)])
abbrev xm_X0_init : XM := (RX0, yX0_init, cX0_init, 4, none, 4, [])
abbrev xm_X10_any : XM := (RX10, yX10_any, cX10_any, 0, (some (.object "Kitwarden$Span")), 0, [])
abbrev xm_X10_init : XM := (RX10, yX10_init, cX10_init, 4, none, 4, [])
abbrev xm_X10_isAnyMet : XM := (RX10, yX10_isAnyMet, cX10_isAnyMet, 3, (some .boolean), 2, [])
abbrev xm_X10_isMetBy : XM := (RX10, yX10_isMetBy, cX10_isMetBy, 4, (some .boolean), 2, [])
abbrev xm_X11_atHand : XM := (RX11, yX11_atHand, cX11_atHand, 1, (some (.object "Kitwarden$Root")), 1, [])
abbrev xm_X11_copyFrom : XM := (RX11, yX11_copyFrom, cX11_copyFrom, 2, none, 2, [])
abbrev xm_X11_init : XM := (RX11, yX11_init, cX11_init, 1, none, 1, [])
abbrev xm_X11_isInUse : XM := (RX11, yX11_isInUse, cX11_isInUse, 2, (some .boolean), 2, [])
abbrev xm_X11_mirrorFor : XM := (RX11, yX11_mirrorFor, cX11_mirrorFor, 6, (some .int), 4, [])
abbrev xm_X11_rootOf : XM := (RX11, yX11_rootOf, cX11_rootOf, 2, (some (.object "Kitwarden$Root")), 2, [])
abbrev xm_X11_setOffer : XM := (RX11, yX11_setOffer, cX11_setOffer, 4, (some .int), 4, [])
abbrev xm_X12_append : XM := (RX12, yX12_append, cX12_append, 7, (some .int), 6, [])
abbrev xm_X12_backTo : XM := (RX12, yX12_backTo, cX12_backTo, 3, (some .int), 2, [])
abbrev xm_X12_ban : XM := (RX12, yX12_ban, cX12_ban, 5, (some .int), 3, [])
abbrev xm_X12_because : XM := (RX12, yX12_because, cX12_because, 2, (some .int), 2, [])
abbrev xm_X12_changes : XM := (RX12, yX12_changes, cX12_changes, 1, (some .int), 1, [])
abbrev xm_X12_changesBetween : XM := (RX12, yX12_changesBetween, cX12_changesBetween, 5, (some .int), 3, [])
abbrev xm_X12_checkGoalSound : XM := (RX12, yX12_checkGoalSound, cX12_checkGoalSound, 1, none, 1, [])
abbrev xm_X12_checkLock : XM := (RX12, yX12_checkLock, cX12_checkLock, 1, none, 1, [])
abbrev xm_X12_checkMirror : XM := (RX12, yX12_checkMirror, cX12_checkMirror, 2, none, 2, [])
abbrev xm_X12_checkPack : XM := (RX12, yX12_checkPack, cX12_checkPack, 2, none, 2, [])
abbrev xm_X12_checkedId : XM := (RX12, yX12_checkedId, cX12_checkedId, 4, (some .int), 3, [])
abbrev xm_X12_checkedNeed : XM := (RX12, yX12_checkedNeed, cX12_checkedNeed, 3, (some (.object "Kitwarden$Atom")), 2, [])
abbrev xm_X12_checkedRange : XM := (RX12, yX12_checkedRange, cX12_checkedRange, 2, (some (.object "Kitwarden$Span")), 1, [])
abbrev xm_X12_checksum : XM := (RX12, yX12_checksum, cX12_checksum, 3, (some .int), 1, [])
abbrev xm_X12_clashes : XM := (RX12, yX12_clashes, cX12_clashes, 4, (some .int), 1, [])
abbrev xm_X12_clearTape : XM := (RX12, yX12_clearTape, cX12_clearTape, 1, (some .int), 1, [])
abbrev xm_X12_core : XM := (RX12, yX12_core, cX12_core, 1, (some .int), 1, [])
abbrev xm_X12_coreAt : XM := (RX12, yX12_coreAt, cX12_coreAt, 4, (some .int), 3, [])
abbrev xm_X12_count : XM := (RX12, yX12_count, cX12_count, 2, (some .int), 2, [])
abbrev xm_X12_errorPosition : XM := (RX12, yX12_errorPosition, cX12_errorPosition, 1, (some .int), 1, [])
abbrev xm_X12_errors : XM := (RX12, yX12_errors, cX12_errors, 4, (some .int), 1, [])
abbrev xm_X12_fails : XM := (RX12, yX12_fails, cX12_fails, 8, (some .boolean), 4, [])
abbrev xm_X12_failure : XM := (RX12, yX12_failure, cX12_failure, 2, (some .int), 2, [])
abbrev xm_X12_far : XM := (RX12, yX12_far, cX12_far, 2, (some .int), 2, [])
abbrev xm_X12_fetchAt : XM := (RX12, yX12_fetchAt, cX12_fetchAt, 3, (some .int), 3, [])
abbrev xm_X12_fetches : XM := (RX12, yX12_fetches, cX12_fetches, 1, (some .int), 1, [])
abbrev xm_X12_fitting : XM := (RX12, yX12_fitting, cX12_fitting, 4, (some .int), 1, [])
abbrev xm_X12_has : XM := (RX12, yX12_has, cX12_has, 3, (some .boolean), 2, [])
abbrev xm_X12_hold : XM := (RX12, yX12_hold, cX12_hold, 4, (some .int), 3, [])
abbrev xm_X12_inRange : XM := (RX12, yX12_inRange, cX12_inRange, 3, (some .int), 2, [])
abbrev xm_X12_init : XM := (RX12, yX12_init, cX12_init, 2, none, 1, [])
abbrev xm_X12_install : XM := (RX12, yX12_install, cX12_install, 1, (some .int), 1, [])
abbrev xm_X12_installed : XM := (RX12, yX12_installed, cX12_installed, 2, (some .int), 2, [])
abbrev xm_X12_isBeaten : XM := (RX12, yX12_isBeaten, cX12_isBeaten, 10, (some .boolean), 3, [])
abbrev xm_X12_isCode : XM := (RX12, yX12_isCode, cX12_isCode, 1, (some .boolean), 1, [])
abbrev xm_X12_isOn : XM := (RX12, yX12_isOn, cX12_isOn, 2, (some .boolean), 2, [])
abbrev xm_X12_isSound : XM := (RX12, yX12_isSound, cX12_isSound, 2, (some .boolean), 1, [])
abbrev xm_X12_know : XM := (RX12, yX12_know, cX12_know, 2, none, 2, [])
abbrev xm_X12_knowMet : XM := (RX12, yX12_knowMet, cX12_knowMet, 1, none, 1, [])
abbrev xm_X12_literalAt : XM := (RX12, yX12_literalAt, cX12_literalAt, 3, (some .int), 3, [])
abbrev xm_X12_literalIn : XM := (RX12, yX12_literalIn, cX12_literalIn, 15, (some .int), 4, [])
abbrev xm_X12_lock : XM := (RX12, yX12_lock, cX12_lock, 2, (some .int), 2, [])
abbrev xm_X12_lockDiffers : XM := (RX12, yX12_lockDiffers, cX12_lockDiffers, 3, (some .int), 3, [])
abbrev xm_X12_meanSize : XM := (RX12, yX12_meanSize, cX12_meanSize, 2, (some .double), 1, [])
abbrev xm_X12_mergeLocks : XM := (RX12, yX12_mergeLocks, cX12_mergeLocks, 3, (some .int), 3, [])
abbrev xm_X12_merged : XM := (RX12, yX12_merged, cX12_merged, 11, (some .long), 3, [])
abbrev xm_X12_mirror : XM := (RX12, yX12_mirror, cX12_mirror, 2, (some .int), 1, [])
abbrev xm_X12_must : XM := (RX12, yX12_must, cX12_must, 4, (some .int), 3, [])
abbrev xm_X12_need : XM := (RX12, yX12_need, cX12_need, 6, (some .int), 4, [])
abbrev xm_X12_offer : XM := (RX12, yX12_offer, cX12_offer, 6, (some .int), 5, [])
abbrev xm_X12_option : XM := (RX12, yX12_option, cX12_option, 5, (some .int), 3, [])
abbrev xm_X12_orphans : XM := (RX12, yX12_orphans, cX12_orphans, 3, (some .int), 1, [])
abbrev xm_X12_owner : XM := (RX12, yX12_owner, cX12_owner, 3, (some .int), 2, [])
abbrev xm_X12_pack : XM := (RX12, yX12_pack, cX12_pack, 1, (some .int), 1, [])
abbrev xm_X12_packsIn : XM := (RX12, yX12_packsIn, cX12_packsIn, 2, (some .int), 1, [])
abbrev xm_X12_pin : XM := (RX12, yX12_pin, cX12_pin, 3, (some .int), 2, [])
abbrev xm_X12_plan : XM := (RX12, yX12_plan, cX12_plan, 1, (some .int), 1, [])
abbrev xm_X12_planAt : XM := (RX12, yX12_planAt, cX12_planAt, 2, (some .int), 2, [])
abbrev xm_X12_proof : XM := (RX12, yX12_proof, cX12_proof, 1, (some .int), 1, [])
abbrev xm_X12_proofAt : XM := (RX12, yX12_proofAt, cX12_proofAt, 3, (some .int), 3, [])
abbrev xm_X12_provide : XM := (RX12, yX12_provide, cX12_provide, 6, (some .int), 5, [])
abbrev xm_X12_quota : XM := (RX12, yX12_quota, cX12_quota, 3, (some .int), 2, [])
abbrev xm_X12_remember : XM := (RX12, yX12_remember, cX12_remember, 2, none, 1, [])
abbrev xm_X12_root : XM := (RX12, yX12_root, cX12_root, 3, (some .int), 2, [])
abbrev xm_X12_scriptAt : XM := (RX12, yX12_scriptAt, cX12_scriptAt, 2, (some .int), 2, [])
abbrev xm_X12_scripts : XM := (RX12, yX12_scripts, cX12_scripts, 1, (some .int), 1, [])
abbrev xm_X12_share : XM := (RX12, yX12_share, cX12_share, 2, (some .float), 1, [])
abbrev xm_X12_size : XM := (RX12, yX12_size, cX12_size, 1, (some .int), 1, [])
abbrev xm_X12_solve : XM := (RX12, yX12_solve, cX12_solve, 2, (some .int), 2, [])
abbrev xm_X12_sumWrong : XM := (RX12, yX12_sumWrong, cX12_sumWrong, 2, (some .int), 2, [])
abbrev xm_X12_switchOf : XM := (RX12, yX12_switchOf, cX12_switchOf, 1, (some .long), 1, [])
abbrev xm_X12_takeGoal : XM := (RX12, yX12_takeGoal, cX12_takeGoal, 3, (some .int), 2, [])
abbrev xm_X12_takeLock : XM := (RX12, yX12_takeLock, cX12_takeLock, 2, (some .int), 2, [])
abbrev xm_X12_then : XM := (RX12, yX12_then, cX12_then, 3, (some .int), 3, [])
abbrev xm_X12_undo : XM := (RX12, yX12_undo, cX12_undo, 2, (some .int), 1, [])
abbrev xm_X12_unwish : XM := (RX12, yX12_unwish, cX12_unwish, 3, (some .int), 2, [])
abbrev xm_X12_valueIn : XM := (RX12, yX12_valueIn, cX12_valueIn, 4, (some .int), 3, [])
abbrev xm_X12_version : XM := (RX12, yX12_version, cX12_version, 6, (some .int), 6, [])
abbrev xm_X12_versionAt : XM := (RX12, yX12_versionAt, cX12_versionAt, 3, (some .int), 3, [])
abbrev xm_X12_versionOf : XM := (RX12, yX12_versionOf, cX12_versionOf, 2, (some .int), 2, [])
abbrev xm_X12_versions : XM := (RX12, yX12_versions, cX12_versions, 2, (some .int), 2, [])
abbrev xm_X12_wish : XM := (RX12, yX12_wish, cX12_wish, 2, (some .int), 1, [])
abbrev xm_X12_without : XM := (RX12, yX12_without, cX12_without, 4, (some .int), 2, [])
abbrev xm_X13_init : XM := (RX13, yX13_init, cX13_init, 5, none, 5, [])
abbrev xm_X14_add : XM := (RX14, yX14_add, cX14_add, 13, none, 6, [])
abbrev xm_X14_addNeed : XM := (RX14, yX14_addNeed, cX14_addNeed, 10, none, 6, [])
abbrev xm_X14_addPair : XM := (RX14, yX14_addPair, cX14_addPair, 13, none, 3, [])
abbrev xm_X14_addRow : XM := (RX14, yX14_addRow, cX14_addRow, 9, none, 5, [])
abbrev xm_X14_addSpan : XM := (RX14, yX14_addSpan, cX14_addSpan, 4, (some .boolean), 4, [])
abbrev xm_X14_append : XM := (RX14, yX14_append, cX14_append, 9, (some .int), 6, [])
abbrev xm_X14_backTo : XM := (RX14, yX14_backTo, cX14_backTo, 4, (some .int), 2, [])
abbrev xm_X14_ban : XM := (RX14, yX14_ban, cX14_ban, 6, (some .int), 3, [])
abbrev xm_X14_because : XM := (RX14, yX14_because, cX14_because, 2, (some .int), 2, [])
abbrev xm_X14_bestPair : XM := (RX14, yX14_bestPair, cX14_bestPair, 6, (some .int), 1, [])
abbrev xm_X14_bit : XM := (RX14, yX14_bit, cX14_bit, 1, (some .long), 1, [])
abbrev xm_X14_byteOf : XM := (RX14, yX14_byteOf, cX14_byteOf, 7, (some .int), 6, [])
abbrev xm_X14_canHold : XM := (RX14, yX14_canHold, cX14_canHold, 5, (some .boolean), 3, [])
abbrev xm_X14_carryOut : XM := (RX14, yX14_carryOut, cX14_carryOut, 12, (some .int), 5, [])
abbrev xm_X14_changes : XM := (RX14, yX14_changes, cX14_changes, 1, (some .int), 1, [])
abbrev xm_X14_checksum : XM := (RX14, yX14_checksum, cX14_checksum, 5, (some .int), 1, [])
abbrev xm_X14_clashes : XM := (RX14, yX14_clashes, cX14_clashes, 6, (some .int), 1, [])
abbrev xm_X14_clearTape : XM := (RX14, yX14_clearTape, cX14_clearTape, 2, (some .int), 1, [])
abbrev xm_X14_codeIn : XM := (RX14, yX14_codeIn, cX14_codeIn, 2, (some .int), 2, [])
abbrev xm_X14_coming : XM := (RX14, yX14_coming, cX14_coming, 7, (some (.array .int)), 3, [])
abbrev xm_X14_core : XM := (RX14, yX14_core, cX14_core, 1, (some .int), 1, [])
abbrev xm_X14_coreAt : XM := (RX14, yX14_coreAt, cX14_coreAt, 4, (some .int), 3, [])
abbrev xm_X14_coreErrors : XM := (RX14, yX14_coreErrors, cX14_coreErrors, 6, (some .int), 1, [])
abbrev xm_X14_count : XM := (RX14, yX14_count, cX14_count, 2, (some .int), 2, [])
abbrev xm_X14_differences : XM := (RX14, yX14_differences, cX14_differences, 4, (some .int), 2, [])
abbrev xm_X14_entrySet : XM := (RX14, yX14_entrySet, cX14_entrySet, 2, (some (.array .int)), 2, [])
abbrev xm_X14_errorPosition : XM := (RX14, yX14_errorPosition, cX14_errorPosition, 1, (some .int), 1, [])
abbrev xm_X14_errors : XM := (RX14, yX14_errors, cX14_errors, 5, (some .int), 1, [])
abbrev xm_X14_fails : XM := (RX14, yX14_fails, cX14_fails, 6, (some .boolean), 4, [])
abbrev xm_X14_failure : XM := (RX14, yX14_failure, cX14_failure, 2, (some .int), 2, [])
abbrev xm_X14_far : XM := (RX14, yX14_far, cX14_far, 2, (some .int), 2, [])
abbrev xm_X14_fetchAt : XM := (RX14, yX14_fetchAt, cX14_fetchAt, 8, (some .int), 3, [])
abbrev xm_X14_fetches : XM := (RX14, yX14_fetches, cX14_fetches, 2, (some .int), 1, [])
abbrev xm_X14_findCore : XM := (RX14, yX14_findCore, cX14_findCore, 4, none, 1, [])
abbrev xm_X14_findProof : XM := (RX14, yX14_findProof, cX14_findProof, 6, none, 1, [])
abbrev xm_X14_findRing : XM := (RX14, yX14_findRing, cX14_findRing, 7, none, 1, [])
abbrev xm_X14_findScripts : XM := (RX14, yX14_findScripts, cX14_findScripts, 7, none, 2, [])
abbrev xm_X14_findSteps : XM := (RX14, yX14_findSteps, cX14_findSteps, 7, none, 3, [])
abbrev xm_X14_firstSet : XM := (RX14, yX14_firstSet, cX14_firstSet, 18, (some (.array .int)), 1, [])
abbrev xm_X14_fitsAny : XM := (RX14, yX14_fitsAny, cX14_fitsAny, 1, (some .boolean), 1, [])
abbrev xm_X14_fitsHere : XM := (RX14, yX14_fitsHere, cX14_fitsHere, 4, (some .boolean), 2, [])
abbrev xm_X14_fitting : XM := (RX14, yX14_fitting, cX14_fitting, 1, (some .int), 1, [])
abbrev xm_X14_found : XM := (RX14, yX14_found, cX14_found, 3, (some (.array .int)), 2, [])
abbrev xm_X14_goThrough : XM := (RX14, yX14_goThrough, cX14_goThrough, 8, (some .int), 3, [])
abbrev xm_X14_goalSet : XM := (RX14, yX14_goalSet, cX14_goalSet, 1, (some (.array .int)), 1, [])
abbrev xm_X14_goesWrong : XM := (RX14, yX14_goesWrong, cX14_goesWrong, 4, (some .int), 4, [])
abbrev xm_X14_hasAll : XM := (RX14, yX14_hasAll, cX14_hasAll, 8, (some .boolean), 4, [])
abbrev xm_X14_hasNeeds : XM := (RX14, yX14_hasNeeds, cX14_hasNeeds, 6, (some .boolean), 3, [])
abbrev xm_X14_hasOption : XM := (RX14, yX14_hasOption, cX14_hasOption, 4, (some .boolean), 2, [])
abbrev xm_X14_hold : XM := (RX14, yX14_hold, cX14_hold, 3, (some .int), 3, [])
abbrev xm_X14_inRange : XM := (RX14, yX14_inRange, cX14_inRange, 8, (some .int), 2, [])
abbrev xm_X14_init : XM := (RX14, yX14_init, cX14_init, 4, none, 1, [])
abbrev xm_X14_install : XM := (RX14, yX14_install, cX14_install, 6, (some .int), 1, [])
abbrev xm_X14_installed : XM := (RX14, yX14_installed, cX14_installed, 2, (some .int), 2, [])
abbrev xm_X14_installedSet : XM := (RX14, yX14_installedSet, cX14_installedSet, 1, (some (.array .int)), 1, [])
abbrev xm_X14_isAhead : XM := (RX14, yX14_isAhead, cX14_isAhead, 10, (some .boolean), 3, [])
abbrev xm_X14_isAheadOf : XM := (RX14, yX14_isAheadOf, cX14_isAheadOf, 3, (some .boolean), 3, [])
abbrev xm_X14_isCode : XM := (RX14, yX14_isCode, cX14_isCode, 1, (some .boolean), 1, [])
abbrev xm_X14_isDigitAt : XM := (RX14, yX14_isDigitAt, cX14_isDigitAt, 2, (some .boolean), 2, [])
abbrev xm_X14_isEnd : XM := (RX14, yX14_isEnd, cX14_isEnd, 1, (some .boolean), 1, [])
abbrev xm_X14_isHeld : XM := (RX14, yX14_isHeld, cX14_isHeld, 2, (some .boolean), 2, [])
abbrev xm_X14_isInstalled : XM := (RX14, yX14_isInstalled, cX14_isInstalled, 5, (some .boolean), 2, [])
abbrev xm_X14_isKept : XM := (RX14, yX14_isKept, cX14_isKept, 2, (some .boolean), 2, [])
abbrev xm_X14_isLike : XM := (RX14, yX14_isLike, cX14_isLike, 2, (some .boolean), 2, [])
abbrev xm_X14_isLock : XM := (RX14, yX14_isLock, cX14_isLock, 1, (some .boolean), 1, [])
abbrev xm_X14_isMet : XM := (RX14, yX14_isMet, cX14_isMet, 5, (some .boolean), 3, [])
abbrev xm_X14_isMirror : XM := (RX14, yX14_isMirror, cX14_isMirror, 2, (some .boolean), 2, [])
abbrev xm_X14_isOn : XM := (RX14, yX14_isOn, cX14_isOn, 2, (some .boolean), 2, [])
abbrev xm_X14_isOnIn : XM := (RX14, yX14_isOnIn, cX14_isOnIn, 2, (some .boolean), 2, [])
abbrev xm_X14_isPack : XM := (RX14, yX14_isPack, cX14_isPack, 2, (some .boolean), 2, [])
abbrev xm_X14_isSign : XM := (RX14, yX14_isSign, cX14_isSign, 2, (some .boolean), 2, [])
abbrev xm_X14_isSound : XM := (RX14, yX14_isSound, cX14_isSound, 3, (some .boolean), 1, [])
abbrev xm_X14_isSoundSet : XM := (RX14, yX14_isSoundSet, cX14_isSoundSet, 6, (some .boolean), 2, [])
abbrev xm_X14_isSpanHere : XM := (RX14, yX14_isSpanHere, cX14_isSpanHere, 1, (some .boolean), 1, [])
abbrev xm_X14_isTrial : XM := (RX14, yX14_isTrial, cX14_isTrial, 1, (some .boolean), 1, [])
abbrev xm_X14_isVersion : XM := (RX14, yX14_isVersion, cX14_isVersion, 3, (some .boolean), 3, [])
abbrev xm_X14_isWanted : XM := (RX14, yX14_isWanted, cX14_isWanted, 7, (some .boolean), 4, [])
abbrev xm_X14_keep : XM := (RX14, yX14_keep, cX14_keep, 3, (some .int), 2, [])
abbrev xm_X14_laySet : XM := (RX14, yX14_laySet, cX14_laySet, 9, (some .boolean), 3, [])
abbrev xm_X14_leaveOut : XM := (RX14, yX14_leaveOut, cX14_leaveOut, 5, none, 1, [])
abbrev xm_X14_literalAt : XM := (RX14, yX14_literalAt, cX14_literalAt, 11, (some .int), 3, [])
abbrev xm_X14_lock : XM := (RX14, yX14_lock, cX14_lock, 3, (some .int), 2, [])
abbrev xm_X14_lockDiffers : XM := (RX14, yX14_lockDiffers, cX14_lockDiffers, 3, (some .int), 3, [])
abbrev xm_X14_manyIn : XM := (RX14, yX14_manyIn, cX14_manyIn, 3, (some .int), 1, [])
abbrev xm_X14_meanSize : XM := (RX14, yX14_meanSize, cX14_meanSize, 3, (some .double), 1, [])
abbrev xm_X14_meets : XM := (RX14, yX14_meets, cX14_meets, 6, (some .boolean), 3, [])
abbrev xm_X14_meetsRange : XM := (RX14, yX14_meetsRange, cX14_meetsRange, 5, (some .boolean), 3, [])
abbrev xm_X14_meetsSpan : XM := (RX14, yX14_meetsSpan, cX14_meetsSpan, 5, (some .boolean), 4, [])
abbrev xm_X14_mergeLocks : XM := (RX14, yX14_mergeLocks, cX14_mergeLocks, 9, (some .int), 3, [])
abbrev xm_X14_mirror : XM := (RX14, yX14_mirror, cX14_mirror, 1, (some .int), 1, [])
abbrev xm_X14_mirrorFor : XM := (RX14, yX14_mirrorFor, cX14_mirrorFor, 7, (some .int), 4, [])
abbrev xm_X14_must : XM := (RX14, yX14_must, cX14_must, 7, (some .int), 3, [])
abbrev xm_X14_need : XM := (RX14, yX14_need, cX14_need, 7, (some .int), 4, [])
abbrev xm_X14_next : XM := (RX14, yX14_next, cX14_next, 3, none, 1, [])
abbrev xm_X14_offer : XM := (RX14, yX14_offer, cX14_offer, 8, (some .int), 5, [])
abbrev xm_X14_offered : XM := (RX14, yX14_offered, cX14_offered, 2, (some .int), 2, [])
abbrev xm_X14_option : XM := (RX14, yX14_option, cX14_option, 7, (some .int), 3, [])
abbrev xm_X14_optionBit : XM := (RX14, yX14_optionBit, cX14_optionBit, 1, (some .long), 1, [])
abbrev xm_X14_order : XM := (RX14, yX14_order, cX14_order, 7, (some (.array .int)), 1, [])
abbrev xm_X14_orphans : XM := (RX14, yX14_orphans, cX14_orphans, 4, (some .int), 1, [])
abbrev xm_X14_owner : XM := (RX14, yX14_owner, cX14_owner, 4, (some .int), 2, [])
abbrev xm_X14_pack : XM := (RX14, yX14_pack, cX14_pack, 1, (some .int), 1, [])
abbrev xm_X14_pin : XM := (RX14, yX14_pin, cX14_pin, 6, (some .int), 2, [])
abbrev xm_X14_plan : XM := (RX14, yX14_plan, cX14_plan, 2, (some .int), 1, [])
abbrev xm_X14_planAt : XM := (RX14, yX14_planAt, cX14_planAt, 3, (some .int), 2, [])
abbrev xm_X14_proof : XM := (RX14, yX14_proof, cX14_proof, 1, (some .int), 1, [])
abbrev xm_X14_proofAt : XM := (RX14, yX14_proofAt, cX14_proofAt, 3, (some .int), 3, [])
abbrev xm_X14_proofErrors : XM := (RX14, yX14_proofErrors, cX14_proofErrors, 11, (some .int), 1, [])
abbrev xm_X14_provide : XM := (RX14, yX14_provide, cX14_provide, 7, (some .int), 5, [])
abbrev xm_X14_put : XM := (RX14, yX14_put, cX14_put, 4, none, 4, [])
abbrev xm_X14_putGoal : XM := (RX14, yX14_putGoal, cX14_putGoal, 2, none, 2, [])
abbrev xm_X14_putRoot : XM := (RX14, yX14_putRoot, cX14_putRoot, 3, none, 3, [])
abbrev xm_X14_quota : XM := (RX14, yX14_quota, cX14_quota, 3, (some .int), 2, [])
abbrev xm_X14_reach : XM := (RX14, yX14_reach, cX14_reach, 5, none, 2, [])
abbrev xm_X14_readAtom : XM := (RX14, yX14_readAtom, cX14_readAtom, 1, (some .boolean), 1, [])
abbrev xm_X14_readBan : XM := (RX14, yX14_readBan, cX14_readBan, 1, (some (.object "KitwardenModel$Need")), 1, [])
abbrev xm_X14_readLetter : XM := (RX14, yX14_readLetter, cX14_readLetter, 1, (some .boolean), 1, [])
abbrev xm_X14_readNeed : XM := (RX14, yX14_readNeed, cX14_readNeed, 2, (some (.object "KitwardenModel$Need")), 1, [])
abbrev xm_X14_readRange : XM := (RX14, yX14_readRange, cX14_readRange, 2, (some .boolean), 1, [])
abbrev xm_X14_readRangeOf : XM := (RX14, yX14_readRangeOf, cX14_readRangeOf, 2, (some (.object "KitwardenModel$Need")), 2, [])
abbrev xm_X14_readSpan : XM := (RX14, yX14_readSpan, cX14_readSpan, 4, (some .boolean), 1, [])
abbrev xm_X14_readVersion : XM := (RX14, yX14_readVersion, cX14_readVersion, 2, (some .boolean), 1, [])
abbrev xm_X14_record : XM := (RX14, yX14_record, cX14_record, 1, none, 1, [])
abbrev xm_X14_refused : XM := (RX14, yX14_refused, cX14_refused, 3, (some .boolean), 3, [])
abbrev xm_X14_root : XM := (RX14, yX14_root, cX14_root, 3, (some .int), 2, [])
abbrev xm_X14_rootAt : XM := (RX14, yX14_rootAt, cX14_rootAt, 2, (some .int), 2, [])
abbrev xm_X14_scriptAt : XM := (RX14, yX14_scriptAt, cX14_scriptAt, 2, (some .int), 2, [])
abbrev xm_X14_scripts : XM := (RX14, yX14_scripts, cX14_scripts, 1, (some .int), 1, [])
abbrev xm_X14_search : XM := (RX14, yX14_search, cX14_search, 17, (some .boolean), 3, [])
abbrev xm_X14_setAt : XM := (RX14, yX14_setAt, cX14_setAt, 3, (some (.array .int)), 2, [])
abbrev xm_X14_setMany : XM := (RX14, yX14_setMany, cX14_setMany, 3, (some .int), 1, [])
abbrev xm_X14_share : XM := (RX14, yX14_share, cX14_share, 2, (some .float), 1, [])
abbrev xm_X14_size : XM := (RX14, yX14_size, cX14_size, 1, (some .int), 1, [])
abbrev xm_X14_sizeOf : XM := (RX14, yX14_sizeOf, cX14_sizeOf, 4, (some .int), 2, [])
abbrev xm_X14_slotIn : XM := (RX14, yX14_slotIn, cX14_slotIn, 3, (some .int), 3, [])
abbrev xm_X14_slotOf : XM := (RX14, yX14_slotOf, cX14_slotOf, 4, (some .int), 3, [])
abbrev xm_X14_solve : XM := (RX14, yX14_solve, cX14_solve, 3, (some .int), 2, [])
abbrev xm_X14_sort : XM := (RX14, yX14_sort, cX14_sort, 6, (some (.array .int)), 2, [])
abbrev xm_X14_startText : XM := (RX14, yX14_startText, cX14_startText, 1, none, 1, [])
abbrev xm_X14_sumWrong : XM := (RX14, yX14_sumWrong, cX14_sumWrong, 2, (some .int), 2, [])
abbrev xm_X14_surelyChanged : XM := (RX14, yX14_surelyChanged, cX14_surelyChanged, 11, (some .int), 3, [])
abbrev xm_X14_takeLock : XM := (RX14, yX14_takeLock, cX14_takeLock, 3, (some .int), 2, [])
abbrev xm_X14_taken : XM := (RX14, yX14_taken, cX14_taken, 6, (some (.object "KitwardenModel$Need")), 3, [])
abbrev xm_X14_tellClauses : XM := (RX14, yX14_tellClauses, cX14_tellClauses, 8, none, 1, [])
abbrev xm_X14_tellOf : XM := (RX14, yX14_tellOf, cX14_tellOf, 16, none, 2, [])
abbrev xm_X14_then : XM := (RX14, yX14_then, cX14_then, 3, (some .int), 3, [])
abbrev xm_X14_thrown : XM := (RX14, yX14_thrown, cX14_thrown, 1, (some .int), 1, [])
abbrev xm_X14_undo : XM := (RX14, yX14_undo, cX14_undo, 1, (some .int), 1, [])
abbrev xm_X14_unwish : XM := (RX14, yX14_unwish, cX14_unwish, 2, (some .int), 2, [])
abbrev xm_X14_ver : XM := (RX14, yX14_ver, cX14_ver, 3, (some .int), 3, [])
abbrev xm_X14_version : XM := (RX14, yX14_version, cX14_version, 8, (some .int), 6, [])
abbrev xm_X14_versionAt : XM := (RX14, yX14_versionAt, cX14_versionAt, 3, (some .int), 3, [])
abbrev xm_X14_versionOf : XM := (RX14, yX14_versionOf, cX14_versionOf, 2, (some .int), 2, [])
abbrev xm_X14_versions : XM := (RX14, yX14_versions, cX14_versions, 2, (some .int), 2, [])
abbrev xm_X14_versionsOf : XM := (RX14, yX14_versionsOf, cX14_versionsOf, 3, (some (.array .int)), 2, [])
abbrev xm_X14_wish : XM := (RX14, yX14_wish, cX14_wish, 3, (some .int), 1, [])
abbrev xm_X14_wishAt : XM := (RX14, yX14_wishAt, cX14_wishAt, 3, (some (.object "KitwardenModel$Need")), 2, [])
abbrev xm_X14_wishesLeft : XM := (RX14, yX14_wishesLeft, cX14_wishesLeft, 3, (some .int), 1, [])
abbrev xm_X14_within : XM := (RX14, yX14_within, cX14_within, 3, (some .boolean), 3, [])
abbrev xm_X14_without : XM := (RX14, yX14_without, cX14_without, 6, (some .int), 2, [])
abbrev xm_X14_wrong : XM := (RX14, yX14_wrong, cX14_wrong, 1, (some .boolean), 1, [])
abbrev xm_X1_add : XM := (RX1, yX1_add, cX1_add, 8, none, 6, [])
abbrev xm_X1_init : XM := (RX1, yX1_init, cX1_init, 3, none, 3, [])
abbrev xm_X1_literalsOf : XM := (RX1, yX1_literalsOf, cX1_literalsOf, 2, (some .int), 2, [])
abbrev xm_X1_tell : XM := (RX1, yX1_tell, cX1_tell, 4, none, 1, [])
abbrev xm_X1_tellBan : XM := (RX1, yX1_tellBan, cX1_tellBan, 10, none, 5, [])
abbrev xm_X1_tellHold : XM := (RX1, yX1_tellHold, cX1_tellHold, 7, none, 3, [])
abbrev xm_X1_tellNeed : XM := (RX1, yX1_tellNeed, cX1_tellNeed, 9, none, 7, [])
abbrev xm_X1_tellNone : XM := (RX1, yX1_tellNone, cX1_tellNone, 7, none, 4, [])
abbrev xm_X1_tellPairs : XM := (RX1, yX1_tellPairs, cX1_tellPairs, 7, none, 2, [])
abbrev xm_X1_tellVersion : XM := (RX1, yX1_tellVersion, cX1_tellVersion, 8, none, 3, [])
abbrev xm_X2_afterStep : XM := (RX2, yX2_afterStep, cX2_afterStep, 13, (some .long), 3, [])
abbrev xm_X2_aheadOf : XM := (RX2, yX2_aheadOf, cX2_aheadOf, 8, (some .int), 3, [])
abbrev xm_X2_arrange : XM := (RX2, yX2_arrange, cX2_arrange, 6, none, 2, [])
abbrev xm_X2_comingAt : XM := (RX2, yX2_comingAt, cX2_comingAt, 8, (some .int), 3, [])
abbrev xm_X2_comingCount : XM := (RX2, yX2_comingCount, cX2_comingCount, 2, (some .int), 1, [])
abbrev xm_X2_comingOf : XM := (RX2, yX2_comingOf, cX2_comingOf, 3, (some .int), 2, [])
abbrev xm_X2_failedBy : XM := (RX2, yX2_failedBy, cX2_failedBy, 4, (some .long), 4, [])
abbrev xm_X2_filesOf : XM := (RX2, yX2_filesOf, cX2_filesOf, 5, (some .int), 2, [])
abbrev xm_X2_findSteps : XM := (RX2, yX2_findSteps, cX2_findSteps, 8, none, 1, [])
abbrev xm_X2_firstFree : XM := (RX2, yX2_firstFree, cX2_firstFree, 3, (some .int), 2, [])
abbrev xm_X2_firstWishFor : XM := (RX2, yX2_firstWishFor, cX2_firstWishFor, 4, (some .int), 2, [])
abbrev xm_X2_greatestOf : XM := (RX2, yX2_greatestOf, cX2_greatestOf, 4, (some .int), 2, [])
abbrev xm_X2_init : XM := (RX2, yX2_init, cX2_init, 3, none, 3, [])
abbrev xm_X2_isAllFetched : XM := (RX2, yX2_isAllFetched, cX2_isAllFetched, 3, (some .boolean), 1, [])
abbrev xm_X2_isRingFrom : XM := (RX2, yX2_isRingFrom, cX2_isRingFrom, 7, (some .boolean), 3, [])
abbrev xm_X2_leastBehind : XM := (RX2, yX2_leastBehind, cX2_leastBehind, 4, (some .int), 3, [])
abbrev xm_X2_moved : XM := (RX2, yX2_moved, cX2_moved, 8, (some .long), 4, [])
abbrev xm_X2_nextStep : XM := (RX2, yX2_nextStep, cX2_nextStep, 8, (some .int), 4, [])
abbrev xm_X2_packsWith : XM := (RX2, yX2_packsWith, cX2_packsWith, 5, (some .int), 2, [])
abbrev xm_X2_reach : XM := (RX2, yX2_reach, cX2_reach, 5, none, 2, [])
abbrev xm_X2_reachFrom : XM := (RX2, yX2_reachFrom, cX2_reachFrom, 10, none, 4, [])
abbrev xm_X2_run : XM := (RX2, yX2_run, cX2_run, 5, (some .int), 1, [])
abbrev xm_X2_walkRing : XM := (RX2, yX2_walkRing, cX2_walkRing, 4, none, 3, [])
abbrev xm_X2_wholeOf : XM := (RX2, yX2_wholeOf, cX2_wholeOf, 5, (some .long), 2, [])
abbrev xm_X3_areNeedsMet : XM := (RX3, yX3_areNeedsMet, cX3_areNeedsMet, 6, (some .boolean), 3, [])
abbrev xm_X3_brokenIn : XM := (RX3, yX3_brokenIn, cX3_brokenIn, 8, (some .int), 2, [])
abbrev xm_X3_init : XM := (RX3, yX3_init, cX3_init, 2, none, 2, [])
abbrev xm_X3_isBanMet : XM := (RX3, yX3_isBanMet, cX3_isBanMet, 5, (some .boolean), 3, [])
abbrev xm_X3_isFitting : XM := (RX3, yX3_isFitting, cX3_isFitting, 6, (some .boolean), 2, [])
abbrev xm_X3_isMeeting : XM := (RX3, yX3_isMeeting, cX3_isMeeting, 5, (some .boolean), 3, [])
abbrev xm_X3_isMet : XM := (RX3, yX3_isMet, cX3_isMet, 6, (some .boolean), 3, [])
abbrev xm_X3_isOptionOn : XM := (RX3, yX3_isOptionOn, cX3_isOptionOn, 4, (some .boolean), 3, [])
abbrev xm_X3_isSoundSet : XM := (RX3, yX3_isSoundSet, cX3_isSoundSet, 4, (some .boolean), 2, [])
abbrev xm_X3_meeting : XM := (RX3, yX3_meeting, cX3_meeting, 6, (some .long), 2, [])
abbrev xm_X3_renew : XM := (RX3, yX3_renew, cX3_renew, 4, none, 1, [])
abbrev xm_X3_setNumber : XM := (RX3, yX3_setNumber, cX3_setNumber, 8, (some .long), 2, [])
abbrev xm_X3_setsToGoThrough : XM := (RX3, yX3_setsToGoThrough, cX3_setsToGoThrough, 3, (some .int), 1, [])
abbrev xm_X4_dropUnneeded : XM := (RX4, yX4_dropUnneeded, cX4_dropUnneeded, 4, none, 1, [])
abbrev xm_X4_findCore : XM := (RX4, yX4_findCore, cX4_findCore, 3, none, 1, [])
abbrev xm_X4_init : XM := (RX4, yX4_init, cX4_init, 3, none, 3, [])
abbrev xm_X4_isBestJoined : XM := (RX4, yX4_isBestJoined, cX4_isBestJoined, 7, (some .boolean), 1, [])
abbrev xm_X4_isCoreWrong : XM := (RX4, yX4_isCoreWrong, cX4_isCoreWrong, 3, (some .boolean), 1, [])
abbrev xm_X4_isCovered : XM := (RX4, yX4_isCovered, cX4_isCovered, 4, (some .boolean), 3, [])
abbrev xm_X4_isJoinable : XM := (RX4, yX4_isJoinable, cX4_isJoinable, 5, (some .boolean), 3, [])
abbrev xm_X4_isProofWrong : XM := (RX4, yX4_isProofWrong, cX4_isProofWrong, 2, (some .boolean), 1, [])
abbrev xm_X4_isRefuted : XM := (RX4, yX4_isRefuted, cX4_isRefuted, 3, (some .boolean), 1, [])
abbrev xm_X4_isSpent : XM := (RX4, yX4_isSpent, cX4_isSpent, 3, (some .boolean), 3, [])
abbrev xm_X4_join : XM := (RX4, yX4_join, cX4_join, 2, none, 1, [])
abbrev xm_X4_literalsOf : XM := (RX4, yX4_literalsOf, cX4_literalsOf, 2, (some .int), 2, [])
abbrev xm_X4_spend : XM := (RX4, yX4_spend, cX4_spend, 3, none, 3, [])
abbrev xm_X4_takeAll : XM := (RX4, yX4_takeAll, cX4_takeAll, 2, none, 1, [])
abbrev xm_X5_addNextToken : XM := (RX5, yX5_addNextToken, cX5_addNextToken, 6, (some .int), 3, [])
abbrev xm_X5_addToken : XM := (RX5, yX5_addToken, cX5_addToken, 4, none, 4, [])
abbrev xm_X5_byteAt : XM := (RX5, yX5_byteAt, cX5_byteAt, 2, (some .int), 2, [])
abbrev xm_X5_bytesIn : XM := (RX5, yX5_bytesIn, cX5_bytesIn, 3, (some .int), 1, [])
abbrev xm_X5_digitsFrom : XM := (RX5, yX5_digitsFrom, cX5_digitsFrom, 4, (some .int), 2, [])
abbrev xm_X5_empty : XM := (RX5, yX5_empty, cX5_empty, 2, (some .int), 1, [])
abbrev xm_X5_errorAt : XM := (RX5, yX5_errorAt, cX5_errorAt, 1, (some .int), 1, [])
abbrev xm_X5_findTokens : XM := (RX5, yX5_findTokens, cX5_findTokens, 4, none, 2, [])
abbrev xm_X5_hasRoomFor : XM := (RX5, yX5_hasRoomFor, cX5_hasRoomFor, 2, (some .boolean), 2, [])
abbrev xm_X5_init : XM := (RX5, yX5_init, cX5_init, 1, none, 1, [])
abbrev xm_X5_isDigit : XM := (RX5, yX5_isDigit, cX5_isDigit, 1, (some .boolean), 1, [])
abbrev xm_X5_isEmptyText : XM := (RX5, yX5_isEmptyText, cX5_isEmptyText, 1, (some .boolean), 1, [])
abbrev xm_X5_isNext : XM := (RX5, yX5_isNext, cX5_isNext, 2, (some .boolean), 2, [])
abbrev xm_X5_isSign : XM := (RX5, yX5_isSign, cX5_isSign, 1, (some .boolean), 1, [])
abbrev xm_X5_isSpanSign : XM := (RX5, yX5_isSpanSign, cX5_isSpanSign, 1, (some .boolean), 1, [])
abbrev xm_X5_length : XM := (RX5, yX5_length, cX5_length, 1, (some .int), 1, [])
abbrev xm_X5_pass : XM := (RX5, yX5_pass, cX5_pass, 3, (some .int), 2, [])
abbrev xm_X5_put : XM := (RX5, yX5_put, cX5_put, 4, none, 2, [])
abbrev xm_X5_readAtom : XM := (RX5, yX5_readAtom, cX5_readAtom, 6, (some (.object "Kitwarden$Atom")), 2, [])
abbrev xm_X5_readNeed : XM := (RX5, yX5_readNeed, cX5_readNeed, 7, (some (.object "Kitwarden$Atom")), 3, [])
abbrev xm_X5_readRange : XM := (RX5, yX5_readRange, cX5_readRange, 4, (some (.object "Kitwarden$Span")), 1, [])
abbrev xm_X5_readSpan : XM := (RX5, yX5_readSpan, cX5_readSpan, 6, (some (.object "Kitwarden$Span")), 1, [])
abbrev xm_X5_readVersion : XM := (RX5, yX5_readVersion, cX5_readVersion, 4, (some .int), 1, [])
abbrev xm_X5_readWholeRange : XM := (RX5, yX5_readWholeRange, cX5_readWholeRange, 3, (some (.object "Kitwarden$Span")), 2, [])
abbrev xm_X6_addWish : XM := (RX6, yX6_addWish, cX6_addWish, 3, (some .int), 2, [])
abbrev xm_X6_copyFrom : XM := (RX6, yX6_copyFrom, cX6_copyFrom, 3, none, 2, [])
abbrev xm_X6_entryAt : XM := (RX6, yX6_entryAt, cX6_entryAt, 2, (some .long), 2, [])
abbrev xm_X6_init : XM := (RX6, yX6_init, cX6_init, 1, none, 1, [])
abbrev xm_X6_isKept : XM := (RX6, yX6_isKept, cX6_isKept, 2, (some .boolean), 2, [])
abbrev xm_X6_keepEntry : XM := (RX6, yX6_keepEntry, cX6_keepEntry, 1, none, 1, [])
abbrev xm_X6_pinCount : XM := (RX6, yX6_pinCount, cX6_pinCount, 3, (some .int), 1, [])
abbrev xm_X6_tellFailure : XM := (RX6, yX6_tellFailure, cX6_tellFailure, 4, none, 4, [])
abbrev xm_X6_wishesLeft : XM := (RX6, yX6_wishesLeft, cX6_wishesLeft, 3, (some .int), 1, [])
abbrev xm_X7_back : XM := (RX7, yX7_back, cX7_back, 2, none, 2, [])
abbrev xm_X7_canHold : XM := (RX7, yX7_canHold, cX7_canHold, 9, (some .boolean), 3, [])
abbrev xm_X7_choose : XM := (RX7, yX7_choose, cX7_choose, 15, (some .int), 1, [])
abbrev xm_X7_deepen : XM := (RX7, yX7_deepen, cX7_deepen, 1, none, 1, [])
abbrev xm_X7_draw : XM := (RX7, yX7_draw, cX7_draw, 4, (some .int), 1, [])
abbrev xm_X7_forget : XM := (RX7, yX7_forget, cX7_forget, 7, none, 1, [])
abbrev xm_X7_found : XM := (RX7, yX7_found, cX7_found, 1, (some .long), 1, [])
abbrev xm_X7_hasEmpty : XM := (RX7, yX7_hasEmpty, cX7_hasEmpty, 2, (some .boolean), 1, [])
abbrev xm_X7_heaviest : XM := (RX7, yX7_heaviest, cX7_heaviest, 8, (some .int), 3, [])
abbrev xm_X7_init : XM := (RX7, yX7_init, cX7_init, 2, none, 2, [])
abbrev xm_X7_isCovered : XM := (RX7, yX7_isCovered, cX7_isCovered, 4, (some .boolean), 3, [])
abbrev xm_X7_isTaken : XM := (RX7, yX7_isTaken, cX7_isTaken, 2, (some .boolean), 2, [])
abbrev xm_X7_join : XM := (RX7, yX7_join, cX7_join, 4, (some .long), 3, [])
abbrev xm_X7_keep : XM := (RX7, yX7_keep, cX7_keep, 2, none, 1, [])
abbrev xm_X7_levelBelow : XM := (RX7, yX7_levelBelow, cX7_levelBelow, 4, (some .int), 1, [])
abbrev xm_X7_link : XM := (RX7, yX7_link, cX7_link, 3, none, 3, [])
abbrev xm_X7_load : XM := (RX7, yX7_load, cX7_load, 6, none, 3, [])
abbrev xm_X7_pick : XM := (RX7, yX7_pick, cX7_pick, 7, (some .int), 3, [])
abbrev xm_X7_put : XM := (RX7, yX7_put, cX7_put, 6, none, 3, [])
abbrev xm_X7_putAll : XM := (RX7, yX7_putAll, cX7_putAll, 6, none, 3, [])
abbrev xm_X7_spread : XM := (RX7, yX7_spread, cX7_spread, 3, (some .int), 1, [])
abbrev xm_X7_tellChange : XM := (RX7, yX7_tellChange, cX7_tellChange, 5, none, 2, [])
abbrev xm_X7_trace : XM := (RX7, yX7_trace, cX7_trace, 11, none, 2, [])
abbrev xm_X7_visit : XM := (RX7, yX7_visit, cX7_visit, 14, (some .int), 2, [])
abbrev xm_X7_watch : XM := (RX7, yX7_watch, cX7_watch, 9, none, 2, [])
abbrev xm_X7_watchAll : XM := (RX7, yX7_watchAll, cX7_watchAll, 2, none, 1, [])
abbrev xm_X7_weigh : XM := (RX7, yX7_weigh, cX7_weigh, 4, none, 2, [])
abbrev xm_X8_addBan : XM := (RX8, yX8_addBan, cX8_addBan, 3, (some .int), 3, [])
abbrev xm_X8_addGiven : XM := (RX8, yX8_addGiven, cX8_addGiven, 5, (some .int), 4, [])
abbrev xm_X8_addNeed : XM := (RX8, yX8_addNeed, cX8_addNeed, 5, (some .int), 4, [])
abbrev xm_X8_addPack : XM := (RX8, yX8_addPack, cX8_addPack, 2, (some .int), 1, [])
abbrev xm_X8_addVersion : XM := (RX8, yX8_addVersion, cX8_addVersion, 7, (some .int), 6, [])
abbrev xm_X8_codeIn : XM := (RX8, yX8_codeIn, cX8_codeIn, 5, (some .int), 3, [])
abbrev xm_X8_copyFrom : XM := (RX8, yX8_copyFrom, cX8_copyFrom, 3, none, 2, [])
abbrev xm_X8_hasRoomIn : XM := (RX8, yX8_hasRoomIn, cX8_hasRoomIn, 2, (some .boolean), 2, [])
abbrev xm_X8_idAt : XM := (RX8, yX8_idAt, cX8_idAt, 3, (some .int), 3, [])
abbrev xm_X8_idIn : XM := (RX8, yX8_idIn, cX8_idIn, 5, (some .int), 3, [])
abbrev xm_X8_idOf : XM := (RX8, yX8_idOf, cX8_idOf, 4, (some .int), 3, [])
abbrev xm_X8_inRangeOf : XM := (RX8, yX8_inRangeOf, cX8_inRangeOf, 6, (some .long), 3, [])
abbrev xm_X8_init : XM := (RX8, yX8_init, cX8_init, 1, none, 1, [])
abbrev xm_X8_newerOf : XM := (RX8, yX8_newerOf, cX8_newerOf, 3, (some .int), 3, [])
abbrev xm_X8_putByAge : XM := (RX8, yX8_putByAge, cX8_putByAge, 5, none, 3, [])
abbrev xm_X8_sizeOf : XM := (RX8, yX8_sizeOf, cX8_sizeOf, 5, (some .int), 2, [])
abbrev xm_X8_unlikePacks : XM := (RX8, yX8_unlikePacks, cX8_unlikePacks, 7, (some .int), 3, [])
abbrev xm_X8_versionsOf : XM := (RX8, yX8_versionsOf, cX8_versionsOf, 2, (some .long), 2, [])
abbrev xm_X8_withOption : XM := (RX8, yX8_withOption, cX8_withOption, 5, (some .long), 2, [])
abbrev xm_X9_bestVersion : XM := (RX9, yX9_bestVersion, cX9_bestVersion, 10, (some .long), 4, [])
abbrev xm_X9_canStill : XM := (RX9, yX9_canStill, cX9_canStill, 6, (some .boolean), 3, [])
abbrev xm_X9_find : XM := (RX9, yX9_find, cX9_find, 7, (some .boolean), 2, [])
abbrev xm_X9_findTurns : XM := (RX9, yX9_findTurns, cX9_findTurns, 5, none, 1, [])
abbrev xm_X9_init : XM := (RX9, yX9_init, cX9_init, 3, none, 3, [])
abbrev xm_X9_isAhead : XM := (RX9, yX9_isAhead, cX9_isAhead, 11, (some .boolean), 3, [])
abbrev xm_X9_mustHave : XM := (RX9, yX9_mustHave, cX9_mustHave, 5, (some .int), 2, [])
abbrev xm_X9_settle : XM := (RX9, yX9_settle, cX9_settle, 8, none, 1, [])
def xs_J13 : XT XS := [(1000000, [(314, (4, 0, 0, .int, .long (6148914691236517205))), (316, (4, 0, 0, .int, .long (3689348814741910323))), (318, (4, 0, 0, .int, .long (1085102592571150095)))])]
def xs_J15 : XT XS := [(1000000, [(105, (1, 4, 0, .int, .null))])]
def xs_J3 : XT XS := []
def xs_J6 : XT XS := [(1000000, [(264, (4, 0, 0, .int, .int (65536))), (265, (4, 0, 0, .int, .int (1431655765))), (266, (4, 0, 0, .int, .int (858993459))), (267, (4, 0, 0, .int, .int (252645135)))])]
def xs_J7 : XT XS := [(1000000, [(150, (10, 0, 0, .int, .null)), (300, (1, 8, 0, .int, .null)), (304, (1, 16, 0, .int, .null)), (100002, (3, 5, 0, .int, .null))])]
def xs_J8 : XT XS := [(1000000, [(194, (1, 15, 0, .int, .null)), (200, (4, 0, 0, .int, .int (2147483639))), (201, (1, 11, 0, .int, .null))])]
def xs_J9 : XT XS := []
def xs_Jx4a65c : XT XS := [(63, [(1, (1, 26, 1, .int, .null)), (9, (0, 0, 1, .array (.object "java/lang/Object"), .ref 0)), (39, (8, 0, 0, .int, .null)), (48, (0, 0, 2, .int, .ref 0))]),
  (79, [(63, (0, 0, 0, .int, .ref 0)), (66, (1, 7, 0, .int, .null)), (69, (1, 21, 2, .int, .null)), (73, (1, 12, 0, .int, .null))]),
  (131, [(79, (1, 15, 0, .int, .null)), (118, (1, 3, 0, .int, .null)), (123, (1, 19, 2, .int, .null)), (129, (1, 22, 2, .int, .null))]),
  (1000000, [(131, (1, 17, 2, .int, .null)), (100007, (3, 5, 0, .int, .null))])]
def xs_Jx4a65c_i : XT XS := [(63, [(1, (1, 26, 1, .int, .null)), (9, (0, 0, 1, .array (.object "java/lang/Object"), .ref 0)), (39, (8, 0, 0, .int, .null)), (48, (0, 0, 2, .int, .ref 0))]),
  (79, [(63, (0, 0, 0, .int, .ref 0)), (66, (1, 7, 0, .int, .null)), (69, (1, 21, 2, .int, .null)), (73, (1, 12, 0, .int, .null))]),
  (131, [(79, (1, 15, 0, .int, .null)), (118, (1, 3, 0, .int, .null)), (123, (1, 19, 2, .int, .null)), (129, (1, 22, 2, .int, .null))]),
  (1000000, [(131, (1, 17, 2, .int, .null)), (100007, (3, 5, 0, .int, .null))])]
def xs_Jxa1e45 : XT XS := [(1000000, [(1, (7, 0, 0, .int, .null))])]
def xs_Jxa1e45_i : XT XS := [(1000000, [(1, (7, 0, 0, .int, .null))])]
def xs_Jxc12de : XT XS := [(1000000, [(1, (1, 25, 1, .int, .null)), (7, (0, 0, 0, .int, .ref 0))])]
def xs_Jxc12de_i : XT XS := [(1000000, [(1, (1, 25, 1, .int, .null)), (7, (0, 0, 0, .int, .ref 0))])]
def xs_L : XT XS := [(57, [(7, (1, 83, 15, .int, .null)), (8, (2, 13, 0, .int, .null)), (15, (1, 136, 15, .int, .null)), (19, (1, 160, 15, .int, .null)), (26, (1, 131, 15, .int, .null)), (30, (1, 85, 15, .int, .null)), (34, (1, 143, 15, .int, .null)), (38, (1, 133, 15, .int, .null)), (41, (1, 101, 15, .int, .null)), (45, (1, 163, 15, .int, .null)), (48, (1, 161, 15, .int, .null)), (51, (1, 112, 15, .int, .null)), (54, (1, 146, 15, .int, .null))]),
  (98, [(57, (1, 164, 15, .int, .null)), (60, (1, 158, 15, .int, .null)), (63, (1, 111, 15, .int, .null)), (67, (1, 138, 15, .int, .null)), (70, (1, 144, 15, .int, .null)), (73, (1, 162, 15, .int, .null)), (76, (1, 118, 15, .int, .null)), (80, (1, 130, 15, .int, .null)), (83, (1, 86, 15, .int, .null)), (86, (1, 106, 15, .int, .null)), (89, (1, 100, 15, .int, .null)), (92, (1, 142, 15, .int, .null)), (95, (1, 122, 15, .int, .null))]),
  (139, [(98, (1, 124, 15, .int, .null)), (101, (1, 125, 15, .int, .null)), (104, (1, 127, 15, .int, .null)), (107, (1, 155, 15, .int, .null)), (110, (1, 129, 15, .int, .null)), (113, (1, 132, 15, .int, .null)), (116, (1, 152, 15, .int, .null)), (119, (1, 107, 15, .int, .null)), (124, (1, 139, 15, .int, .null)), (127, (1, 140, 15, .int, .null)), (130, (1, 114, 15, .int, .null)), (133, (1, 105, 15, .int, .null)), (136, (1, 115, 15, .int, .null))]),
  (174, [(139, (1, 135, 15, .int, .null)), (142, (1, 104, 15, .int, .null)), (146, (1, 147, 15, .int, .null)), (149, (1, 165, 15, .int, .null)), (152, (1, 84, 15, .int, .null)), (155, (1, 156, 15, .int, .null)), (158, (1, 113, 1, .int, .null)), (159, (2, 15, 0, .int, .null)), (161, (1, 218, 1, .int, .null)), (162, (1, 27, 0, .int, .null)), (167, (1, 172, 17, .int, .null)), (168, (1, 313, 17, .int, .null)), (171, (1, 98, 15, .int, .null))]),
  (198, [(174, (1, 184, 17, .int, .null)), (175, (1, 102, 15, .int, .null)), (178, (1, 193, 17, .int, .null)), (179, (1, 52, 0, .int, .null)), (182, (1, 268, 17, .int, .null)), (183, (1, 65, 0, .int, .null)), (185, (1, 317, 17, .int, .null)), (186, (1, 48, 0, .int, .null)), (189, (1, 259, 17, .int, .null)), (190, (1, 29, 0, .int, .null)), (193, (1, 174, 17, .int, .null)), (194, (1, 57, 0, .int, .null)), (197, (1, 275, 17, .int, .null))]),
  (219, [(198, (1, 50, 0, .int, .null)), (200, (1, 263, 17, .int, .null)), (201, (1, 32, 0, .int, .null)), (204, (1, 190, 17, .int, .null)), (205, (1, 68, 0, .int, .null)), (207, (1, 320, 17, .int, .null)), (208, (1, 66, 0, .int, .null)), (210, (1, 318, 17, .int, .null)), (211, (1, 38, 0, .int, .null)), (213, (1, 217, 17, .int, .null)), (214, (1, 59, 0, .int, .null)), (216, (1, 291, 17, .int, .null)), (217, (1, 69, 0, .int, .null))]),
  (241, [(219, (1, 322, 17, .int, .null)), (220, (1, 64, 0, .int, .null)), (222, (1, 315, 17, .int, .null)), (223, (1, 37, 0, .int, .null)), (226, (1, 216, 17, .int, .null)), (227, (1, 53, 0, .int, .null)), (229, (1, 269, 17, .int, .null)), (230, (1, 58, 0, .int, .null)), (232, (1, 279, 17, .int, .null)), (233, (1, 151, 15, .int, .null)), (237, (1, 303, 17, .int, .null)), (238, (1, 67, 0, .int, .null)), (240, (1, 319, 17, .int, .null))]),
  (264, [(241, (1, 41, 0, .int, .null)), (243, (1, 234, 17, .int, .null)), (244, (1, 87, 15, .int, .null)), (247, (1, 181, 17, .int, .null)), (248, (1, 47, 0, .int, .null)), (250, (1, 258, 17, .int, .null)), (251, (1, 109, 15, .int, .null)), (254, (1, 208, 17, .int, .null)), (255, (1, 30, 0, .int, .null)), (257, (1, 175, 17, .int, .null)), (258, (1, 35, 0, .int, .null)), (260, (1, 197, 17, .int, .null)), (261, (1, 99, 15, .int, .null))]),
  (284, [(264, (1, 187, 17, .int, .null)), (265, (1, 31, 0, .int, .null)), (267, (1, 188, 17, .int, .null)), (268, (1, 141, 15, .int, .null)), (271, (1, 272, 17, .int, .null)), (272, (1, 56, 0, .int, .null)), (274, (1, 273, 17, .int, .null)), (275, (1, 42, 0, .int, .null)), (277, (1, 247, 17, .int, .null)), (278, (1, 43, 0, .int, .null)), (280, (1, 248, 17, .int, .null)), (281, (1, 44, 0, .int, .null)), (283, (1, 249, 17, .int, .null))]),
  (305, [(284, (1, 45, 0, .int, .null)), (286, (1, 255, 17, .int, .null)), (287, (1, 62, 0, .int, .null)), (289, (1, 308, 17, .int, .null)), (290, (1, 46, 0, .int, .null)), (292, (1, 256, 17, .int, .null)), (293, (1, 49, 0, .int, .null)), (295, (1, 261, 17, .int, .null)), (296, (1, 61, 0, .int, .null)), (298, (1, 306, 17, .int, .null)), (299, (1, 108, 15, .int, .null)), (302, (1, 199, 17, .int, .null)), (303, (1, 36, 0, .int, .null))]),
  (324, [(305, (1, 198, 17, .int, .null)), (306, (1, 54, 0, .int, .null)), (308, (1, 270, 17, .int, .null)), (309, (1, 55, 0, .int, .null)), (311, (1, 271, 17, .int, .null)), (312, (1, 39, 0, .int, .null)), (314, (1, 219, 17, .int, .null)), (315, (1, 34, 0, .int, .null)), (317, (1, 196, 17, .int, .null)), (318, (1, 40, 0, .int, .null)), (320, (1, 220, 17, .int, .null)), (321, (1, 51, 0, .int, .null)), (323, (1, 267, 17, .int, .null))]),
  (347, [(324, (1, 97, 15, .int, .null)), (327, (1, 183, 17, .int, .null)), (328, (1, 33, 0, .int, .null)), (330, (1, 195, 17, .int, .null)), (331, (1, 148, 15, .int, .null)), (334, (1, 294, 17, .int, .null)), (335, (1, 60, 0, .int, .null)), (337, (1, 293, 17, .int, .null)), (338, (1, 134, 15, .int, .null)), (341, (1, 266, 17, .int, .null)), (342, (1, 70, 0, .int, .null)), (344, (1, 326, 17, .int, .null)), (345, (1, 28, 0, .int, .null))]),
  (372, [(347, (1, 173, 17, .int, .null)), (348, (1, 63, 0, .int, .null)), (350, (1, 312, 17, .int, .null)), (351, (1, 150, 15, .int, .null)), (354, (1, 299, 17, .int, .null)), (355, (1, 157, 15, .int, .null)), (358, (1, 314, 17, .int, .null)), (359, (1, 96, 15, .int, .null)), (362, (1, 182, 17, .int, .null)), (363, (1, 119, 15, .int, .null)), (367, (1, 238, 17, .int, .null)), (368, (1, 103, 15, .int, .null)), (371, (1, 194, 17, .int, .null))]),
  (1000000, [(372, (1, 126, 15, .int, .null)), (376, (1, 251, 17, .int, .null)), (377, (1, 149, 15, .int, .null)), (381, (1, 298, 17, .int, .null)), (200008, (9, 13, 0, .int, .null)), (200159, (9, 15, 0, .int, .null)), (300013, (11, 0, 0, .int, .null)), (300022, (11, 2, 0, .int, .null)), (300024, (11, 1, 0, .int, .null)), (300122, (11, 3, 0, .int, .null))])]
def xs_X0 : XT XS := [(1000000, [(1, (7, 0, 0, .int, .null)), (7, (0, 1, 0, .int, .null)), (13, (0, 1, 1, .boolean, .null)), (17, (0, 1, 2, .object "Kitwarden$Span", .null))])]
def xs_X0_i : XT XS := [(1000000, [(1, (7, 0, 0, .int, .null)), (7, (0, 1, 0, .int, .ref 0)), (13, (0, 1, 1, .boolean, .ref 0)), (17, (0, 1, 2, .object "Kitwarden$Span", .ref 0))])]
def xs_X1 : XT XS := [(29, [(3, (7, 0, 0, .int, .null)), (9, (0, 2, 3, .int, .ref 0)), (15, (0, 2, 4, .array (.long), .null)), (19, (0, 2, 5, .array (.long), .null)), (22, (0, 2, 6, .array (.int), .null)), (26, (0, 2, 7, .array (.int), .null))]),
  (53, [(29, (0, 2, 8, .array (.int), .null)), (32, (0, 2, 0, .object "Kitwarden$State", .null)), (36, (0, 12, 0, .object "Kitwarden$Shelf", .null)), (42, (0, 2, 1, .object "Kitwarden$Shelf", .null)), (43, (0, 2, 2, .object "Kitwarden$Meets", .null)), (47, (1, 1, 0, .int, .null))]),
  (79, [(53, (1, 76, 14, .int, .null)), (57, (0, 7, 0, .int, .ref 0)), (62, (0, 7, 1, .array (.object "Kitwarden$Atom"), .null)), (66, (0, 4, 6, .array (.long), .null)), (70, (1, 334, 4, .int, .null)), (74, (0, 9, 0, .int, .ref 0))]),
  (100, [(79, (0, 7, 2, .int, .ref 0)), (82, (0, 7, 6, .long, .ref 0)), (86, (1, 333, 4, .int, .null)), (90, (0, 4, 7, .array (.long), .null)), (93, (1, 335, 4, .int, .null)), (97, (0, 9, 2, .array (.int), .null))]),
  (123, [(100, (1, 457, 11, .int, .null)), (104, (1, 337, 4, .int, .null)), (108, (0, 4, 5, .array (.long), .null)), (111, (1, 153, 0, .int, .null)), (115, (1, 328, 4, .int, .null)), (119, (1, 336, 4, .int, .null))]),
  (145, [(123, (0, 1, 1, .boolean, .null)), (129, (0, 1, 0, .int, .null)), (132, (1, 466, 11, .int, .null)), (135, (1, 110, 0, .int, .null)), (139, (0, 9, 6, .array (.int), .null)), (142, (0, 9, 11, .array (.int), .null))]),
  (162, [(145, (0, 9, 12, .array (.object "Kitwarden$Atom"), .null)), (148, (0, 4, 2, .array (.long), .null)), (150, (0, 9, 14, .array (.int), .null)), (153, (0, 4, 3, .array (.long), .null)), (156, (4, 0, 0, .int, .long (-1))), (158, (1, 332, 4, .int, .null))]),
  (1000000, [(162, (0, 9, 19, .array (.object "Kitwarden$Atom"), .null)), (165, (0, 4, 4, .array (.long), .null))])]
def xs_X1_i : XT XS := [(29, [(3, (7, 0, 0, .int, .null)), (9, (0, 2, 3, .int, .ref 0)), (15, (0, 2, 4, .array (.long), .ref 0)), (19, (0, 2, 5, .array (.long), .ref 0)), (22, (0, 2, 6, .array (.int), .ref 0)), (26, (0, 2, 7, .array (.int), .ref 0))]),
  (53, [(29, (0, 2, 8, .array (.int), .ref 0)), (32, (0, 2, 0, .object "Kitwarden$State", .ref 0)), (36, (0, 12, 0, .object "Kitwarden$Shelf", .null)), (42, (0, 2, 1, .object "Kitwarden$Shelf", .ref 0)), (43, (0, 2, 2, .object "Kitwarden$Meets", .ref 0)), (47, (1, 1, 0, .int, .null))]),
  (79, [(53, (1, 76, 14, .int, .null)), (57, (0, 7, 0, .int, .ref 0)), (62, (0, 7, 1, .array (.object "Kitwarden$Atom"), .null)), (66, (0, 4, 6, .array (.long), .null)), (70, (1, 334, 4, .int, .null)), (74, (0, 9, 0, .int, .ref 0))]),
  (100, [(79, (0, 7, 2, .int, .ref 0)), (82, (0, 7, 6, .long, .ref 0)), (86, (1, 333, 4, .int, .null)), (90, (0, 4, 7, .array (.long), .null)), (93, (1, 335, 4, .int, .null)), (97, (0, 9, 2, .array (.int), .null))]),
  (123, [(100, (1, 457, 11, .int, .null)), (104, (1, 337, 4, .int, .null)), (108, (0, 4, 5, .array (.long), .null)), (111, (1, 153, 0, .int, .null)), (115, (1, 328, 4, .int, .null)), (119, (1, 336, 4, .int, .null))]),
  (145, [(123, (0, 1, 1, .boolean, .null)), (129, (0, 1, 0, .int, .null)), (132, (1, 466, 11, .int, .null)), (135, (1, 110, 0, .int, .null)), (139, (0, 9, 6, .array (.int), .null)), (142, (0, 9, 11, .array (.int), .null))]),
  (162, [(145, (0, 9, 12, .array (.object "Kitwarden$Atom"), .null)), (148, (0, 4, 2, .array (.long), .null)), (150, (0, 9, 14, .array (.int), .null)), (153, (0, 4, 3, .array (.long), .null)), (156, (4, 0, 0, .int, .long (-1))), (158, (1, 332, 4, .int, .null))]),
  (1000000, [(162, (0, 9, 19, .array (.object "Kitwarden$Atom"), .null)), (165, (0, 4, 4, .array (.long), .null))])]
def xs_X10 : XT XS := [(18, [(3, (7, 0, 0, .int, .null)), (9, (0, 11, 0, .int, .null)), (10, (2, 11, 0, .int, .null)), (15, (0, 11, 1, .int, .null))]),
  (30, [(18, (0, 11, 2, .int, .null)), (21, (0, 11, 3, .int, .null)), (24, (0, 11, 4, .int, .null)), (27, (1, 73, 1, .int, .null))]),
  (1000000, [(30, (1, 75, 13, .int, .null)), (34, (0, 11, 5, .object "Kitwarden$Span", .ref 0)), (100010, (3, 4, 0, .int, .null)), (200010, (9, 11, 0, .int, .null))])]
def xs_X10_i : XT XS := [(18, [(3, (7, 0, 0, .int, .null)), (9, (0, 11, 0, .int, .ref 0)), (10, (2, 11, 0, .int, .null)), (15, (0, 11, 1, .int, .ref 0))]),
  (30, [(18, (0, 11, 2, .int, .ref 0)), (21, (0, 11, 3, .int, .ref 0)), (24, (0, 11, 4, .int, .ref 0)), (27, (1, 73, 1, .int, .null))]),
  (1000000, [(30, (1, 75, 13, .int, .null)), (34, (0, 11, 5, .object "Kitwarden$Span", .ref 0)), (100010, (3, 4, 0, .int, .null)), (200010, (9, 11, 0, .int, .null))])]
def xs_X11 : XT XS := [(20, [(3, (7, 0, 0, .int, .null)), (9, (2, 9, 0, .int, .null)), (11, (1, 461, 1, .int, .null)), (12, (0, 12, 0, .object "Kitwarden$Shelf", .null)), (18, (2, 7, 0, .int, .null))]),
  (35, [(20, (1, 416, 1, .int, .null)), (21, (0, 12, 1, .object "Kitwarden$Root", .null)), (25, (0, 12, 2, .object "Kitwarden$Root", .null)), (28, (0, 12, 3, .object "Kitwarden$Root", .null)), (31, (0, 12, 4, .int, .ref 0))]),
  (52, [(35, (0, 12, 5, .array (.long), .null)), (39, (0, 12, 6, .int, .ref 0)), (42, (0, 12, 7, .int, .ref 0)), (45, (0, 12, 8, .array (.int), .null)), (49, (0, 12, 9, .array (.long), .null))]),
  (72, [(52, (0, 12, 10, .array (.int), .null)), (55, (1, 455, 11, .int, .null)), (59, (1, 414, 9, .int, .null)), (62, (10, 0, 0, .int, .null)), (68, (1, 81, 14, .int, .null))]),
  (200018, [(72, (0, 7, 6, .long, .ref 0)), (76, (1, 110, 0, .int, .null)), (80, (1, 1, 0, .int, .null)), (86, (0, 9, 9, .array (.int), .null)), (200009, (9, 9, 0, .int, .null))]),
  (1000000, [(200018, (9, 7, 0, .int, .null))])]
def xs_X11_i : XT XS := [(20, [(3, (7, 0, 0, .int, .null)), (9, (2, 9, 0, .int, .null)), (11, (1, 461, 1, .int, .null)), (12, (0, 12, 0, .object "Kitwarden$Shelf", .ref 0)), (18, (2, 7, 0, .int, .null))]),
  (35, [(20, (1, 416, 1, .int, .null)), (21, (0, 12, 1, .object "Kitwarden$Root", .ref 0)), (25, (0, 12, 2, .object "Kitwarden$Root", .ref 0)), (28, (0, 12, 3, .object "Kitwarden$Root", .ref 0)), (31, (0, 12, 4, .int, .ref 0))]),
  (52, [(35, (0, 12, 5, .array (.long), .ref 0)), (39, (0, 12, 6, .int, .ref 0)), (42, (0, 12, 7, .int, .ref 0)), (45, (0, 12, 8, .array (.int), .ref 0)), (49, (0, 12, 9, .array (.long), .ref 0))]),
  (72, [(52, (0, 12, 10, .array (.int), .ref 0)), (55, (1, 455, 11, .int, .null)), (59, (1, 414, 9, .int, .null)), (62, (10, 0, 0, .int, .null)), (68, (1, 81, 14, .int, .null))]),
  (200018, [(72, (0, 7, 6, .long, .ref 0)), (76, (1, 110, 0, .int, .null)), (80, (1, 1, 0, .int, .null)), (86, (0, 9, 9, .array (.int), .null)), (200009, (9, 9, 0, .int, .null))]),
  (1000000, [(200018, (9, 7, 0, .int, .null))])]
def xs_X12 : XT XS := [(41, [(3, (7, 0, 0, .int, .null)), (9, (2, 6, 0, .int, .null)), (11, (1, 398, 1, .int, .null)), (12, (0, 13, 0, .object "Kitwarden$Reader", .null)), (16, (2, 12, 0, .int, .null)), (18, (1, 78, 1, .int, .null)), (19, (0, 13, 1, .object "Kitwarden$State", .null)), (23, (2, 0, 0, .int, .null)), (25, (1, 23, 1, .int, .null)), (26, (0, 13, 2, .object "java/util/ArrayList", .null)), (30, (2, 4, 0, .int, .null)), (32, (1, 364, 1, .int, .null)), (35, (0, 13, 3, .object "Kitwarden$Meets", .null)), (39, (2, 2, 0, .int, .null))]),
  (82, [(41, (1, 329, 1, .int, .null)), (44, (0, 13, 4, .object "Kitwarden$Clauses", .null)), (48, (2, 8, 0, .int, .null)), (50, (1, 431, 1, .int, .null)), (53, (0, 13, 5, .object "Kitwarden$Search", .null)), (57, (2, 10, 0, .int, .null)), (59, (1, 472, 1, .int, .null)), (62, (0, 13, 6, .object "Kitwarden$Solver", .null)), (66, (2, 5, 0, .int, .null)), (68, (1, 377, 1, .int, .null)), (71, (0, 13, 7, .object "Kitwarden$Prover", .null)), (75, (2, 3, 0, .int, .null)), (77, (1, 350, 1, .int, .null)), (78, (0, 13, 8, .object "Kitwarden$Installer", .null))]),
  (134, [(82, (0, 13, 9, .int, .ref 0)), (86, (0, 13, 10, .int, .ref 0)), (89, (0, 13, 11, .int, .ref 0)), (92, (1, 18, 2, .int, .null)), (96, (1, 392, 0, .int, .null)), (100, (1, 397, 8, .int, .null)), (104, (5, 0, 108, .int, .null)), (106, (6, 0, 0, .int, .null)), (111, (1, 406, 8, .int, .null)), (115, (1, 404, 8, .int, .null)), (119, (1, 394, 8, .int, .null)), (122, (1, 395, 8, .int, .null)), (125, (0, 12, 0, .object "Kitwarden$Shelf", .null)), (129, (0, 9, 0, .int, .ref 0))]),
  (176, [(134, (6, 0, 0, .int, .null)), (136, (1, 145, 15, .int, .null)), (139, (1, 452, 11, .int, .null)), (142, (1, 92, 15, .int, .null)), (145, (1, 117, 0, .int, .null)), (148, (5, 1, 152, .int, .null)), (150, (6, 0, 0, .int, .null)), (153, (1, 459, 11, .int, .null)), (157, (1, 456, 11, .int, .null)), (160, (6, 0, 0, .int, .null)), (162, (1, 453, 11, .int, .null)), (166, (1, 93, 15, .int, .null)), (169, (0, 9, 11, .array (.int), .null)), (173, (1, 79, 14, .int, .null))]),
  (222, [(176, (6, 0, 0, .int, .null)), (178, (1, 94, 15, .int, .null)), (182, (1, 451, 11, .int, .null)), (186, (0, 9, 14, .array (.int), .null)), (189, (6, 0, 0, .int, .null)), (191, (1, 449, 11, .int, .null)), (195, (6, 0, 0, .int, .null)), (197, (0, 9, 16, .array (.int), .null)), (200, (6, 0, 0, .int, .null)), (202, (1, 450, 11, .int, .null)), (206, (0, 9, 19, .array (.object "Kitwarden$Atom"), .null)), (210, (6, 0, 0, .int, .null)), (212, (1, 467, 11, .int, .null)), (216, (1, 1, 0, .int, .null))]),
  (265, [(222, (0, 9, 1, .int, .ref 0)), (225, (0, 12, 6, .int, .ref 0)), (228, (1, 76, 14, .int, .null)), (232, (1, 421, 9, .int, .null)), (237, (1, 120, 15, .int, .null)), (240, (0, 2, 3, .int, .ref 0)), (243, (0, 7, 7, .int, .ref 0)), (246, (0, 12, 7, .int, .ref 0)), (249, (6, 0, 0, .int, .null)), (251, (0, 9, 2, .array (.int), .null)), (254, (5, 2, 258, .int, .null)), (256, (6, 0, 0, .int, .null)), (259, (0, 9, 6, .array (.int), .null)), (262, (1, 457, 11, .int, .null))]),
  (310, [(265, (1, 95, 15, .int, .null)), (269, (1, 460, 11, .int, .null)), (273, (6, 0, 0, .int, .null)), (275, (0, 12, 4, .int, .ref 0)), (278, (0, 7, 0, .int, .ref 0)), (281, (6, 0, 0, .int, .null)), (283, (1, 413, 9, .int, .null)), (287, (0, 7, 1, .array (.object "Kitwarden$Atom"), .null)), (290, (6, 0, 0, .int, .null)), (292, (0, 7, 2, .int, .ref 0)), (295, (1, 5, 0, .int, .null)), (299, (1, 400, 8, .int, .null)), (303, (0, 7, 3, .array (.object "Kitwarden$Span"), .null)), (307, (1, 419, 9, .int, .null))]),
  (353, [(310, (4, 0, 0, .int, .int (40000))), (311, (6, 0, 0, .int, .null)), (313, (0, 7, 4, .int, .ref 0)), (316, (1, 470, 12, .int, .null)), (320, (1, 475, 12, .int, .null)), (323, (0, 10, 3, .long, .ref 0)), (327, (0, 7, 5, .long, .ref 0)), (330, (1, 137, 0, .int, .null)), (333, (1, 454, 11, .int, .null)), (337, (1, 153, 0, .int, .null)), (340, (0, 7, 6, .long, .ref 0)), (343, (1, 88, 15, .int, .null)), (347, (1, 474, 12, .int, .null)), (350, (1, 121, 15, .int, .null))]),
  (396, [(353, (1, 374, 6, .int, .null)), (356, (1, 373, 6, .int, .null)), (359, (1, 366, 6, .int, .null)), (363, (1, 357, 5, .int, .null)), (367, (0, 3, 8, .array (.int), .null)), (370, (0, 3, 9, .array (.int), .null)), (373, (0, 5, 2, .int, .ref 0)), (376, (0, 5, 3, .array (.int), .null)), (379, (0, 2, 6, .array (.int), .null)), (382, (0, 2, 7, .array (.int), .null)), (385, (0, 2, 8, .array (.int), .null)), (388, (1, 330, 4, .int, .null)), (391, (0, 5, 5, .int, .ref 0)), (394, (6, 0, 0, .int, .null))]),
  (437, [(396, (0, 5, 8, .array (.int), .null)), (399, (0, 5, 9, .array (.int), .null)), (402, (1, 386, 7, .int, .null)), (403, (6, 0, 0, .int, .null)), (405, (0, 5, 6, .array (.long), .null)), (409, (0, 5, 7, .array (.long), .null)), (412, (1, 123, 15, .int, .null)), (416, (1, 90, 0, .int, .null)), (419, (0, 12, 5, .array (.long), .null)), (422, (1, 128, 15, .int, .null)), (426, (1, 154, 15, .int, .null)), (429, (6, 0, 0, .int, .null)), (431, (1, 91, 15, .int, .null)), (434, (1, 82, 14, .int, .null))]),
  (479, [(437, (0, 12, 8, .array (.int), .null)), (440, (1, 340, 5, .int, .null)), (443, (0, 3, 7, .boolean, .ref 0)), (447, (1, 342, 5, .int, .null)), (450, (5, 3, 454, .int, .null)), (452, (6, 0, 0, .int, .null)), (455, (1, 341, 5, .int, .null)), (459, (1, 89, 15, .int, .null)), (462, (1, 346, 5, .int, .null)), (465, (0, 3, 11, .int, .ref 0)), (468, (6, 0, 0, .int, .null)), (470, (0, 3, 10, .array (.int), .null)), (473, (1, 359, 5, .int, .null)), (476, (0, 7, 9, .int, .ref 0))]),
  (519, [(479, (0, 7, 10, .int, .ref 0)), (482, (0, 7, 11, .int, .ref 0)), (485, (1, 159, 15, .int, .null)), (488, (6, 0, 0, .int, .null)), (490, (1, 110, 0, .int, .null)), (494, (0, 9, 7, .array (.int), .null)), (497, (0, 9, 5, .array (.int), .null)), (500, (0, 9, 10, .long, .ref 0)), (503, (4, 0, 0, .int, .long (-1))), (505, (0, 3, 6, .int, .ref 0)), (507, (0, 3, 5, .array (.int), .null)), (510, (1, 458, 11, .int, .null)), (513, (0, 9, 3, .array (.long), .null)), (516, (1, 363, 6, .int, .null))]),
  (561, [(519, (1, 417, 9, .int, .null)), (522, (6, 0, 0, .int, .null)), (524, (1, 415, 9, .int, .null)), (527, (1, 464, 11, .int, .null)), (530, (1, 24, 2, .int, .null)), (533, (1, 20, 2, .int, .null)), (537, (1, 77, 14, .int, .null)), (540, (1, 81, 14, .int, .null)), (544, (1, 370, 6, .int, .null)), (547, (1, 109, 15, .int, .null)), (550, (1, 116, 15, .int, .null)), (554, (1, 379, 7, .int, .null)), (557, (1, 382, 7, .int, .null)), (560, (1, 150, 15, .int, .null))]),
  (595, [(561, (4, 0, 0, .int, .int (1000000))), (562, (4, 0, 0, .int, .long (1099511627775))), (564, (6, 0, 0, .int, .null)), (566, (6, 0, 0, .int, .null)), (568, (6, 0, 0, .int, .null)), (570, (6, 0, 0, .int, .null)), (572, (6, 0, 0, .int, .null)), (574, (1, 408, 8, .int, .null)), (578, (6, 0, 0, .int, .null)), (580, (1, 412, 8, .int, .null)), (584, (6, 0, 0, .int, .null)), (586, (1, 372, 6, .int, .null)), (589, (1, 331, 4, .int, .null)), (592, (1, 376, 7, .int, .null))]),
  (1000000, [(595, (1, 385, 7, .int, .null)), (598, (1, 465, 11, .int, .null)), (601, (1, 462, 11, .int, .null)), (604, (1, 473, 12, .int, .null)), (200009, (9, 6, 0, .int, .null)), (200016, (9, 12, 0, .int, .null)), (200023, (9, 0, 0, .int, .null)), (200030, (9, 4, 0, .int, .null)), (200039, (9, 2, 0, .int, .null)), (200048, (9, 8, 0, .int, .null)), (200057, (9, 10, 0, .int, .null)), (200066, (9, 5, 0, .int, .null)), (200075, (9, 3, 0, .int, .null))])]
def xs_X12_i : XT XS := [(41, [(3, (7, 0, 0, .int, .null)), (9, (2, 6, 0, .int, .null)), (11, (1, 398, 1, .int, .null)), (12, (0, 13, 0, .object "Kitwarden$Reader", .ref 0)), (16, (2, 12, 0, .int, .null)), (18, (1, 78, 1, .int, .null)), (19, (0, 13, 1, .object "Kitwarden$State", .ref 0)), (23, (2, 0, 0, .int, .null)), (25, (1, 23, 1, .int, .null)), (26, (0, 13, 2, .object "java/util/ArrayList", .ref 0)), (30, (2, 4, 0, .int, .null)), (32, (1, 364, 1, .int, .null)), (35, (0, 13, 3, .object "Kitwarden$Meets", .ref 0)), (39, (2, 2, 0, .int, .null))]),
  (82, [(41, (1, 329, 1, .int, .null)), (44, (0, 13, 4, .object "Kitwarden$Clauses", .ref 0)), (48, (2, 8, 0, .int, .null)), (50, (1, 431, 1, .int, .null)), (53, (0, 13, 5, .object "Kitwarden$Search", .ref 0)), (57, (2, 10, 0, .int, .null)), (59, (1, 472, 1, .int, .null)), (62, (0, 13, 6, .object "Kitwarden$Solver", .ref 0)), (66, (2, 5, 0, .int, .null)), (68, (1, 377, 1, .int, .null)), (71, (0, 13, 7, .object "Kitwarden$Prover", .ref 0)), (75, (2, 3, 0, .int, .null)), (77, (1, 350, 1, .int, .null)), (78, (0, 13, 8, .object "Kitwarden$Installer", .ref 0))]),
  (134, [(82, (0, 13, 9, .int, .ref 0)), (86, (0, 13, 10, .int, .ref 0)), (89, (0, 13, 11, .int, .ref 0)), (92, (1, 18, 2, .int, .null)), (96, (1, 392, 0, .int, .null)), (100, (1, 397, 8, .int, .null)), (104, (5, 0, 108, .int, .null)), (106, (6, 0, 0, .int, .null)), (111, (1, 406, 8, .int, .null)), (115, (1, 404, 8, .int, .null)), (119, (1, 394, 8, .int, .null)), (122, (1, 395, 8, .int, .null)), (125, (0, 12, 0, .object "Kitwarden$Shelf", .null)), (129, (0, 9, 0, .int, .ref 0))]),
  (176, [(134, (6, 0, 0, .int, .null)), (136, (1, 145, 15, .int, .null)), (139, (1, 452, 11, .int, .null)), (142, (1, 92, 15, .int, .null)), (145, (1, 117, 0, .int, .null)), (148, (5, 1, 152, .int, .null)), (150, (6, 0, 0, .int, .null)), (153, (1, 459, 11, .int, .null)), (157, (1, 456, 11, .int, .null)), (160, (6, 0, 0, .int, .null)), (162, (1, 453, 11, .int, .null)), (166, (1, 93, 15, .int, .null)), (169, (0, 9, 11, .array (.int), .null)), (173, (1, 79, 14, .int, .null))]),
  (222, [(176, (6, 0, 0, .int, .null)), (178, (1, 94, 15, .int, .null)), (182, (1, 451, 11, .int, .null)), (186, (0, 9, 14, .array (.int), .null)), (189, (6, 0, 0, .int, .null)), (191, (1, 449, 11, .int, .null)), (195, (6, 0, 0, .int, .null)), (197, (0, 9, 16, .array (.int), .null)), (200, (6, 0, 0, .int, .null)), (202, (1, 450, 11, .int, .null)), (206, (0, 9, 19, .array (.object "Kitwarden$Atom"), .null)), (210, (6, 0, 0, .int, .null)), (212, (1, 467, 11, .int, .null)), (216, (1, 1, 0, .int, .null))]),
  (265, [(222, (0, 9, 1, .int, .ref 0)), (225, (0, 12, 6, .int, .ref 0)), (228, (1, 76, 14, .int, .null)), (232, (1, 421, 9, .int, .null)), (237, (1, 120, 15, .int, .null)), (240, (0, 2, 3, .int, .ref 0)), (243, (0, 7, 7, .int, .ref 0)), (246, (0, 12, 7, .int, .ref 0)), (249, (6, 0, 0, .int, .null)), (251, (0, 9, 2, .array (.int), .null)), (254, (5, 2, 258, .int, .null)), (256, (6, 0, 0, .int, .null)), (259, (0, 9, 6, .array (.int), .null)), (262, (1, 457, 11, .int, .null))]),
  (310, [(265, (1, 95, 15, .int, .null)), (269, (1, 460, 11, .int, .null)), (273, (6, 0, 0, .int, .null)), (275, (0, 12, 4, .int, .ref 0)), (278, (0, 7, 0, .int, .ref 0)), (281, (6, 0, 0, .int, .null)), (283, (1, 413, 9, .int, .null)), (287, (0, 7, 1, .array (.object "Kitwarden$Atom"), .null)), (290, (6, 0, 0, .int, .null)), (292, (0, 7, 2, .int, .ref 0)), (295, (1, 5, 0, .int, .null)), (299, (1, 400, 8, .int, .null)), (303, (0, 7, 3, .array (.object "Kitwarden$Span"), .null)), (307, (1, 419, 9, .int, .null))]),
  (353, [(310, (4, 0, 0, .int, .int (40000))), (311, (6, 0, 0, .int, .null)), (313, (0, 7, 4, .int, .ref 0)), (316, (1, 470, 12, .int, .null)), (320, (1, 475, 12, .int, .null)), (323, (0, 10, 3, .long, .ref 0)), (327, (0, 7, 5, .long, .ref 0)), (330, (1, 137, 0, .int, .null)), (333, (1, 454, 11, .int, .null)), (337, (1, 153, 0, .int, .null)), (340, (0, 7, 6, .long, .ref 0)), (343, (1, 88, 15, .int, .null)), (347, (1, 474, 12, .int, .null)), (350, (1, 121, 15, .int, .null))]),
  (396, [(353, (1, 374, 6, .int, .null)), (356, (1, 373, 6, .int, .null)), (359, (1, 366, 6, .int, .null)), (363, (1, 357, 5, .int, .null)), (367, (0, 3, 8, .array (.int), .null)), (370, (0, 3, 9, .array (.int), .null)), (373, (0, 5, 2, .int, .ref 0)), (376, (0, 5, 3, .array (.int), .null)), (379, (0, 2, 6, .array (.int), .null)), (382, (0, 2, 7, .array (.int), .null)), (385, (0, 2, 8, .array (.int), .null)), (388, (1, 330, 4, .int, .null)), (391, (0, 5, 5, .int, .ref 0)), (394, (6, 0, 0, .int, .null))]),
  (437, [(396, (0, 5, 8, .array (.int), .null)), (399, (0, 5, 9, .array (.int), .null)), (402, (1, 386, 7, .int, .null)), (403, (6, 0, 0, .int, .null)), (405, (0, 5, 6, .array (.long), .null)), (409, (0, 5, 7, .array (.long), .null)), (412, (1, 123, 15, .int, .null)), (416, (1, 90, 0, .int, .null)), (419, (0, 12, 5, .array (.long), .null)), (422, (1, 128, 15, .int, .null)), (426, (1, 154, 15, .int, .null)), (429, (6, 0, 0, .int, .null)), (431, (1, 91, 15, .int, .null)), (434, (1, 82, 14, .int, .null))]),
  (479, [(437, (0, 12, 8, .array (.int), .null)), (440, (1, 340, 5, .int, .null)), (443, (0, 3, 7, .boolean, .ref 0)), (447, (1, 342, 5, .int, .null)), (450, (5, 3, 454, .int, .null)), (452, (6, 0, 0, .int, .null)), (455, (1, 341, 5, .int, .null)), (459, (1, 89, 15, .int, .null)), (462, (1, 346, 5, .int, .null)), (465, (0, 3, 11, .int, .ref 0)), (468, (6, 0, 0, .int, .null)), (470, (0, 3, 10, .array (.int), .null)), (473, (1, 359, 5, .int, .null)), (476, (0, 7, 9, .int, .ref 0))]),
  (519, [(479, (0, 7, 10, .int, .ref 0)), (482, (0, 7, 11, .int, .ref 0)), (485, (1, 159, 15, .int, .null)), (488, (6, 0, 0, .int, .null)), (490, (1, 110, 0, .int, .null)), (494, (0, 9, 7, .array (.int), .null)), (497, (0, 9, 5, .array (.int), .null)), (500, (0, 9, 10, .long, .ref 0)), (503, (4, 0, 0, .int, .long (-1))), (505, (0, 3, 6, .int, .ref 0)), (507, (0, 3, 5, .array (.int), .null)), (510, (1, 458, 11, .int, .null)), (513, (0, 9, 3, .array (.long), .null)), (516, (1, 363, 6, .int, .null))]),
  (561, [(519, (1, 417, 9, .int, .null)), (522, (6, 0, 0, .int, .null)), (524, (1, 415, 9, .int, .null)), (527, (1, 464, 11, .int, .null)), (530, (1, 24, 2, .int, .null)), (533, (1, 20, 2, .int, .null)), (537, (1, 77, 14, .int, .null)), (540, (1, 81, 14, .int, .null)), (544, (1, 370, 6, .int, .null)), (547, (1, 109, 15, .int, .null)), (550, (1, 116, 15, .int, .null)), (554, (1, 379, 7, .int, .null)), (557, (1, 382, 7, .int, .null)), (560, (1, 150, 15, .int, .null))]),
  (595, [(561, (4, 0, 0, .int, .int (1000000))), (562, (4, 0, 0, .int, .long (1099511627775))), (564, (6, 0, 0, .int, .null)), (566, (6, 0, 0, .int, .null)), (568, (6, 0, 0, .int, .null)), (570, (6, 0, 0, .int, .null)), (572, (6, 0, 0, .int, .null)), (574, (1, 408, 8, .int, .null)), (578, (6, 0, 0, .int, .null)), (580, (1, 412, 8, .int, .null)), (584, (6, 0, 0, .int, .null)), (586, (1, 372, 6, .int, .null)), (589, (1, 331, 4, .int, .null)), (592, (1, 376, 7, .int, .null))]),
  (1000000, [(595, (1, 385, 7, .int, .null)), (598, (1, 465, 11, .int, .null)), (601, (1, 462, 11, .int, .null)), (604, (1, 473, 12, .int, .null)), (200009, (9, 6, 0, .int, .null)), (200016, (9, 12, 0, .int, .null)), (200023, (9, 0, 0, .int, .null)), (200030, (9, 4, 0, .int, .null)), (200039, (9, 2, 0, .int, .null)), (200048, (9, 8, 0, .int, .null)), (200057, (9, 10, 0, .int, .null)), (200066, (9, 5, 0, .int, .null)), (200075, (9, 3, 0, .int, .null))])]
def xs_X13 : XT XS := [(20, [(1, (7, 0, 0, .int, .null)), (7, (0, 14, 0, .boolean, .null)), (13, (0, 14, 1, .array (.int), .null)), (17, (0, 14, 2, .array (.int), .null))]),
  (1000000, [(20, (0, 14, 3, .array (.int), .null))])]
def xs_X13_i : XT XS := [(20, [(1, (7, 0, 0, .int, .null)), (7, (0, 14, 0, .boolean, .ref 0)), (13, (0, 14, 1, .array (.int), .ref 0)), (17, (0, 14, 2, .array (.int), .ref 0))]),
  (1000000, [(20, (0, 14, 3, .array (.int), .ref 0))])]
def xs_X14 : XT XS := [(50, [(1, (7, 0, 0, .int, .null)), (9, (0, 15, 0, .array (.int), .null)), (13, (0, 15, 1, .array (.int), .null)), (16, (2, 14, 0, .int, .null)), (18, (0, 15, 6, .array (.object "KitwardenModel$Need"), .ref 0)), (22, (0, 15, 8, .array (.int), .null)), (25, (0, 15, 10, .int, .ref 0)), (30, (0, 15, 11, .array (.array (.int)), .null)), (34, (0, 15, 12, .int, .ref 0)), (37, (0, 15, 18, .array (.int), .null)), (40, (0, 15, 19, .array (.int), .null)), (43, (0, 15, 20, .array (.int), .null)), (46, (0, 15, 24, .array (.long), .ref 0))]),
  (91, [(50, (0, 15, 25, .array (.long), .ref 0)), (53, (0, 15, 26, .array (.int), .ref 0)), (56, (0, 15, 27, .array (.int), .ref 0)), (59, (0, 15, 28, .array (.int), .ref 0)), (62, (0, 15, 30, .int, .ref 0)), (65, (0, 15, 31, .array (.boolean), .ref 0)), (69, (0, 15, 32, .boolean, .ref 0)), (73, (0, 15, 33, .int, .ref 0)), (76, (0, 15, 34, .array (.int), .ref 0)), (79, (0, 15, 38, .int, .ref 0)), (82, (0, 15, 40, .int, .ref 0)), (85, (0, 15, 44, .int, .ref 0)), (88, (0, 15, 45, .array (.int), .ref 0))]),
  (130, [(91, (0, 15, 46, .int, .ref 0)), (94, (0, 15, 48, .array (.long), .null)), (97, (0, 15, 49, .array (.long), .null)), (100, (0, 15, 50, .array (.int), .null)), (103, (0, 15, 51, .array (.int), .null)), (106, (0, 15, 52, .array (.long), .ref 0)), (109, (0, 15, 53, .array (.long), .ref 0)), (112, (0, 15, 54, .array (.int), .ref 0)), (115, (0, 15, 55, .array (.int), .ref 0)), (118, (0, 15, 57, .array (.int), .null)), (121, (0, 15, 58, .array (.int), .null)), (124, (0, 15, 59, .array (.int), .null)), (127, (0, 15, 60, .array (.int), .null))]),
  (173, [(130, (0, 15, 62, .array (.int), .null)), (133, (4, 0, 0, .int, .int (40000))), (134, (0, 15, 5, .int, .ref 0)), (137, (0, 15, 3, .int, .ref 0)), (140, (10, 0, 0, .int, .null)), (146, (0, 15, 2, .int, .ref 0)), (149, (1, 16, 0, .int, .null)), (155, (0, 15, 4, .int, .ref 0)), (158, (1, 325, 0, .int, .null)), (162, (4, 0, 0, .int, .int (999999))), (163, (1, 316, 17, .int, .null)), (166, (1, 304, 17, .int, .null)), (170, (0, 15, 7, .int, .ref 0))]),
  (216, [(173, (1, 178, 0, .int, .null)), (177, (0, 15, 9, .int, .ref 0)), (180, (1, 290, 17, .int, .null)), (184, (0, 15, 13, .int, .ref 0)), (187, (0, 15, 14, .int, .ref 0)), (190, (0, 15, 15, .int, .ref 0)), (193, (1, 225, 17, .int, .null)), (197, (0, 15, 16, .int, .ref 0)), (200, (1, 236, 17, .int, .null)), (203, (0, 15, 17, .int, .ref 0)), (206, (1, 327, 17, .int, .null)), (210, (1, 260, 17, .int, .null)), (213, (1, 237, 17, .int, .null))]),
  (256, [(216, (0, 15, 23, .int, .ref 0)), (219, (0, 15, 22, .int, .ref 0)), (222, (1, 171, 17, .int, .null)), (225, (1, 288, 17, .int, .null)), (228, (1, 287, 17, .int, .null)), (231, (0, 15, 21, .int, .ref 0)), (234, (1, 283, 17, .int, .null)), (237, (1, 240, 17, .int, .null)), (240, (1, 285, 17, .int, .null)), (243, (1, 166, 1, .int, .null)), (246, (1, 305, 17, .int, .null)), (249, (1, 309, 17, .int, .null)), (253, (1, 226, 17, .int, .null))]),
  (297, [(256, (1, 281, 17, .int, .null)), (259, (1, 230, 0, .int, .null)), (263, (1, 241, 0, .int, .null)), (266, (0, 14, 2, .array (.int), .null)), (269, (1, 254, 0, .int, .null)), (273, (0, 14, 3, .array (.int), .null)), (276, (0, 14, 1, .array (.int), .null)), (279, (1, 253, 0, .int, .null)), (283, (0, 14, 0, .boolean, .null)), (286, (1, 296, 17, .int, .null)), (289, (4, 0, 0, .int, .int (1000000))), (290, (1, 302, 17, .int, .null)), (293, (1, 235, 0, .int, .null))]),
  (344, [(297, (1, 301, 17, .int, .null)), (301, (1, 252, 17, .int, .null)), (305, (1, 232, 17, .int, .null)), (309, (1, 214, 17, .int, .null)), (312, (1, 292, 17, .int, .null)), (316, (1, 227, 17, .int, .null)), (319, (1, 185, 0, .int, .null)), (322, (1, 323, 17, .int, .null)), (326, (1, 239, 17, .int, .null)), (330, (0, 15, 29, .int, .ref 0)), (333, (1, 177, 0, .int, .null)), (337, (1, 167, 17, .int, .null)), (341, (1, 264, 0, .int, .null))]),
  (392, [(344, (1, 221, 17, .int, .null)), (348, (1, 168, 17, .int, .null)), (352, (1, 321, 17, .int, .null)), (355, (1, 311, 17, .int, .null)), (359, (4, 0, 0, .int, .long (-1))), (361, (1, 1, 0, .int, .null)), (367, (1, 307, 17, .int, .null)), (371, (0, 15, 35, .long, .ref 0)), (375, (0, 15, 36, .long, .ref 0)), (378, (1, 2, 0, .int, .null)), (382, (1, 295, 17, .int, .null)), (386, (1, 310, 17, .int, .null)), (389, (1, 179, 17, .int, .null))]),
  (435, [(392, (0, 15, 39, .array (.int), .ref 0)), (395, (0, 15, 37, .int, .ref 0)), (398, (1, 265, 17, .int, .null)), (401, (1, 206, 17, .int, .null)), (404, (1, 205, 17, .int, .null)), (407, (1, 209, 17, .int, .null)), (411, (1, 289, 17, .int, .null)), (414, (1, 277, 17, .int, .null)), (418, (1, 250, 0, .int, .null)), (422, (1, 215, 17, .int, .null)), (425, (1, 297, 17, .int, .null)), (429, (0, 15, 42, .boolean, .ref 0)), (432, (0, 15, 43, .boolean, .ref 0))]),
  (480, [(435, (1, 245, 17, .int, .null)), (439, (1, 207, 17, .int, .null)), (442, (1, 222, 17, .int, .null)), (446, (1, 191, 0, .int, .null)), (450, (1, 210, 17, .int, .null)), (453, (0, 15, 41, .int, .ref 0)), (456, (1, 200, 17, .int, .null)), (459, (0, 15, 47, .int, .ref 0)), (462, (1, 213, 0, .int, .null)), (466, (0, 15, 56, .int, .ref 0)), (469, (1, 169, 17, .int, .null)), (473, (1, 170, 17, .int, .null)), (477, (1, 176, 17, .int, .null))]),
  (523, [(480, (1, 246, 17, .int, .null)), (483, (1, 201, 17, .int, .null)), (486, (1, 224, 0, .int, .null)), (489, (1, 276, 17, .int, .null)), (493, (1, 242, 17, .int, .null)), (496, (1, 228, 17, .int, .null)), (499, (1, 284, 17, .int, .null)), (503, (1, 244, 17, .int, .null)), (507, (1, 282, 17, .int, .null)), (510, (1, 324, 17, .int, .null)), (513, (1, 286, 17, .int, .null)), (516, (1, 278, 17, .int, .null)), (519, (1, 5, 0, .int, .null))]),
  (564, [(523, (1, 211, 17, .int, .null)), (526, (1, 243, 17, .int, .null)), (530, (1, 280, 17, .int, .null)), (533, (1, 231, 0, .int, .null)), (536, (1, 15, 0, .int, .null)), (539, (1, 233, 17, .int, .null)), (542, (1, 262, 0, .int, .null)), (545, (0, 15, 61, .int, .ref 0)), (548, (1, 202, 17, .int, .null)), (551, (1, 223, 17, .int, .null)), (554, (1, 203, 17, .int, .null)), (557, (1, 13, 0, .int, .null)), (560, (1, 186, 17, .int, .null))]),
  (200016, [(564, (1, 257, 17, .int, .null)), (568, (0, 15, 63, .int, .ref 0)), (571, (1, 204, 17, .int, .null)), (575, (1, 212, 17, .int, .null)), (579, (1, 180, 17, .int, .null)), (583, (1, 300, 17, .int, .null)), (586, (1, 6, 0, .int, .null)), (589, (1, 229, 17, .int, .null)), (592, (1, 192, 17, .int, .null)), (595, (1, 189, 17, .int, .null)), (598, (1, 274, 17, .int, .null)), (100016, (3, 6, 0, .int, .null)), (100029, (3, 7, 0, .int, .null))]),
  (1000000, [(200016, (9, 14, 0, .int, .null))])]
def xs_X14_i : XT XS := [(50, [(1, (7, 0, 0, .int, .null)), (9, (0, 15, 0, .array (.int), .ref 0)), (13, (0, 15, 1, .array (.int), .ref 0)), (16, (2, 14, 0, .int, .null)), (18, (0, 15, 6, .array (.object "KitwardenModel$Need"), .ref 0)), (22, (0, 15, 8, .array (.int), .ref 0)), (25, (0, 15, 10, .int, .ref 0)), (30, (0, 15, 11, .array (.array (.int)), .ref 0)), (34, (0, 15, 12, .int, .ref 0)), (37, (0, 15, 18, .array (.int), .ref 0)), (40, (0, 15, 19, .array (.int), .ref 0)), (43, (0, 15, 20, .array (.int), .ref 0)), (46, (0, 15, 24, .array (.long), .ref 0))]),
  (91, [(50, (0, 15, 25, .array (.long), .ref 0)), (53, (0, 15, 26, .array (.int), .ref 0)), (56, (0, 15, 27, .array (.int), .ref 0)), (59, (0, 15, 28, .array (.int), .ref 0)), (62, (0, 15, 30, .int, .ref 0)), (65, (0, 15, 31, .array (.boolean), .ref 0)), (69, (0, 15, 32, .boolean, .ref 0)), (73, (0, 15, 33, .int, .ref 0)), (76, (0, 15, 34, .array (.int), .ref 0)), (79, (0, 15, 38, .int, .ref 0)), (82, (0, 15, 40, .int, .ref 0)), (85, (0, 15, 44, .int, .ref 0)), (88, (0, 15, 45, .array (.int), .ref 0))]),
  (130, [(91, (0, 15, 46, .int, .ref 0)), (94, (0, 15, 48, .array (.long), .ref 0)), (97, (0, 15, 49, .array (.long), .ref 0)), (100, (0, 15, 50, .array (.int), .ref 0)), (103, (0, 15, 51, .array (.int), .ref 0)), (106, (0, 15, 52, .array (.long), .ref 0)), (109, (0, 15, 53, .array (.long), .ref 0)), (112, (0, 15, 54, .array (.int), .ref 0)), (115, (0, 15, 55, .array (.int), .ref 0)), (118, (0, 15, 57, .array (.int), .ref 0)), (121, (0, 15, 58, .array (.int), .ref 0)), (124, (0, 15, 59, .array (.int), .ref 0)), (127, (0, 15, 60, .array (.int), .ref 0))]),
  (173, [(130, (0, 15, 62, .array (.int), .ref 0)), (133, (4, 0, 0, .int, .int (40000))), (134, (0, 15, 5, .int, .ref 0)), (137, (0, 15, 3, .int, .ref 0)), (140, (10, 0, 0, .int, .null)), (146, (0, 15, 2, .int, .ref 0)), (149, (1, 16, 0, .int, .null)), (155, (0, 15, 4, .int, .ref 0)), (158, (1, 325, 0, .int, .null)), (162, (4, 0, 0, .int, .int (999999))), (163, (1, 316, 17, .int, .null)), (166, (1, 304, 17, .int, .null)), (170, (0, 15, 7, .int, .ref 0))]),
  (216, [(173, (1, 178, 0, .int, .null)), (177, (0, 15, 9, .int, .ref 0)), (180, (1, 290, 17, .int, .null)), (184, (0, 15, 13, .int, .ref 0)), (187, (0, 15, 14, .int, .ref 0)), (190, (0, 15, 15, .int, .ref 0)), (193, (1, 225, 17, .int, .null)), (197, (0, 15, 16, .int, .ref 0)), (200, (1, 236, 17, .int, .null)), (203, (0, 15, 17, .int, .ref 0)), (206, (1, 327, 17, .int, .null)), (210, (1, 260, 17, .int, .null)), (213, (1, 237, 17, .int, .null))]),
  (256, [(216, (0, 15, 23, .int, .ref 0)), (219, (0, 15, 22, .int, .ref 0)), (222, (1, 171, 17, .int, .null)), (225, (1, 288, 17, .int, .null)), (228, (1, 287, 17, .int, .null)), (231, (0, 15, 21, .int, .ref 0)), (234, (1, 283, 17, .int, .null)), (237, (1, 240, 17, .int, .null)), (240, (1, 285, 17, .int, .null)), (243, (1, 166, 1, .int, .null)), (246, (1, 305, 17, .int, .null)), (249, (1, 309, 17, .int, .null)), (253, (1, 226, 17, .int, .null))]),
  (297, [(256, (1, 281, 17, .int, .null)), (259, (1, 230, 0, .int, .null)), (263, (1, 241, 0, .int, .null)), (266, (0, 14, 2, .array (.int), .null)), (269, (1, 254, 0, .int, .null)), (273, (0, 14, 3, .array (.int), .null)), (276, (0, 14, 1, .array (.int), .null)), (279, (1, 253, 0, .int, .null)), (283, (0, 14, 0, .boolean, .null)), (286, (1, 296, 17, .int, .null)), (289, (4, 0, 0, .int, .int (1000000))), (290, (1, 302, 17, .int, .null)), (293, (1, 235, 0, .int, .null))]),
  (344, [(297, (1, 301, 17, .int, .null)), (301, (1, 252, 17, .int, .null)), (305, (1, 232, 17, .int, .null)), (309, (1, 214, 17, .int, .null)), (312, (1, 292, 17, .int, .null)), (316, (1, 227, 17, .int, .null)), (319, (1, 185, 0, .int, .null)), (322, (1, 323, 17, .int, .null)), (326, (1, 239, 17, .int, .null)), (330, (0, 15, 29, .int, .ref 0)), (333, (1, 177, 0, .int, .null)), (337, (1, 167, 17, .int, .null)), (341, (1, 264, 0, .int, .null))]),
  (392, [(344, (1, 221, 17, .int, .null)), (348, (1, 168, 17, .int, .null)), (352, (1, 321, 17, .int, .null)), (355, (1, 311, 17, .int, .null)), (359, (4, 0, 0, .int, .long (-1))), (361, (1, 1, 0, .int, .null)), (367, (1, 307, 17, .int, .null)), (371, (0, 15, 35, .long, .ref 0)), (375, (0, 15, 36, .long, .ref 0)), (378, (1, 2, 0, .int, .null)), (382, (1, 295, 17, .int, .null)), (386, (1, 310, 17, .int, .null)), (389, (1, 179, 17, .int, .null))]),
  (435, [(392, (0, 15, 39, .array (.int), .ref 0)), (395, (0, 15, 37, .int, .ref 0)), (398, (1, 265, 17, .int, .null)), (401, (1, 206, 17, .int, .null)), (404, (1, 205, 17, .int, .null)), (407, (1, 209, 17, .int, .null)), (411, (1, 289, 17, .int, .null)), (414, (1, 277, 17, .int, .null)), (418, (1, 250, 0, .int, .null)), (422, (1, 215, 17, .int, .null)), (425, (1, 297, 17, .int, .null)), (429, (0, 15, 42, .boolean, .ref 0)), (432, (0, 15, 43, .boolean, .ref 0))]),
  (480, [(435, (1, 245, 17, .int, .null)), (439, (1, 207, 17, .int, .null)), (442, (1, 222, 17, .int, .null)), (446, (1, 191, 0, .int, .null)), (450, (1, 210, 17, .int, .null)), (453, (0, 15, 41, .int, .ref 0)), (456, (1, 200, 17, .int, .null)), (459, (0, 15, 47, .int, .ref 0)), (462, (1, 213, 0, .int, .null)), (466, (0, 15, 56, .int, .ref 0)), (469, (1, 169, 17, .int, .null)), (473, (1, 170, 17, .int, .null)), (477, (1, 176, 17, .int, .null))]),
  (523, [(480, (1, 246, 17, .int, .null)), (483, (1, 201, 17, .int, .null)), (486, (1, 224, 0, .int, .null)), (489, (1, 276, 17, .int, .null)), (493, (1, 242, 17, .int, .null)), (496, (1, 228, 17, .int, .null)), (499, (1, 284, 17, .int, .null)), (503, (1, 244, 17, .int, .null)), (507, (1, 282, 17, .int, .null)), (510, (1, 324, 17, .int, .null)), (513, (1, 286, 17, .int, .null)), (516, (1, 278, 17, .int, .null)), (519, (1, 5, 0, .int, .null))]),
  (564, [(523, (1, 211, 17, .int, .null)), (526, (1, 243, 17, .int, .null)), (530, (1, 280, 17, .int, .null)), (533, (1, 231, 0, .int, .null)), (536, (1, 15, 0, .int, .null)), (539, (1, 233, 17, .int, .null)), (542, (1, 262, 0, .int, .null)), (545, (0, 15, 61, .int, .ref 0)), (548, (1, 202, 17, .int, .null)), (551, (1, 223, 17, .int, .null)), (554, (1, 203, 17, .int, .null)), (557, (1, 13, 0, .int, .null)), (560, (1, 186, 17, .int, .null))]),
  (200016, [(564, (1, 257, 17, .int, .null)), (568, (0, 15, 63, .int, .ref 0)), (571, (1, 204, 17, .int, .null)), (575, (1, 212, 17, .int, .null)), (579, (1, 180, 17, .int, .null)), (583, (1, 300, 17, .int, .null)), (586, (1, 6, 0, .int, .null)), (589, (1, 229, 17, .int, .null)), (592, (1, 192, 17, .int, .null)), (595, (1, 189, 17, .int, .null)), (598, (1, 274, 17, .int, .null)), (100016, (3, 6, 0, .int, .null)), (100029, (3, 7, 0, .int, .null))]),
  (1000000, [(200016, (9, 14, 0, .int, .null))])]
def xs_X2 : XT XS := [(35, [(3, (7, 0, 0, .int, .null)), (9, (0, 3, 3, .array (.int), .null)), (15, (0, 3, 4, .array (.int), .null)), (18, (0, 3, 5, .array (.int), .null)), (21, (0, 3, 6, .int, .ref 0)), (25, (0, 3, 7, .boolean, .ref 0)), (29, (0, 3, 8, .array (.int), .null)), (32, (0, 3, 9, .array (.int), .null))]),
  (65, [(35, (0, 3, 10, .array (.int), .null)), (38, (0, 3, 11, .int, .ref 0)), (41, (0, 3, 0, .object "Kitwarden$State", .null)), (45, (0, 12, 0, .object "Kitwarden$Shelf", .null)), (51, (0, 3, 1, .object "Kitwarden$Shelf", .null)), (52, (0, 3, 2, .object "Kitwarden$Meets", .null)), (56, (0, 9, 0, .int, .ref 0)), (61, (1, 339, 5, .int, .null))]),
  (97, [(65, (1, 458, 11, .int, .null)), (69, (1, 347, 5, .int, .null)), (73, (1, 352, 5, .int, .null)), (77, (0, 9, 11, .array (.int), .null)), (80, (0, 9, 13, .array (.boolean), .null)), (84, (0, 4, 2, .array (.long), .null)), (90, (1, 356, 5, .int, .null)), (94, (0, 9, 1, .int, .ref 0))]),
  (129, [(97, (1, 110, 0, .int, .null)), (101, (0, 9, 5, .array (.int), .null)), (104, (1, 360, 5, .int, .null)), (108, (1, 353, 5, .int, .null)), (112, (1, 9, 0, .int, .null)), (118, (1, 348, 5, .int, .null)), (121, (1, 358, 5, .int, .null)), (125, (1, 76, 14, .int, .null))]),
  (158, [(129, (0, 7, 0, .int, .ref 0)), (134, (0, 7, 1, .array (.object "Kitwarden$Atom"), .null)), (138, (0, 4, 6, .array (.long), .null)), (140, (1, 369, 6, .int, .null)), (144, (0, 4, 4, .array (.long), .null)), (147, (0, 7, 6, .long, .ref 0)), (151, (0, 7, 5, .long, .ref 0)), (154, (1, 465, 11, .int, .null))]),
  (185, [(158, (1, 355, 5, .int, .null)), (162, (1, 354, 5, .int, .null)), (166, (1, 370, 6, .int, .null)), (170, (1, 361, 5, .int, .null)), (174, (4, 0, 0, .int, .long (-1))), (176, (0, 9, 3, .array (.long), .null)), (179, (1, 137, 0, .int, .null)), (182, (0, 12, 7, .int, .ref 0))]),
  (213, [(185, (1, 343, 5, .int, .null)), (188, (1, 80, 14, .int, .null)), (192, (1, 420, 9, .int, .null)), (196, (1, 340, 5, .int, .null)), (200, (1, 351, 5, .int, .null)), (204, (1, 346, 5, .int, .null)), (207, (4, 0, 0, .int, .long (4611686018427387904))), (209, (1, 338, 5, .int, .null))]),
  (237, [(213, (1, 418, 9, .int, .null)), (216, (0, 12, 6, .int, .ref 0)), (219, (4, 0, 0, .int, .long (1099511627775))), (221, (1, 345, 5, .int, .null)), (224, (0, 9, 7, .array (.int), .null)), (227, (1, 344, 5, .int, .null)), (231, (1, 464, 11, .int, .null)), (234, (0, 7, 4, .int, .ref 0))]),
  (1000000, [(237, (1, 349, 5, .int, .null)), (240, (0, 9, 10, .long, .ref 0))])]
def xs_X2_i : XT XS := [(35, [(3, (7, 0, 0, .int, .null)), (9, (0, 3, 3, .array (.int), .ref 0)), (15, (0, 3, 4, .array (.int), .ref 0)), (18, (0, 3, 5, .array (.int), .ref 0)), (21, (0, 3, 6, .int, .ref 0)), (25, (0, 3, 7, .boolean, .ref 0)), (29, (0, 3, 8, .array (.int), .ref 0)), (32, (0, 3, 9, .array (.int), .ref 0))]),
  (65, [(35, (0, 3, 10, .array (.int), .ref 0)), (38, (0, 3, 11, .int, .ref 0)), (41, (0, 3, 0, .object "Kitwarden$State", .ref 0)), (45, (0, 12, 0, .object "Kitwarden$Shelf", .null)), (51, (0, 3, 1, .object "Kitwarden$Shelf", .ref 0)), (52, (0, 3, 2, .object "Kitwarden$Meets", .ref 0)), (56, (0, 9, 0, .int, .ref 0)), (61, (1, 339, 5, .int, .null))]),
  (97, [(65, (1, 458, 11, .int, .null)), (69, (1, 347, 5, .int, .null)), (73, (1, 352, 5, .int, .null)), (77, (0, 9, 11, .array (.int), .null)), (80, (0, 9, 13, .array (.boolean), .null)), (84, (0, 4, 2, .array (.long), .null)), (90, (1, 356, 5, .int, .null)), (94, (0, 9, 1, .int, .ref 0))]),
  (129, [(97, (1, 110, 0, .int, .null)), (101, (0, 9, 5, .array (.int), .null)), (104, (1, 360, 5, .int, .null)), (108, (1, 353, 5, .int, .null)), (112, (1, 9, 0, .int, .null)), (118, (1, 348, 5, .int, .null)), (121, (1, 358, 5, .int, .null)), (125, (1, 76, 14, .int, .null))]),
  (158, [(129, (0, 7, 0, .int, .ref 0)), (134, (0, 7, 1, .array (.object "Kitwarden$Atom"), .null)), (138, (0, 4, 6, .array (.long), .null)), (140, (1, 369, 6, .int, .null)), (144, (0, 4, 4, .array (.long), .null)), (147, (0, 7, 6, .long, .ref 0)), (151, (0, 7, 5, .long, .ref 0)), (154, (1, 465, 11, .int, .null))]),
  (185, [(158, (1, 355, 5, .int, .null)), (162, (1, 354, 5, .int, .null)), (166, (1, 370, 6, .int, .null)), (170, (1, 361, 5, .int, .null)), (174, (4, 0, 0, .int, .long (-1))), (176, (0, 9, 3, .array (.long), .null)), (179, (1, 137, 0, .int, .null)), (182, (0, 12, 7, .int, .ref 0))]),
  (213, [(185, (1, 343, 5, .int, .null)), (188, (1, 80, 14, .int, .null)), (192, (1, 420, 9, .int, .null)), (196, (1, 340, 5, .int, .null)), (200, (1, 351, 5, .int, .null)), (204, (1, 346, 5, .int, .null)), (207, (4, 0, 0, .int, .long (4611686018427387904))), (209, (1, 338, 5, .int, .null))]),
  (237, [(213, (1, 418, 9, .int, .null)), (216, (0, 12, 6, .int, .ref 0)), (219, (4, 0, 0, .int, .long (1099511627775))), (221, (1, 345, 5, .int, .null)), (224, (0, 9, 7, .array (.int), .null)), (227, (1, 344, 5, .int, .null)), (231, (1, 464, 11, .int, .null)), (234, (0, 7, 4, .int, .ref 0))]),
  (1000000, [(237, (1, 349, 5, .int, .null)), (240, (0, 9, 10, .long, .ref 0))])]
def xs_X3 : XT XS := [(30, [(3, (7, 0, 0, .int, .null)), (9, (0, 4, 2, .array (.long), .null)), (15, (0, 4, 3, .array (.long), .null)), (18, (0, 4, 4, .array (.long), .null)), (21, (0, 4, 5, .array (.long), .null)), (24, (0, 4, 6, .array (.long), .null)), (27, (0, 4, 7, .array (.long), .null))]),
  (58, [(30, (0, 4, 0, .object "Kitwarden$State", .null)), (34, (0, 12, 0, .object "Kitwarden$Shelf", .null)), (40, (0, 4, 1, .object "Kitwarden$Shelf", .null)), (41, (0, 9, 1, .int, .ref 0)), (47, (0, 9, 11, .array (.int), .null)), (51, (0, 9, 12, .array (.object "Kitwarden$Atom"), .null)), (54, (1, 371, 6, .int, .null))]),
  (79, [(58, (0, 9, 14, .array (.int), .null)), (61, (0, 9, 15, .array (.object "Kitwarden$Atom"), .null)), (63, (0, 9, 19, .array (.object "Kitwarden$Atom"), .null)), (65, (1, 76, 14, .int, .null)), (69, (0, 7, 0, .int, .ref 0)), (74, (0, 7, 1, .array (.object "Kitwarden$Atom"), .null)), (76, (0, 9, 0, .int, .ref 0))]),
  (106, [(79, (1, 467, 11, .int, .null)), (83, (0, 7, 3, .array (.object "Kitwarden$Span"), .null)), (87, (1, 466, 11, .int, .null)), (90, (1, 460, 11, .int, .null)), (94, (4, 0, 0, .int, .long (-1))), (96, (1, 367, 6, .int, .null)), (100, (0, 1, 3, .object "Kitwarden$Atom", .ref 0))]),
  (132, [(106, (0, 9, 5, .array (.int), .null)), (109, (0, 1, 0, .int, .null)), (112, (0, 1, 2, .object "Kitwarden$Span", .null)), (116, (0, 9, 6, .array (.int), .null)), (119, (1, 74, 0, .int, .null)), (125, (0, 9, 16, .array (.int), .null)), (128, (0, 1, 1, .boolean, .null))]),
  (156, [(132, (0, 9, 17, .array (.int), .null)), (135, (0, 9, 18, .array (.int), .null)), (138, (1, 153, 0, .int, .null)), (141, (1, 110, 0, .int, .null)), (145, (1, 362, 6, .int, .null)), (149, (1, 365, 6, .int, .null)), (152, (1, 368, 0, .int, .null))]),
  (1000000, [(156, (1, 369, 6, .int, .null)), (159, (0, 7, 2, .int, .ref 0)), (162, (0, 7, 6, .long, .ref 0)), (166, (0, 9, 3, .array (.long), .null)), (169, (1, 370, 6, .int, .null)), (173, (0, 9, 2, .array (.int), .null)), (176, (1, 457, 11, .int, .null))])]
def xs_X3_i : XT XS := [(30, [(3, (7, 0, 0, .int, .null)), (9, (0, 4, 2, .array (.long), .ref 0)), (15, (0, 4, 3, .array (.long), .ref 0)), (18, (0, 4, 4, .array (.long), .ref 0)), (21, (0, 4, 5, .array (.long), .ref 0)), (24, (0, 4, 6, .array (.long), .ref 0)), (27, (0, 4, 7, .array (.long), .ref 0))]),
  (58, [(30, (0, 4, 0, .object "Kitwarden$State", .ref 0)), (34, (0, 12, 0, .object "Kitwarden$Shelf", .null)), (40, (0, 4, 1, .object "Kitwarden$Shelf", .ref 0)), (41, (0, 9, 1, .int, .ref 0)), (47, (0, 9, 11, .array (.int), .null)), (51, (0, 9, 12, .array (.object "Kitwarden$Atom"), .null)), (54, (1, 371, 6, .int, .null))]),
  (79, [(58, (0, 9, 14, .array (.int), .null)), (61, (0, 9, 15, .array (.object "Kitwarden$Atom"), .null)), (63, (0, 9, 19, .array (.object "Kitwarden$Atom"), .null)), (65, (1, 76, 14, .int, .null)), (69, (0, 7, 0, .int, .ref 0)), (74, (0, 7, 1, .array (.object "Kitwarden$Atom"), .null)), (76, (0, 9, 0, .int, .ref 0))]),
  (106, [(79, (1, 467, 11, .int, .null)), (83, (0, 7, 3, .array (.object "Kitwarden$Span"), .null)), (87, (1, 466, 11, .int, .null)), (90, (1, 460, 11, .int, .null)), (94, (4, 0, 0, .int, .long (-1))), (96, (1, 367, 6, .int, .null)), (100, (0, 1, 3, .object "Kitwarden$Atom", .ref 0))]),
  (132, [(106, (0, 9, 5, .array (.int), .null)), (109, (0, 1, 0, .int, .null)), (112, (0, 1, 2, .object "Kitwarden$Span", .null)), (116, (0, 9, 6, .array (.int), .null)), (119, (1, 74, 0, .int, .null)), (125, (0, 9, 16, .array (.int), .null)), (128, (0, 1, 1, .boolean, .null))]),
  (156, [(132, (0, 9, 17, .array (.int), .null)), (135, (0, 9, 18, .array (.int), .null)), (138, (1, 153, 0, .int, .null)), (141, (1, 110, 0, .int, .null)), (145, (1, 362, 6, .int, .null)), (149, (1, 365, 6, .int, .null)), (152, (1, 368, 0, .int, .null))]),
  (1000000, [(156, (1, 369, 6, .int, .null)), (159, (0, 7, 2, .int, .ref 0)), (162, (0, 7, 6, .long, .ref 0)), (166, (0, 9, 3, .array (.long), .null)), (169, (1, 370, 6, .int, .null)), (173, (0, 9, 2, .array (.int), .null)), (176, (1, 457, 11, .int, .null))])]
def xs_X4 : XT XS := [(28, [(3, (7, 0, 0, .int, .null)), (9, (0, 5, 2, .int, .ref 0)), (17, (0, 5, 3, .array (.int), .null)), (21, (0, 5, 4, .array (.boolean), .null)), (25, (0, 5, 5, .int, .ref 0))]),
  (44, [(28, (0, 5, 6, .array (.long), .null)), (32, (0, 5, 7, .array (.long), .null)), (35, (0, 5, 8, .array (.int), .null)), (38, (0, 5, 9, .array (.int), .null)), (41, (0, 5, 10, .array (.int), .null))]),
  (64, [(44, (0, 5, 11, .array (.long), .null)), (47, (0, 5, 0, .object "Kitwarden$Clauses", .null)), (51, (0, 5, 1, .object "Kitwarden$Search", .null)), (55, (1, 1, 0, .int, .null)), (61, (1, 388, 7, .int, .null))]),
  (83, [(64, (1, 383, 7, .int, .null)), (68, (0, 2, 3, .int, .ref 0)), (71, (0, 8, 1, .array (.boolean), .null)), (76, (0, 8, 2, .array (.boolean), .null)), (79, (1, 438, 10, .int, .null))]),
  (99, [(83, (1, 423, 10, .int, .null)), (87, (0, 2, 4, .array (.long), .null)), (88, (0, 2, 5, .array (.long), .null)), (89, (1, 10, 0, .int, .null)), (95, (1, 386, 7, .int, .null))]),
  (116, [(99, (1, 378, 7, .int, .null)), (102, (1, 375, 7, .int, .null)), (105, (1, 384, 7, .int, .null)), (109, (1, 381, 7, .int, .null)), (112, (0, 5, 12, .long, .ref 0))]),
  (1000000, [(116, (0, 5, 13, .long, .ref 0)), (119, (1, 380, 7, .int, .null)), (122, (1, 387, 7, .int, .null)), (126, (4, 0, 0, .int, .long (-1))), (128, (1, 9, 0, .int, .null))])]
def xs_X4_i : XT XS := [(28, [(3, (7, 0, 0, .int, .null)), (9, (0, 5, 2, .int, .ref 0)), (17, (0, 5, 3, .array (.int), .ref 0)), (21, (0, 5, 4, .array (.boolean), .ref 0)), (25, (0, 5, 5, .int, .ref 0))]),
  (44, [(28, (0, 5, 6, .array (.long), .ref 0)), (32, (0, 5, 7, .array (.long), .ref 0)), (35, (0, 5, 8, .array (.int), .ref 0)), (38, (0, 5, 9, .array (.int), .ref 0)), (41, (0, 5, 10, .array (.int), .ref 0))]),
  (64, [(44, (0, 5, 11, .array (.long), .ref 0)), (47, (0, 5, 0, .object "Kitwarden$Clauses", .ref 0)), (51, (0, 5, 1, .object "Kitwarden$Search", .ref 0)), (55, (1, 1, 0, .int, .null)), (61, (1, 388, 7, .int, .null))]),
  (83, [(64, (1, 383, 7, .int, .null)), (68, (0, 2, 3, .int, .ref 0)), (71, (0, 8, 1, .array (.boolean), .null)), (76, (0, 8, 2, .array (.boolean), .null)), (79, (1, 438, 10, .int, .null))]),
  (99, [(83, (1, 423, 10, .int, .null)), (87, (0, 2, 4, .array (.long), .null)), (88, (0, 2, 5, .array (.long), .null)), (89, (1, 10, 0, .int, .null)), (95, (1, 386, 7, .int, .null))]),
  (116, [(99, (1, 378, 7, .int, .null)), (102, (1, 375, 7, .int, .null)), (105, (1, 384, 7, .int, .null)), (109, (1, 381, 7, .int, .null)), (112, (0, 5, 12, .long, .ref 0))]),
  (1000000, [(116, (0, 5, 13, .long, .ref 0)), (119, (1, 380, 7, .int, .null)), (122, (1, 387, 7, .int, .null)), (126, (4, 0, 0, .int, .long (-1))), (128, (1, 9, 0, .int, .null))])]
def xs_X5 : XT XS := [(25, [(3, (7, 0, 0, .int, .null)), (11, (0, 6, 0, .array (.int), .null)), (15, (0, 6, 1, .int, .ref 0)), (19, (0, 6, 2, .int, .ref 0)), (22, (0, 6, 3, .array (.int), .null))]),
  (41, [(25, (0, 6, 4, .array (.int), .null)), (28, (0, 6, 5, .array (.int), .null)), (31, (0, 6, 6, .int, .ref 0)), (34, (0, 6, 7, .int, .ref 0)), (37, (1, 396, 8, .int, .null))]),
  (59, [(41, (1, 407, 8, .int, .null)), (45, (0, 1, 1, .boolean, .null)), (46, (2, 1, 0, .int, .null)), (51, (1, 401, 8, .int, .null)), (55, (0, 1, 3, .object "Kitwarden$Atom", .ref 0))]),
  (75, [(59, (1, 405, 8, .int, .null)), (63, (1, 409, 8, .int, .null)), (67, (1, 403, 0, .int, .null)), (70, (1, 72, 0, .int, .null)), (71, (2, 11, 0, .int, .null))]),
  (91, [(75, (1, 71, 1, .int, .null)), (78, (1, 410, 8, .int, .null)), (81, (0, 11, 5, .object "Kitwarden$Span", .ref 0)), (84, (1, 411, 8, .int, .null)), (88, (1, 73, 1, .int, .null))]),
  (107, [(91, (1, 389, 8, .int, .null)), (95, (1, 390, 8, .int, .null)), (98, (1, 391, 8, .int, .null)), (101, (1, 399, 0, .int, .null)), (104, (1, 393, 8, .int, .null))]),
  (1000000, [(107, (1, 402, 0, .int, .null)), (100046, (3, 3, 0, .int, .null)), (100071, (3, 4, 0, .int, .null)), (200046, (9, 1, 0, .int, .null)), (200071, (9, 11, 0, .int, .null))])]
def xs_X5_i : XT XS := [(25, [(3, (7, 0, 0, .int, .null)), (11, (0, 6, 0, .array (.int), .ref 0)), (15, (0, 6, 1, .int, .ref 0)), (19, (0, 6, 2, .int, .ref 0)), (22, (0, 6, 3, .array (.int), .ref 0))]),
  (41, [(25, (0, 6, 4, .array (.int), .ref 0)), (28, (0, 6, 5, .array (.int), .ref 0)), (31, (0, 6, 6, .int, .ref 0)), (34, (0, 6, 7, .int, .ref 0)), (37, (1, 396, 8, .int, .null))]),
  (59, [(41, (1, 407, 8, .int, .null)), (45, (0, 1, 1, .boolean, .null)), (46, (2, 1, 0, .int, .null)), (51, (1, 401, 8, .int, .null)), (55, (0, 1, 3, .object "Kitwarden$Atom", .ref 0))]),
  (75, [(59, (1, 405, 8, .int, .null)), (63, (1, 409, 8, .int, .null)), (67, (1, 403, 0, .int, .null)), (70, (1, 72, 0, .int, .null)), (71, (2, 11, 0, .int, .null))]),
  (91, [(75, (1, 71, 1, .int, .null)), (78, (1, 410, 8, .int, .null)), (81, (0, 11, 5, .object "Kitwarden$Span", .ref 0)), (84, (1, 411, 8, .int, .null)), (88, (1, 73, 1, .int, .null))]),
  (107, [(91, (1, 389, 8, .int, .null)), (95, (1, 390, 8, .int, .null)), (98, (1, 391, 8, .int, .null)), (101, (1, 399, 0, .int, .null)), (104, (1, 393, 8, .int, .null))]),
  (1000000, [(107, (1, 402, 0, .int, .null)), (100046, (3, 3, 0, .int, .null)), (100071, (3, 4, 0, .int, .null)), (200046, (9, 1, 0, .int, .null)), (200071, (9, 11, 0, .int, .null))])]
def xs_X6 : XT XS := [(21, [(3, (7, 0, 0, .int, .null)), (9, (0, 7, 0, .int, .ref 0)), (15, (2, 1, 0, .int, .null)), (17, (0, 7, 1, .array (.object "Kitwarden$Atom"), .null))]),
  (31, [(21, (0, 7, 2, .int, .ref 0)), (24, (2, 11, 0, .int, .null)), (26, (0, 7, 3, .array (.object "Kitwarden$Span"), .null)), (30, (4, 0, 0, .int, .int (40000)))]),
  (44, [(31, (0, 7, 4, .int, .ref 0)), (34, (0, 7, 5, .long, .ref 0)), (38, (0, 7, 6, .long, .ref 0)), (41, (0, 7, 7, .int, .ref 0))]),
  (57, [(44, (0, 7, 8, .array (.long), .null)), (48, (0, 7, 9, .int, .ref 0)), (51, (0, 7, 10, .int, .ref 0)), (54, (0, 7, 11, .int, .ref 0))]),
  (100024, [(57, (10, 0, 0, .int, .null)), (63, (1, 420, 9, .int, .null)), (67, (1, 14, 0, .int, .null)), (100015, (3, 3, 0, .int, .null))]),
  (1000000, [(100024, (3, 4, 0, .int, .null)), (200015, (9, 1, 0, .int, .null)), (200024, (9, 11, 0, .int, .null))])]
def xs_X6_i : XT XS := [(21, [(3, (7, 0, 0, .int, .null)), (9, (0, 7, 0, .int, .ref 0)), (15, (2, 1, 0, .int, .null)), (17, (0, 7, 1, .array (.object "Kitwarden$Atom"), .ref 0))]),
  (31, [(21, (0, 7, 2, .int, .ref 0)), (24, (2, 11, 0, .int, .null)), (26, (0, 7, 3, .array (.object "Kitwarden$Span"), .ref 0)), (30, (4, 0, 0, .int, .int (40000)))]),
  (44, [(31, (0, 7, 4, .int, .ref 0)), (34, (0, 7, 5, .long, .ref 0)), (38, (0, 7, 6, .long, .ref 0)), (41, (0, 7, 7, .int, .ref 0))]),
  (57, [(44, (0, 7, 8, .array (.long), .ref 0)), (48, (0, 7, 9, .int, .ref 0)), (51, (0, 7, 10, .int, .ref 0)), (54, (0, 7, 11, .int, .ref 0))]),
  (100024, [(57, (10, 0, 0, .int, .null)), (63, (1, 420, 9, .int, .null)), (67, (1, 14, 0, .int, .null)), (100015, (3, 3, 0, .int, .null))]),
  (1000000, [(100024, (3, 4, 0, .int, .null)), (200015, (9, 1, 0, .int, .null)), (200024, (9, 11, 0, .int, .null))])]
def xs_X7 : XT XS := [(35, [(7, (7, 0, 0, .int, .null)), (13, (0, 8, 1, .array (.boolean), .null)), (17, (0, 8, 2, .array (.boolean), .null)), (20, (0, 8, 3, .long, .ref 0)), (24, (0, 8, 4, .int, .ref 0)), (28, (0, 8, 5, .array (.long), .null)), (32, (0, 8, 6, .array (.long), .null))]),
  (57, [(35, (0, 8, 7, .int, .ref 0)), (38, (0, 8, 8, .int, .ref 0)), (41, (0, 8, 9, .long, .ref 0)), (44, (0, 8, 10, .long, .ref 0)), (47, (0, 8, 11, .int, .ref 0)), (50, (0, 8, 12, .array (.long), .null)), (53, (0, 8, 13, .array (.int), .null))]),
  (79, [(57, (0, 8, 14, .int, .ref 0)), (60, (0, 8, 15, .array (.int), .null)), (63, (0, 8, 16, .array (.int), .null)), (66, (0, 8, 17, .array (.int), .null)), (69, (0, 8, 18, .array (.int), .null)), (72, (0, 8, 19, .int, .ref 0)), (75, (0, 8, 0, .object "Kitwarden$Clauses", .null))]),
  (105, [(79, (1, 9, 0, .int, .null)), (85, (0, 2, 4, .array (.long), .null)), (86, (0, 2, 3, .int, .ref 0)), (89, (10, 0, 0, .int, .null)), (95, (0, 2, 5, .array (.long), .null)), (96, (0, 2, 1, .object "Kitwarden$Shelf", .null)), (100, (0, 9, 0, .int, .ref 0))]),
  (128, [(105, (1, 443, 10, .int, .null)), (109, (1, 447, 10, .int, .null)), (112, (0, 9, 3, .array (.long), .null)), (115, (4, 0, 0, .int, .long (-1))), (117, (1, 433, 10, .int, .null)), (121, (1, 446, 10, .int, .null)), (124, (1, 439, 0, .int, .null))]),
  (156, [(128, (1, 437, 10, .int, .null)), (132, (1, 440, 10, .int, .null)), (135, (1, 1, 0, .int, .null)), (141, (1, 16, 0, .int, .null)), (147, (1, 422, 10, .int, .null)), (150, (1, 429, 10, .int, .null)), (154, (4, 0, 0, .int, .long (1152921504606846976)))]),
  (179, [(156, (1, 426, 10, .int, .null)), (160, (1, 444, 10, .int, .null)), (163, (1, 436, 10, .int, .null)), (166, (1, 427, 10, .int, .null)), (169, (1, 435, 10, .int, .null)), (172, (1, 425, 10, .int, .null)), (175, (1, 441, 10, .int, .null))]),
  (201, [(179, (1, 424, 10, .int, .null)), (182, (4, 0, 0, .int, .long (4503599627370495))), (184, (1, 445, 10, .int, .null)), (188, (1, 442, 10, .int, .null)), (191, (4, 0, 0, .int, .long (-4503599627370496))), (193, (1, 434, 10, .int, .null)), (197, (1, 432, 10, .int, .null))]),
  (1000000, [(201, (1, 448, 10, .int, .null)), (205, (4, 0, 0, .int, .int (16777216))), (206, (1, 430, 10, .int, .null))])]
def xs_X7_i : XT XS := [(35, [(7, (7, 0, 0, .int, .null)), (13, (0, 8, 1, .array (.boolean), .ref 0)), (17, (0, 8, 2, .array (.boolean), .ref 0)), (20, (0, 8, 3, .long, .ref 0)), (24, (0, 8, 4, .int, .ref 0)), (28, (0, 8, 5, .array (.long), .ref 0)), (32, (0, 8, 6, .array (.long), .ref 0))]),
  (57, [(35, (0, 8, 7, .int, .ref 0)), (38, (0, 8, 8, .int, .ref 0)), (41, (0, 8, 9, .long, .ref 0)), (44, (0, 8, 10, .long, .ref 0)), (47, (0, 8, 11, .int, .ref 0)), (50, (0, 8, 12, .array (.long), .ref 0)), (53, (0, 8, 13, .array (.int), .ref 0))]),
  (79, [(57, (0, 8, 14, .int, .ref 0)), (60, (0, 8, 15, .array (.int), .ref 0)), (63, (0, 8, 16, .array (.int), .ref 0)), (66, (0, 8, 17, .array (.int), .ref 0)), (69, (0, 8, 18, .array (.int), .ref 0)), (72, (0, 8, 19, .int, .ref 0)), (75, (0, 8, 0, .object "Kitwarden$Clauses", .ref 0))]),
  (105, [(79, (1, 9, 0, .int, .null)), (85, (0, 2, 4, .array (.long), .null)), (86, (0, 2, 3, .int, .ref 0)), (89, (10, 0, 0, .int, .null)), (95, (0, 2, 5, .array (.long), .null)), (96, (0, 2, 1, .object "Kitwarden$Shelf", .null)), (100, (0, 9, 0, .int, .ref 0))]),
  (128, [(105, (1, 443, 10, .int, .null)), (109, (1, 447, 10, .int, .null)), (112, (0, 9, 3, .array (.long), .null)), (115, (4, 0, 0, .int, .long (-1))), (117, (1, 433, 10, .int, .null)), (121, (1, 446, 10, .int, .null)), (124, (1, 439, 0, .int, .null))]),
  (156, [(128, (1, 437, 10, .int, .null)), (132, (1, 440, 10, .int, .null)), (135, (1, 1, 0, .int, .null)), (141, (1, 16, 0, .int, .null)), (147, (1, 422, 10, .int, .null)), (150, (1, 429, 10, .int, .null)), (154, (4, 0, 0, .int, .long (1152921504606846976)))]),
  (179, [(156, (1, 426, 10, .int, .null)), (160, (1, 444, 10, .int, .null)), (163, (1, 436, 10, .int, .null)), (166, (1, 427, 10, .int, .null)), (169, (1, 435, 10, .int, .null)), (172, (1, 425, 10, .int, .null)), (175, (1, 441, 10, .int, .null))]),
  (201, [(179, (1, 424, 10, .int, .null)), (182, (4, 0, 0, .int, .long (4503599627370495))), (184, (1, 445, 10, .int, .null)), (188, (1, 442, 10, .int, .null)), (191, (4, 0, 0, .int, .long (-4503599627370496))), (193, (1, 434, 10, .int, .null)), (197, (1, 432, 10, .int, .null))]),
  (1000000, [(201, (1, 448, 10, .int, .null)), (205, (4, 0, 0, .int, .int (16777216))), (206, (1, 430, 10, .int, .null))])]
def xs_X8 : XT XS := [(26, [(3, (7, 0, 0, .int, .null)), (9, (0, 9, 0, .int, .ref 0)), (15, (0, 9, 1, .int, .ref 0)), (18, (0, 9, 2, .array (.int), .null)), (22, (0, 9, 3, .array (.long), .null))]),
  (41, [(26, (0, 9, 4, .array (.int), .null)), (29, (0, 9, 5, .array (.int), .null)), (32, (0, 9, 6, .array (.int), .null)), (35, (0, 9, 7, .array (.int), .null)), (38, (0, 9, 8, .array (.int), .null))]),
  (57, [(41, (0, 9, 9, .array (.int), .null)), (44, (0, 9, 10, .long, .ref 0)), (48, (0, 9, 11, .array (.int), .null)), (51, (2, 1, 0, .int, .null)), (53, (0, 9, 12, .array (.object "Kitwarden$Atom"), .null))]),
  (73, [(57, (0, 9, 13, .array (.boolean), .null)), (61, (0, 9, 14, .array (.int), .null)), (64, (0, 9, 15, .array (.object "Kitwarden$Atom"), .null)), (67, (0, 9, 16, .array (.int), .null)), (70, (0, 9, 17, .array (.int), .null))]),
  (91, [(73, (0, 9, 18, .array (.int), .null)), (76, (0, 9, 19, .array (.object "Kitwarden$Atom"), .null)), (79, (10, 0, 0, .int, .null)), (85, (1, 153, 0, .int, .null)), (89, (4, 0, 0, .int, .long (-1)))]),
  (100051, [(91, (1, 463, 11, .int, .null)), (95, (1, 110, 0, .int, .null)), (99, (1, 458, 11, .int, .null)), (103, (4, 0, 0, .int, .long (1099511627775))), (105, (1, 74, 0, .int, .null))]),
  (1000000, [(100051, (3, 3, 0, .int, .null)), (200051, (9, 1, 0, .int, .null))])]
def xs_X8_i : XT XS := [(26, [(3, (7, 0, 0, .int, .null)), (9, (0, 9, 0, .int, .ref 0)), (15, (0, 9, 1, .int, .ref 0)), (18, (0, 9, 2, .array (.int), .ref 0)), (22, (0, 9, 3, .array (.long), .ref 0))]),
  (41, [(26, (0, 9, 4, .array (.int), .ref 0)), (29, (0, 9, 5, .array (.int), .ref 0)), (32, (0, 9, 6, .array (.int), .ref 0)), (35, (0, 9, 7, .array (.int), .ref 0)), (38, (0, 9, 8, .array (.int), .ref 0))]),
  (57, [(41, (0, 9, 9, .array (.int), .ref 0)), (44, (0, 9, 10, .long, .ref 0)), (48, (0, 9, 11, .array (.int), .ref 0)), (51, (2, 1, 0, .int, .null)), (53, (0, 9, 12, .array (.object "Kitwarden$Atom"), .ref 0))]),
  (73, [(57, (0, 9, 13, .array (.boolean), .ref 0)), (61, (0, 9, 14, .array (.int), .ref 0)), (64, (0, 9, 15, .array (.object "Kitwarden$Atom"), .ref 0)), (67, (0, 9, 16, .array (.int), .ref 0)), (70, (0, 9, 17, .array (.int), .ref 0))]),
  (91, [(73, (0, 9, 18, .array (.int), .ref 0)), (76, (0, 9, 19, .array (.object "Kitwarden$Atom"), .ref 0)), (79, (10, 0, 0, .int, .null)), (85, (1, 153, 0, .int, .null)), (89, (4, 0, 0, .int, .long (-1)))]),
  (100051, [(91, (1, 463, 11, .int, .null)), (95, (1, 110, 0, .int, .null)), (99, (1, 458, 11, .int, .null)), (103, (4, 0, 0, .int, .long (1099511627775))), (105, (1, 74, 0, .int, .null))]),
  (1000000, [(100051, (3, 3, 0, .int, .null)), (200051, (9, 1, 0, .int, .null))])]
def xs_X9 : XT XS := [(29, [(3, (7, 0, 0, .int, .null)), (9, (0, 10, 3, .long, .ref 0)), (15, (0, 10, 4, .array (.int), .null)), (19, (0, 10, 0, .object "Kitwarden$State", .null)), (23, (0, 12, 0, .object "Kitwarden$Shelf", .null))]),
  (49, [(29, (0, 10, 1, .object "Kitwarden$Shelf", .null)), (30, (0, 10, 2, .object "Kitwarden$Search", .null)), (34, (1, 76, 14, .int, .null)), (38, (0, 7, 6, .long, .ref 0)), (43, (1, 438, 10, .int, .null))]),
  (71, [(49, (1, 423, 10, .int, .null)), (53, (1, 428, 10, .int, .null)), (56, (1, 465, 11, .int, .null)), (62, (1, 5, 0, .int, .null)), (68, (1, 471, 12, .int, .null))]),
  (88, [(71, (0, 9, 0, .int, .ref 0)), (75, (1, 468, 12, .int, .null)), (79, (1, 466, 11, .int, .null)), (83, (4, 0, 0, .int, .long (-1))), (85, (1, 153, 0, .int, .null))]),
  (104, [(88, (1, 469, 12, .int, .null)), (91, (0, 10, 5, .int, .ref 0)), (94, (0, 9, 2, .array (.int), .null)), (97, (1, 457, 11, .int, .null)), (101, (0, 7, 0, .int, .ref 0))]),
  (1000000, [(104, (0, 7, 1, .array (.object "Kitwarden$Atom"), .null)), (108, (0, 1, 0, .int, .null)), (113, (0, 1, 3, .object "Kitwarden$Atom", .ref 0)), (117, (1, 454, 11, .int, .null))])]
def xs_X9_i : XT XS := [(29, [(3, (7, 0, 0, .int, .null)), (9, (0, 10, 3, .long, .ref 0)), (15, (0, 10, 4, .array (.int), .ref 0)), (19, (0, 10, 0, .object "Kitwarden$State", .ref 0)), (23, (0, 12, 0, .object "Kitwarden$Shelf", .null))]),
  (49, [(29, (0, 10, 1, .object "Kitwarden$Shelf", .ref 0)), (30, (0, 10, 2, .object "Kitwarden$Search", .ref 0)), (34, (1, 76, 14, .int, .null)), (38, (0, 7, 6, .long, .ref 0)), (43, (1, 438, 10, .int, .null))]),
  (71, [(49, (1, 423, 10, .int, .null)), (53, (1, 428, 10, .int, .null)), (56, (1, 465, 11, .int, .null)), (62, (1, 5, 0, .int, .null)), (68, (1, 471, 12, .int, .null))]),
  (88, [(71, (0, 9, 0, .int, .ref 0)), (75, (1, 468, 12, .int, .null)), (79, (1, 466, 11, .int, .null)), (83, (4, 0, 0, .int, .long (-1))), (85, (1, 153, 0, .int, .null))]),
  (104, [(88, (1, 469, 12, .int, .null)), (91, (0, 10, 5, .int, .ref 0)), (94, (0, 9, 2, .array (.int), .null)), (97, (1, 457, 11, .int, .null)), (101, (0, 7, 0, .int, .ref 0))]),
  (1000000, [(104, (0, 7, 1, .array (.object "Kitwarden$Atom"), .null)), (108, (0, 1, 0, .int, .null)), (113, (0, 1, 3, .object "Kitwarden$Atom", .ref 0)), (117, (1, 454, 11, .int, .null))])]
def xr_0 : List (Nat × XRec) := [(0, xm_L_law, xk_L_law, xs_L), (1, xm_J13_bitCount_95d88, xk_J13_bitCount_95d88, xs_J13), (2, xm_J13_lowestOneBit_067f4, xk_J13_lowestOneBit_067f4, xs_J13), (3, xm_J15_checkIndex_7cf53, xk_J15_checkIndex_7cf53, xs_J15), (4, xm_J3_checkIndex_8e157, xk_J3_checkIndex_8e157, xs_J3), (5, xm_J6_bitCount_0f7a4, xk_J6_bitCount_0f7a4, xs_J6), (6, xm_J6_numberOfLeadingZeros_0f7a4, xk_J6_numberOfLeadingZeros_0f7a4, xs_J6), (7, xm_J7_copyOf_1904c, xk_J7_copyOf_1904c, xs_J7), (8, xm_J7_copyOf_6403c, xk_J7_copyOf_6403c, xs_J7), (9, xm_J7_fill_53178, xk_J7_fill_53178, xs_J7), (10, xm_J7_fill_d0a16, xk_J7_fill_d0a16, xs_J7), (11, xm_J8_hugeLength_7cf53, xk_J8_hugeLength_7cf53, xs_J8), (12, xm_J8_newLength_cabcc, xk_J8_newLength_cabcc, xs_J8), (13, xm_J9_abs_0f7a4, xk_J9_abs_0f7a4, xs_J9), (14, xm_J9_floorMod_7cf53, xk_J9_floorMod_7cf53, xs_J9), (15, xm_J9_max_7cf53, xk_J9_max_7cf53, xs_J9), (16, xm_J9_min_7cf53, xk_J9_min_7cf53, xs_J9), (17, xm_Jx4a65c_add_72be8, xk_Jx4a65c_add_72be8, xs_Jx4a65c), (18, xm_Jx4a65c_add_9ea2d, xk_Jx4a65c_add_9ea2d, xs_Jx4a65c), (19, xm_Jx4a65c_elementData_915e3, xk_Jx4a65c_elementData_915e3, xs_Jx4a65c), (20, xm_Jx4a65c_get_915e3, xk_Jx4a65c_get_915e3, xs_Jx4a65c), (21, xm_Jx4a65c_grow_92f84, xk_Jx4a65c_grow_92f84, xs_Jx4a65c)]
def xr_1 : List (Nat × XRec) := [(22, xm_Jx4a65c_grow_d5877, xk_Jx4a65c_grow_d5877, xs_Jx4a65c), (23, xm_Jx4a65c_init_da8c8, xk_Jx4a65c_init_da8c8, xs_Jx4a65c_i), (24, xm_Jx4a65c_size_8abf5, xk_Jx4a65c_size_8abf5, xs_Jx4a65c), (25, xm_Jxa1e45_init_da8c8, xk_Jxa1e45_init_da8c8, xs_Jxa1e45_i), (26, xm_Jxc12de_init_da8c8, xk_Jxc12de_init_da8c8, xs_Jxc12de_i), (27, xm_L_append, xk_L_append, xs_L), (28, xm_L_backTo, xk_L_backTo, xs_L), (29, xm_L_ban, xk_L_ban, xs_L), (30, xm_L_because, xk_L_because, xs_L), (31, xm_L_coreAt, xk_L_coreAt, xs_L), (32, xm_L_count, xk_L_count, xs_L), (33, xm_L_fails, xk_L_fails, xs_L), (34, xm_L_failure, xk_L_failure, xs_L), (35, xm_L_far, xk_L_far, xs_L), (36, xm_L_fetchAt, xk_L_fetchAt, xs_L), (37, xm_L_hold, xk_L_hold, xs_L), (38, xm_L_inRange, xk_L_inRange, xs_L), (39, xm_L_install, xk_L_install, xs_L), (40, xm_L_installed, xk_L_installed, xs_L), (41, xm_L_isOn, xk_L_isOn, xs_L), (42, xm_L_literalAt, xk_L_literalAt, xs_L), (43, xm_L_lock, xk_L_lock, xs_L)]
def xr_2 : List (Nat × XRec) := [(44, xm_L_lockDiffers, xk_L_lockDiffers, xs_L), (45, xm_L_mergeLocks, xk_L_mergeLocks, xs_L), (46, xm_L_mirror, xk_L_mirror, xs_L), (47, xm_L_must, xk_L_must, xs_L), (48, xm_L_need, xk_L_need, xs_L), (49, xm_L_offer, xk_L_offer, xs_L), (50, xm_L_option, xk_L_option, xs_L), (51, xm_L_owner, xk_L_owner, xs_L), (52, xm_L_pack, xk_L_pack, xs_L), (53, xm_L_pin, xk_L_pin, xs_L), (54, xm_L_plan, xk_L_plan, xs_L), (55, xm_L_planAt, xk_L_planAt, xs_L), (56, xm_L_proofAt, xk_L_proofAt, xs_L), (57, xm_L_provide, xk_L_provide, xs_L), (58, xm_L_quota, xk_L_quota, xs_L), (59, xm_L_root, xk_L_root, xs_L), (60, xm_L_scriptAt, xk_L_scriptAt, xs_L), (61, xm_L_sumWrong, xk_L_sumWrong, xs_L), (62, xm_L_takeLock, xk_L_takeLock, xs_L), (63, xm_L_then, xk_L_then, xs_L), (64, xm_L_unwish, xk_L_unwish, xs_L), (65, xm_L_version, xk_L_version, xs_L)]
def xr_3 : List (Nat × XRec) := [(66, xm_L_versionAt, xk_L_versionAt, xs_L), (67, xm_L_versionOf, xk_L_versionOf, xs_L), (68, xm_L_versions, xk_L_versions, xs_L), (69, xm_L_wish, xk_L_wish, xs_L), (70, xm_L_without, xk_L_without, xs_L), (71, xm_X0_init, xk_X0_init, xs_X0_i), (72, xm_X10_any, xk_X10_any, xs_X10), (73, xm_X10_init, xk_X10_init, xs_X10_i), (74, xm_X10_isAnyMet, xk_X10_isAnyMet, xs_X10), (75, xm_X10_isMetBy, xk_X10_isMetBy, xs_X10), (76, xm_X11_atHand, xk_X11_atHand, xs_X11), (77, xm_X11_copyFrom, xk_X11_copyFrom, xs_X11), (78, xm_X11_init, xk_X11_init, xs_X11_i), (79, xm_X11_isInUse, xk_X11_isInUse, xs_X11), (80, xm_X11_mirrorFor, xk_X11_mirrorFor, xs_X11), (81, xm_X11_rootOf, xk_X11_rootOf, xs_X11), (82, xm_X11_setOffer, xk_X11_setOffer, xs_X11), (83, xm_X12_append, xk_X12_append, xs_X12), (84, xm_X12_backTo, xk_X12_backTo, xs_X12), (85, xm_X12_ban, xk_X12_ban, xs_X12), (86, xm_X12_because, xk_X12_because, xs_X12), (87, xm_X12_changes, xk_X12_changes, xs_X12)]
def xr_4 : List (Nat × XRec) := [(88, xm_X12_changesBetween, xk_X12_changesBetween, xs_X12), (89, xm_X12_checkGoalSound, xk_X12_checkGoalSound, xs_X12), (90, xm_X12_checkLock, xk_X12_checkLock, xs_X12), (91, xm_X12_checkMirror, xk_X12_checkMirror, xs_X12), (92, xm_X12_checkPack, xk_X12_checkPack, xs_X12), (93, xm_X12_checkedId, xk_X12_checkedId, xs_X12), (94, xm_X12_checkedNeed, xk_X12_checkedNeed, xs_X12), (95, xm_X12_checkedRange, xk_X12_checkedRange, xs_X12), (96, xm_X12_checksum, xk_X12_checksum, xs_X12), (97, xm_X12_clashes, xk_X12_clashes, xs_X12), (98, xm_X12_clearTape, xk_X12_clearTape, xs_X12), (99, xm_X12_core, xk_X12_core, xs_X12), (100, xm_X12_coreAt, xk_X12_coreAt, xs_X12), (101, xm_X12_count, xk_X12_count, xs_X12), (102, xm_X12_errorPosition, xk_X12_errorPosition, xs_X12), (103, xm_X12_errors, xk_X12_errors, xs_X12), (104, xm_X12_fails, xk_X12_fails, xs_X12), (105, xm_X12_failure, xk_X12_failure, xs_X12), (106, xm_X12_far, xk_X12_far, xs_X12), (107, xm_X12_fetchAt, xk_X12_fetchAt, xs_X12), (108, xm_X12_fetches, xk_X12_fetches, xs_X12), (109, xm_X12_fitting, xk_X12_fitting, xs_X12)]
def xr_5 : List (Nat × XRec) := [(110, xm_X12_has, xk_X12_has, xs_X12), (111, xm_X12_hold, xk_X12_hold, xs_X12), (112, xm_X12_inRange, xk_X12_inRange, xs_X12), (113, xm_X12_init, xk_X12_init, xs_X12_i), (114, xm_X12_install, xk_X12_install, xs_X12), (115, xm_X12_installed, xk_X12_installed, xs_X12), (116, xm_X12_isBeaten, xk_X12_isBeaten, xs_X12), (117, xm_X12_isCode, xk_X12_isCode, xs_X12), (118, xm_X12_isOn, xk_X12_isOn, xs_X12), (119, xm_X12_isSound, xk_X12_isSound, xs_X12), (120, xm_X12_know, xk_X12_know, xs_X12), (121, xm_X12_knowMet, xk_X12_knowMet, xs_X12), (122, xm_X12_literalAt, xk_X12_literalAt, xs_X12), (123, xm_X12_literalIn, xk_X12_literalIn, xs_X12), (124, xm_X12_lock, xk_X12_lock, xs_X12), (125, xm_X12_lockDiffers, xk_X12_lockDiffers, xs_X12), (126, xm_X12_meanSize, xk_X12_meanSize, xs_X12), (127, xm_X12_mergeLocks, xk_X12_mergeLocks, xs_X12), (128, xm_X12_merged, xk_X12_merged, xs_X12), (129, xm_X12_mirror, xk_X12_mirror, xs_X12), (130, xm_X12_must, xk_X12_must, xs_X12), (131, xm_X12_need, xk_X12_need, xs_X12)]
def xr_6 : List (Nat × XRec) := [(132, xm_X12_offer, xk_X12_offer, xs_X12), (133, xm_X12_option, xk_X12_option, xs_X12), (134, xm_X12_orphans, xk_X12_orphans, xs_X12), (135, xm_X12_owner, xk_X12_owner, xs_X12), (136, xm_X12_pack, xk_X12_pack, xs_X12), (137, xm_X12_packsIn, xk_X12_packsIn, xs_X12), (138, xm_X12_pin, xk_X12_pin, xs_X12), (139, xm_X12_plan, xk_X12_plan, xs_X12), (140, xm_X12_planAt, xk_X12_planAt, xs_X12), (141, xm_X12_proof, xk_X12_proof, xs_X12), (142, xm_X12_proofAt, xk_X12_proofAt, xs_X12), (143, xm_X12_provide, xk_X12_provide, xs_X12), (144, xm_X12_quota, xk_X12_quota, xs_X12), (145, xm_X12_remember, xk_X12_remember, xs_X12), (146, xm_X12_root, xk_X12_root, xs_X12), (147, xm_X12_scriptAt, xk_X12_scriptAt, xs_X12), (148, xm_X12_scripts, xk_X12_scripts, xs_X12), (149, xm_X12_share, xk_X12_share, xs_X12), (150, xm_X12_size, xk_X12_size, xs_X12), (151, xm_X12_solve, xk_X12_solve, xs_X12), (152, xm_X12_sumWrong, xk_X12_sumWrong, xs_X12), (153, xm_X12_switchOf, xk_X12_switchOf, xs_X12)]
def xr_7 : List (Nat × XRec) := [(154, xm_X12_takeGoal, xk_X12_takeGoal, xs_X12), (155, xm_X12_takeLock, xk_X12_takeLock, xs_X12), (156, xm_X12_then, xk_X12_then, xs_X12), (157, xm_X12_undo, xk_X12_undo, xs_X12), (158, xm_X12_unwish, xk_X12_unwish, xs_X12), (159, xm_X12_valueIn, xk_X12_valueIn, xs_X12), (160, xm_X12_version, xk_X12_version, xs_X12), (161, xm_X12_versionAt, xk_X12_versionAt, xs_X12), (162, xm_X12_versionOf, xk_X12_versionOf, xs_X12), (163, xm_X12_versions, xk_X12_versions, xs_X12), (164, xm_X12_wish, xk_X12_wish, xs_X12), (165, xm_X12_without, xk_X12_without, xs_X12), (166, xm_X13_init, xk_X13_init, xs_X13_i), (167, xm_X14_add, xk_X14_add, xs_X14), (168, xm_X14_addNeed, xk_X14_addNeed, xs_X14), (169, xm_X14_addPair, xk_X14_addPair, xs_X14), (170, xm_X14_addRow, xk_X14_addRow, xs_X14), (171, xm_X14_addSpan, xk_X14_addSpan, xs_X14), (172, xm_X14_append, xk_X14_append, xs_X14), (173, xm_X14_backTo, xk_X14_backTo, xs_X14), (174, xm_X14_ban, xk_X14_ban, xs_X14), (175, xm_X14_because, xk_X14_because, xs_X14)]
def xr_8 : List (Nat × XRec) := [(176, xm_X14_bestPair, xk_X14_bestPair, xs_X14), (177, xm_X14_bit, xk_X14_bit, xs_X14), (178, xm_X14_byteOf, xk_X14_byteOf, xs_X14), (179, xm_X14_canHold, xk_X14_canHold, xs_X14), (180, xm_X14_carryOut, xk_X14_carryOut, xs_X14), (181, xm_X14_changes, xk_X14_changes, xs_X14), (182, xm_X14_checksum, xk_X14_checksum, xs_X14), (183, xm_X14_clashes, xk_X14_clashes, xs_X14), (184, xm_X14_clearTape, xk_X14_clearTape, xs_X14), (185, xm_X14_codeIn, xk_X14_codeIn, xs_X14), (186, xm_X14_coming, xk_X14_coming, xs_X14), (187, xm_X14_core, xk_X14_core, xs_X14), (188, xm_X14_coreAt, xk_X14_coreAt, xs_X14), (189, xm_X14_coreErrors, xk_X14_coreErrors, xs_X14), (190, xm_X14_count, xk_X14_count, xs_X14), (191, xm_X14_differences, xk_X14_differences, xs_X14), (192, xm_X14_entrySet, xk_X14_entrySet, xs_X14), (193, xm_X14_errorPosition, xk_X14_errorPosition, xs_X14), (194, xm_X14_errors, xk_X14_errors, xs_X14), (195, xm_X14_fails, xk_X14_fails, xs_X14), (196, xm_X14_failure, xk_X14_failure, xs_X14), (197, xm_X14_far, xk_X14_far, xs_X14)]
def xr_9 : List (Nat × XRec) := [(198, xm_X14_fetchAt, xk_X14_fetchAt, xs_X14), (199, xm_X14_fetches, xk_X14_fetches, xs_X14), (200, xm_X14_findCore, xk_X14_findCore, xs_X14), (201, xm_X14_findProof, xk_X14_findProof, xs_X14), (202, xm_X14_findRing, xk_X14_findRing, xs_X14), (203, xm_X14_findScripts, xk_X14_findScripts, xs_X14), (204, xm_X14_findSteps, xk_X14_findSteps, xs_X14), (205, xm_X14_firstSet, xk_X14_firstSet, xs_X14), (206, xm_X14_fitsAny, xk_X14_fitsAny, xs_X14), (207, xm_X14_fitsHere, xk_X14_fitsHere, xs_X14), (208, xm_X14_fitting, xk_X14_fitting, xs_X14), (209, xm_X14_found, xk_X14_found, xs_X14), (210, xm_X14_goThrough, xk_X14_goThrough, xs_X14), (211, xm_X14_goalSet, xk_X14_goalSet, xs_X14), (212, xm_X14_goesWrong, xk_X14_goesWrong, xs_X14), (213, xm_X14_hasAll, xk_X14_hasAll, xs_X14), (214, xm_X14_hasNeeds, xk_X14_hasNeeds, xs_X14), (215, xm_X14_hasOption, xk_X14_hasOption, xs_X14), (216, xm_X14_hold, xk_X14_hold, xs_X14), (217, xm_X14_inRange, xk_X14_inRange, xs_X14), (218, xm_X14_init, xk_X14_init, xs_X14_i), (219, xm_X14_install, xk_X14_install, xs_X14)]
def xr_10 : List (Nat × XRec) := [(220, xm_X14_installed, xk_X14_installed, xs_X14), (221, xm_X14_installedSet, xk_X14_installedSet, xs_X14), (222, xm_X14_isAhead, xk_X14_isAhead, xs_X14), (223, xm_X14_isAheadOf, xk_X14_isAheadOf, xs_X14), (224, xm_X14_isCode, xk_X14_isCode, xs_X14), (225, xm_X14_isDigitAt, xk_X14_isDigitAt, xs_X14), (226, xm_X14_isEnd, xk_X14_isEnd, xs_X14), (227, xm_X14_isHeld, xk_X14_isHeld, xs_X14), (228, xm_X14_isInstalled, xk_X14_isInstalled, xs_X14), (229, xm_X14_isKept, xk_X14_isKept, xs_X14), (230, xm_X14_isLike, xk_X14_isLike, xs_X14), (231, xm_X14_isLock, xk_X14_isLock, xs_X14), (232, xm_X14_isMet, xk_X14_isMet, xs_X14), (233, xm_X14_isMirror, xk_X14_isMirror, xs_X14), (234, xm_X14_isOn, xk_X14_isOn, xs_X14), (235, xm_X14_isOnIn, xk_X14_isOnIn, xs_X14), (236, xm_X14_isPack, xk_X14_isPack, xs_X14), (237, xm_X14_isSign, xk_X14_isSign, xs_X14), (238, xm_X14_isSound, xk_X14_isSound, xs_X14), (239, xm_X14_isSoundSet, xk_X14_isSoundSet, xs_X14), (240, xm_X14_isSpanHere, xk_X14_isSpanHere, xs_X14), (241, xm_X14_isTrial, xk_X14_isTrial, xs_X14)]
def xr_11 : List (Nat × XRec) := [(242, xm_X14_isVersion, xk_X14_isVersion, xs_X14), (243, xm_X14_isWanted, xk_X14_isWanted, xs_X14), (244, xm_X14_keep, xk_X14_keep, xs_X14), (245, xm_X14_laySet, xk_X14_laySet, xs_X14), (246, xm_X14_leaveOut, xk_X14_leaveOut, xs_X14), (247, xm_X14_literalAt, xk_X14_literalAt, xs_X14), (248, xm_X14_lock, xk_X14_lock, xs_X14), (249, xm_X14_lockDiffers, xk_X14_lockDiffers, xs_X14), (250, xm_X14_manyIn, xk_X14_manyIn, xs_X14), (251, xm_X14_meanSize, xk_X14_meanSize, xs_X14), (252, xm_X14_meets, xk_X14_meets, xs_X14), (253, xm_X14_meetsRange, xk_X14_meetsRange, xs_X14), (254, xm_X14_meetsSpan, xk_X14_meetsSpan, xs_X14), (255, xm_X14_mergeLocks, xk_X14_mergeLocks, xs_X14), (256, xm_X14_mirror, xk_X14_mirror, xs_X14), (257, xm_X14_mirrorFor, xk_X14_mirrorFor, xs_X14), (258, xm_X14_must, xk_X14_must, xs_X14), (259, xm_X14_need, xk_X14_need, xs_X14), (260, xm_X14_next, xk_X14_next, xs_X14), (261, xm_X14_offer, xk_X14_offer, xs_X14), (262, xm_X14_offered, xk_X14_offered, xs_X14), (263, xm_X14_option, xk_X14_option, xs_X14)]
def xr_12 : List (Nat × XRec) := [(264, xm_X14_optionBit, xk_X14_optionBit, xs_X14), (265, xm_X14_order, xk_X14_order, xs_X14), (266, xm_X14_orphans, xk_X14_orphans, xs_X14), (267, xm_X14_owner, xk_X14_owner, xs_X14), (268, xm_X14_pack, xk_X14_pack, xs_X14), (269, xm_X14_pin, xk_X14_pin, xs_X14), (270, xm_X14_plan, xk_X14_plan, xs_X14), (271, xm_X14_planAt, xk_X14_planAt, xs_X14), (272, xm_X14_proof, xk_X14_proof, xs_X14), (273, xm_X14_proofAt, xk_X14_proofAt, xs_X14), (274, xm_X14_proofErrors, xk_X14_proofErrors, xs_X14), (275, xm_X14_provide, xk_X14_provide, xs_X14), (276, xm_X14_put, xk_X14_put, xs_X14), (277, xm_X14_putGoal, xk_X14_putGoal, xs_X14), (278, xm_X14_putRoot, xk_X14_putRoot, xs_X14), (279, xm_X14_quota, xk_X14_quota, xs_X14), (280, xm_X14_reach, xk_X14_reach, xs_X14), (281, xm_X14_readAtom, xk_X14_readAtom, xs_X14), (282, xm_X14_readBan, xk_X14_readBan, xs_X14), (283, xm_X14_readLetter, xk_X14_readLetter, xs_X14), (284, xm_X14_readNeed, xk_X14_readNeed, xs_X14), (285, xm_X14_readRange, xk_X14_readRange, xs_X14)]
def xr_13 : List (Nat × XRec) := [(286, xm_X14_readRangeOf, xk_X14_readRangeOf, xs_X14), (287, xm_X14_readSpan, xk_X14_readSpan, xs_X14), (288, xm_X14_readVersion, xk_X14_readVersion, xs_X14), (289, xm_X14_record, xk_X14_record, xs_X14), (290, xm_X14_refused, xk_X14_refused, xs_X14), (291, xm_X14_root, xk_X14_root, xs_X14), (292, xm_X14_rootAt, xk_X14_rootAt, xs_X14), (293, xm_X14_scriptAt, xk_X14_scriptAt, xs_X14), (294, xm_X14_scripts, xk_X14_scripts, xs_X14), (295, xm_X14_search, xk_X14_search, xs_X14), (296, xm_X14_setAt, xk_X14_setAt, xs_X14), (297, xm_X14_setMany, xk_X14_setMany, xs_X14), (298, xm_X14_share, xk_X14_share, xs_X14), (299, xm_X14_size, xk_X14_size, xs_X14), (300, xm_X14_sizeOf, xk_X14_sizeOf, xs_X14), (301, xm_X14_slotIn, xk_X14_slotIn, xs_X14), (302, xm_X14_slotOf, xk_X14_slotOf, xs_X14), (303, xm_X14_solve, xk_X14_solve, xs_X14), (304, xm_X14_sort, xk_X14_sort, xs_X14), (305, xm_X14_startText, xk_X14_startText, xs_X14), (306, xm_X14_sumWrong, xk_X14_sumWrong, xs_X14), (307, xm_X14_surelyChanged, xk_X14_surelyChanged, xs_X14)]
def xr_14 : List (Nat × XRec) := [(308, xm_X14_takeLock, xk_X14_takeLock, xs_X14), (309, xm_X14_taken, xk_X14_taken, xs_X14), (310, xm_X14_tellClauses, xk_X14_tellClauses, xs_X14), (311, xm_X14_tellOf, xk_X14_tellOf, xs_X14), (312, xm_X14_then, xk_X14_then, xs_X14), (313, xm_X14_thrown, xk_X14_thrown, xs_X14), (314, xm_X14_undo, xk_X14_undo, xs_X14), (315, xm_X14_unwish, xk_X14_unwish, xs_X14), (316, xm_X14_ver, xk_X14_ver, xs_X14), (317, xm_X14_version, xk_X14_version, xs_X14), (318, xm_X14_versionAt, xk_X14_versionAt, xs_X14), (319, xm_X14_versionOf, xk_X14_versionOf, xs_X14), (320, xm_X14_versions, xk_X14_versions, xs_X14), (321, xm_X14_versionsOf, xk_X14_versionsOf, xs_X14), (322, xm_X14_wish, xk_X14_wish, xs_X14), (323, xm_X14_wishAt, xk_X14_wishAt, xs_X14), (324, xm_X14_wishesLeft, xk_X14_wishesLeft, xs_X14), (325, xm_X14_within, xk_X14_within, xs_X14), (326, xm_X14_without, xk_X14_without, xs_X14), (327, xm_X14_wrong, xk_X14_wrong, xs_X14), (328, xm_X1_add, xk_X1_add, xs_X1), (329, xm_X1_init, xk_X1_init, xs_X1_i)]
def xr_15 : List (Nat × XRec) := [(330, xm_X1_literalsOf, xk_X1_literalsOf, xs_X1), (331, xm_X1_tell, xk_X1_tell, xs_X1), (332, xm_X1_tellBan, xk_X1_tellBan, xs_X1), (333, xm_X1_tellHold, xk_X1_tellHold, xs_X1), (334, xm_X1_tellNeed, xk_X1_tellNeed, xs_X1), (335, xm_X1_tellNone, xk_X1_tellNone, xs_X1), (336, xm_X1_tellPairs, xk_X1_tellPairs, xs_X1), (337, xm_X1_tellVersion, xk_X1_tellVersion, xs_X1), (338, xm_X2_afterStep, xk_X2_afterStep, xs_X2), (339, xm_X2_aheadOf, xk_X2_aheadOf, xs_X2), (340, xm_X2_arrange, xk_X2_arrange, xs_X2), (341, xm_X2_comingAt, xk_X2_comingAt, xs_X2), (342, xm_X2_comingCount, xk_X2_comingCount, xs_X2), (343, xm_X2_comingOf, xk_X2_comingOf, xs_X2), (344, xm_X2_failedBy, xk_X2_failedBy, xs_X2), (345, xm_X2_filesOf, xk_X2_filesOf, xs_X2), (346, xm_X2_findSteps, xk_X2_findSteps, xs_X2), (347, xm_X2_firstFree, xk_X2_firstFree, xs_X2), (348, xm_X2_firstWishFor, xk_X2_firstWishFor, xs_X2), (349, xm_X2_greatestOf, xk_X2_greatestOf, xs_X2), (350, xm_X2_init, xk_X2_init, xs_X2_i), (351, xm_X2_isAllFetched, xk_X2_isAllFetched, xs_X2)]
def xr_16 : List (Nat × XRec) := [(352, xm_X2_isRingFrom, xk_X2_isRingFrom, xs_X2), (353, xm_X2_leastBehind, xk_X2_leastBehind, xs_X2), (354, xm_X2_moved, xk_X2_moved, xs_X2), (355, xm_X2_nextStep, xk_X2_nextStep, xs_X2), (356, xm_X2_packsWith, xk_X2_packsWith, xs_X2), (357, xm_X2_reach, xk_X2_reach, xs_X2), (358, xm_X2_reachFrom, xk_X2_reachFrom, xs_X2), (359, xm_X2_run, xk_X2_run, xs_X2), (360, xm_X2_walkRing, xk_X2_walkRing, xs_X2), (361, xm_X2_wholeOf, xk_X2_wholeOf, xs_X2), (362, xm_X3_areNeedsMet, xk_X3_areNeedsMet, xs_X3), (363, xm_X3_brokenIn, xk_X3_brokenIn, xs_X3), (364, xm_X3_init, xk_X3_init, xs_X3_i), (365, xm_X3_isBanMet, xk_X3_isBanMet, xs_X3), (366, xm_X3_isFitting, xk_X3_isFitting, xs_X3), (367, xm_X3_isMeeting, xk_X3_isMeeting, xs_X3), (368, xm_X3_isMet, xk_X3_isMet, xs_X3), (369, xm_X3_isOptionOn, xk_X3_isOptionOn, xs_X3), (370, xm_X3_isSoundSet, xk_X3_isSoundSet, xs_X3), (371, xm_X3_meeting, xk_X3_meeting, xs_X3), (372, xm_X3_renew, xk_X3_renew, xs_X3), (373, xm_X3_setNumber, xk_X3_setNumber, xs_X3)]
def xr_17 : List (Nat × XRec) := [(374, xm_X3_setsToGoThrough, xk_X3_setsToGoThrough, xs_X3), (375, xm_X4_dropUnneeded, xk_X4_dropUnneeded, xs_X4), (376, xm_X4_findCore, xk_X4_findCore, xs_X4), (377, xm_X4_init, xk_X4_init, xs_X4_i), (378, xm_X4_isBestJoined, xk_X4_isBestJoined, xs_X4), (379, xm_X4_isCoreWrong, xk_X4_isCoreWrong, xs_X4), (380, xm_X4_isCovered, xk_X4_isCovered, xs_X4), (381, xm_X4_isJoinable, xk_X4_isJoinable, xs_X4), (382, xm_X4_isProofWrong, xk_X4_isProofWrong, xs_X4), (383, xm_X4_isRefuted, xk_X4_isRefuted, xs_X4), (384, xm_X4_isSpent, xk_X4_isSpent, xs_X4), (385, xm_X4_join, xk_X4_join, xs_X4), (386, xm_X4_literalsOf, xk_X4_literalsOf, xs_X4), (387, xm_X4_spend, xk_X4_spend, xs_X4), (388, xm_X4_takeAll, xk_X4_takeAll, xs_X4), (389, xm_X5_addNextToken, xk_X5_addNextToken, xs_X5), (390, xm_X5_addToken, xk_X5_addToken, xs_X5), (391, xm_X5_byteAt, xk_X5_byteAt, xs_X5), (392, xm_X5_bytesIn, xk_X5_bytesIn, xs_X5), (393, xm_X5_digitsFrom, xk_X5_digitsFrom, xs_X5), (394, xm_X5_empty, xk_X5_empty, xs_X5), (395, xm_X5_errorAt, xk_X5_errorAt, xs_X5)]
def xr_18 : List (Nat × XRec) := [(396, xm_X5_findTokens, xk_X5_findTokens, xs_X5), (397, xm_X5_hasRoomFor, xk_X5_hasRoomFor, xs_X5), (398, xm_X5_init, xk_X5_init, xs_X5_i), (399, xm_X5_isDigit, xk_X5_isDigit, xs_X5), (400, xm_X5_isEmptyText, xk_X5_isEmptyText, xs_X5), (401, xm_X5_isNext, xk_X5_isNext, xs_X5), (402, xm_X5_isSign, xk_X5_isSign, xs_X5), (403, xm_X5_isSpanSign, xk_X5_isSpanSign, xs_X5), (404, xm_X5_length, xk_X5_length, xs_X5), (405, xm_X5_pass, xk_X5_pass, xs_X5), (406, xm_X5_put, xk_X5_put, xs_X5), (407, xm_X5_readAtom, xk_X5_readAtom, xs_X5), (408, xm_X5_readNeed, xk_X5_readNeed, xs_X5), (409, xm_X5_readRange, xk_X5_readRange, xs_X5), (410, xm_X5_readSpan, xk_X5_readSpan, xs_X5), (411, xm_X5_readVersion, xk_X5_readVersion, xs_X5), (412, xm_X5_readWholeRange, xk_X5_readWholeRange, xs_X5), (413, xm_X6_addWish, xk_X6_addWish, xs_X6), (414, xm_X6_copyFrom, xk_X6_copyFrom, xs_X6), (415, xm_X6_entryAt, xk_X6_entryAt, xs_X6), (416, xm_X6_init, xk_X6_init, xs_X6_i), (417, xm_X6_isKept, xk_X6_isKept, xs_X6)]
def xr_19 : List (Nat × XRec) := [(418, xm_X6_keepEntry, xk_X6_keepEntry, xs_X6), (419, xm_X6_pinCount, xk_X6_pinCount, xs_X6), (420, xm_X6_tellFailure, xk_X6_tellFailure, xs_X6), (421, xm_X6_wishesLeft, xk_X6_wishesLeft, xs_X6), (422, xm_X7_back, xk_X7_back, xs_X7), (423, xm_X7_canHold, xk_X7_canHold, xs_X7), (424, xm_X7_choose, xk_X7_choose, xs_X7), (425, xm_X7_deepen, xk_X7_deepen, xs_X7), (426, xm_X7_draw, xk_X7_draw, xs_X7), (427, xm_X7_forget, xk_X7_forget, xs_X7), (428, xm_X7_found, xk_X7_found, xs_X7), (429, xm_X7_hasEmpty, xk_X7_hasEmpty, xs_X7), (430, xm_X7_heaviest, xk_X7_heaviest, xs_X7), (431, xm_X7_init, xk_X7_init, xs_X7_i), (432, xm_X7_isCovered, xk_X7_isCovered, xs_X7), (433, xm_X7_isTaken, xk_X7_isTaken, xs_X7), (434, xm_X7_join, xk_X7_join, xs_X7), (435, xm_X7_keep, xk_X7_keep, xs_X7), (436, xm_X7_levelBelow, xk_X7_levelBelow, xs_X7), (437, xm_X7_link, xk_X7_link, xs_X7), (438, xm_X7_load, xk_X7_load, xs_X7), (439, xm_X7_pick, xk_X7_pick, xs_X7)]
def xr_20 : List (Nat × XRec) := [(440, xm_X7_put, xk_X7_put, xs_X7), (441, xm_X7_putAll, xk_X7_putAll, xs_X7), (442, xm_X7_spread, xk_X7_spread, xs_X7), (443, xm_X7_tellChange, xk_X7_tellChange, xs_X7), (444, xm_X7_trace, xk_X7_trace, xs_X7), (445, xm_X7_visit, xk_X7_visit, xs_X7), (446, xm_X7_watch, xk_X7_watch, xs_X7), (447, xm_X7_watchAll, xk_X7_watchAll, xs_X7), (448, xm_X7_weigh, xk_X7_weigh, xs_X7), (449, xm_X8_addBan, xk_X8_addBan, xs_X8), (450, xm_X8_addGiven, xk_X8_addGiven, xs_X8), (451, xm_X8_addNeed, xk_X8_addNeed, xs_X8), (452, xm_X8_addPack, xk_X8_addPack, xs_X8), (453, xm_X8_addVersion, xk_X8_addVersion, xs_X8), (454, xm_X8_codeIn, xk_X8_codeIn, xs_X8), (455, xm_X8_copyFrom, xk_X8_copyFrom, xs_X8), (456, xm_X8_hasRoomIn, xk_X8_hasRoomIn, xs_X8), (457, xm_X8_idAt, xk_X8_idAt, xs_X8), (458, xm_X8_idIn, xk_X8_idIn, xs_X8), (459, xm_X8_idOf, xk_X8_idOf, xs_X8), (460, xm_X8_inRangeOf, xk_X8_inRangeOf, xs_X8), (461, xm_X8_init, xk_X8_init, xs_X8_i)]
def xr_21 : List (Nat × XRec) := [(462, xm_X8_newerOf, xk_X8_newerOf, xs_X8), (463, xm_X8_putByAge, xk_X8_putByAge, xs_X8), (464, xm_X8_sizeOf, xk_X8_sizeOf, xs_X8), (465, xm_X8_unlikePacks, xk_X8_unlikePacks, xs_X8), (466, xm_X8_versionsOf, xk_X8_versionsOf, xs_X8), (467, xm_X8_withOption, xk_X8_withOption, xs_X8), (468, xm_X9_bestVersion, xk_X9_bestVersion, xs_X9), (469, xm_X9_canStill, xk_X9_canStill, xs_X9), (470, xm_X9_find, xk_X9_find, xs_X9), (471, xm_X9_findTurns, xk_X9_findTurns, xs_X9), (472, xm_X9_init, xk_X9_init, xs_X9_i), (473, xm_X9_isAhead, xk_X9_isAhead, xs_X9), (474, xm_X9_mustHave, xk_X9_mustHave, xs_X9), (475, xm_X9_settle, xk_X9_settle, xs_X9)]
def xRecs : XRecs := [(22, xr_0), (44, xr_1), (66, xr_2), (88, xr_3), (110, xr_4), (132, xr_5), (154, xr_6), (176, xr_7), (198, xr_8), (220, xr_9), (242, xr_10), (264, xr_11), (286, xr_12), (308, xr_13), (330, xr_14), (352, xr_15), (374, xr_16), (396, xr_17), (418, xr_18), (440, xr_19), (462, xr_20), (1000000, xr_21)]
def xNews : List (List Value) := [[.int 0, .null, .int 0],
  [.int 0, .int 0, .null, .null],
  [.null, .null, .null, .int 0, .null, .null, .null, .null, .null],
  [.null, .null, .null, .null, .null, .null, .int 0, .int 0, .null, .null, .null, .int 0],
  [.null, .null, .null, .null, .null, .null, .null, .null],
  [.null, .null, .int 0, .null, .null, .int 0, .null, .null, .null, .null, .null, .null, .long 0, .long 0],
  [.null, .int 0, .int 0, .null, .null, .null, .int 0, .int 0],
  [.int 0, .null, .int 0, .null, .int 0, .long 0, .long 0, .int 0, .null, .int 0, .int 0, .int 0],
  [.null, .null, .null, .long 0, .int 0, .null, .null, .int 0, .int 0, .long 0, .long 0, .int 0, .null, .null, .int 0, .null, .null, .null, .null, .int 0],
  [.int 0, .int 0, .null, .null, .null, .null, .null, .null, .null, .null, .long 0, .null, .null, .null, .null, .null, .null, .null, .null, .null],
  [.null, .null, .null, .long 0, .null, .int 0],
  [.int 0, .int 0, .int 0, .int 0, .int 0, .null],
  [.null, .null, .null, .null, .int 0, .null, .int 0, .int 0, .null, .null, .null],
  [.null, .null, .null, .null, .null, .null, .null, .null, .null, .int 0, .int 0, .int 0],
  [.int 0, .null, .null, .null],
  [.null, .null, .int 0, .int 0, .int 0, .int 0, .null, .int 0, .null, .int 0, .int 0, .null, .int 0, .int 0, .int 0, .int 0, .int 0, .int 0, .null, .null, .null, .int 0, .int 0, .int 0, .null, .null, .null, .null, .null, .int 0, .int 0, .null, .int 0, .int 0, .null, .long 0, .long 0, .int 0, .int 0, .null, .int 0, .int 0, .int 0, .int 0, .int 0, .null, .int 0, .int 0, .null, .null, .null, .null, .null, .null, .null, .null, .int 0, .null, .null, .null, .null, .int 0, .null, .int 0]]
def xP : XP := xPof xRecs xNews
theorem xh_L_law : xHandle xm_L_law.y := ⟨by decide, by decide⟩
theorem xn_L_law : (parseMethodDescriptor xm_L_law.y.desc).map (fun d => d.parameters.length) = some 1 := by decide +kernel
theorem xh_J13_bitCount_95d88 : xHandle xm_J13_bitCount_95d88.y := ⟨by decide, by decide⟩
theorem xn_J13_bitCount_95d88 : (parseMethodDescriptor xm_J13_bitCount_95d88.y.desc).map (fun d => d.parameters.length) = some 1 := by decide +kernel
theorem xh_J13_lowestOneBit_067f4 : xHandle xm_J13_lowestOneBit_067f4.y := ⟨by decide, by decide⟩
theorem xn_J13_lowestOneBit_067f4 : (parseMethodDescriptor xm_J13_lowestOneBit_067f4.y.desc).map (fun d => d.parameters.length) = some 1 := by decide +kernel
theorem xh_J15_checkIndex_7cf53 : xHandle xm_J15_checkIndex_7cf53.y := ⟨by decide, by decide⟩
theorem xn_J15_checkIndex_7cf53 : (parseMethodDescriptor xm_J15_checkIndex_7cf53.y.desc).map (fun d => d.parameters.length) = some 2 := by decide +kernel
theorem xh_J3_checkIndex_8e157 : xHandle xm_J3_checkIndex_8e157.y := ⟨by decide, by decide⟩
theorem xn_J3_checkIndex_8e157 : (parseMethodDescriptor xm_J3_checkIndex_8e157.y.desc).map (fun d => d.parameters.length) = some 3 := by decide +kernel
theorem xh_J6_bitCount_0f7a4 : xHandle xm_J6_bitCount_0f7a4.y := ⟨by decide, by decide⟩
theorem xn_J6_bitCount_0f7a4 : (parseMethodDescriptor xm_J6_bitCount_0f7a4.y.desc).map (fun d => d.parameters.length) = some 1 := by decide +kernel
theorem xh_J6_numberOfLeadingZeros_0f7a4 : xHandle xm_J6_numberOfLeadingZeros_0f7a4.y := ⟨by decide, by decide⟩
theorem xn_J6_numberOfLeadingZeros_0f7a4 : (parseMethodDescriptor xm_J6_numberOfLeadingZeros_0f7a4.y.desc).map (fun d => d.parameters.length) = some 1 := by decide +kernel
theorem xh_J7_copyOf_1904c : xHandle xm_J7_copyOf_1904c.y := ⟨by decide, by decide⟩
theorem xn_J7_copyOf_1904c : (parseMethodDescriptor xm_J7_copyOf_1904c.y.desc).map (fun d => d.parameters.length) = some 2 := by decide +kernel
theorem xh_J7_copyOf_6403c : xHandle xm_J7_copyOf_6403c.y := ⟨by decide, by decide⟩
theorem xn_J7_copyOf_6403c : (parseMethodDescriptor xm_J7_copyOf_6403c.y.desc).map (fun d => d.parameters.length) = some 3 := by decide +kernel
theorem xh_J7_fill_53178 : xHandle xm_J7_fill_53178.y := ⟨by decide, by decide⟩
theorem xn_J7_fill_53178 : (parseMethodDescriptor xm_J7_fill_53178.y.desc).map (fun d => d.parameters.length) = some 2 := by decide +kernel
theorem xh_J7_fill_d0a16 : xHandle xm_J7_fill_d0a16.y := ⟨by decide, by decide⟩
theorem xn_J7_fill_d0a16 : (parseMethodDescriptor xm_J7_fill_d0a16.y.desc).map (fun d => d.parameters.length) = some 2 := by decide +kernel
theorem xh_J8_hugeLength_7cf53 : xHandle xm_J8_hugeLength_7cf53.y := ⟨by decide, by decide⟩
theorem xn_J8_hugeLength_7cf53 : (parseMethodDescriptor xm_J8_hugeLength_7cf53.y.desc).map (fun d => d.parameters.length) = some 2 := by decide +kernel
theorem xh_J8_newLength_cabcc : xHandle xm_J8_newLength_cabcc.y := ⟨by decide, by decide⟩
theorem xn_J8_newLength_cabcc : (parseMethodDescriptor xm_J8_newLength_cabcc.y.desc).map (fun d => d.parameters.length) = some 3 := by decide +kernel
theorem xh_J9_abs_0f7a4 : xHandle xm_J9_abs_0f7a4.y := ⟨by decide, by decide⟩
theorem xn_J9_abs_0f7a4 : (parseMethodDescriptor xm_J9_abs_0f7a4.y.desc).map (fun d => d.parameters.length) = some 1 := by decide +kernel
theorem xh_J9_floorMod_7cf53 : xHandle xm_J9_floorMod_7cf53.y := ⟨by decide, by decide⟩
theorem xn_J9_floorMod_7cf53 : (parseMethodDescriptor xm_J9_floorMod_7cf53.y.desc).map (fun d => d.parameters.length) = some 2 := by decide +kernel
theorem xh_J9_max_7cf53 : xHandle xm_J9_max_7cf53.y := ⟨by decide, by decide⟩
theorem xn_J9_max_7cf53 : (parseMethodDescriptor xm_J9_max_7cf53.y.desc).map (fun d => d.parameters.length) = some 2 := by decide +kernel
theorem xh_J9_min_7cf53 : xHandle xm_J9_min_7cf53.y := ⟨by decide, by decide⟩
theorem xn_J9_min_7cf53 : (parseMethodDescriptor xm_J9_min_7cf53.y.desc).map (fun d => d.parameters.length) = some 2 := by decide +kernel
theorem xh_Jx4a65c_add_72be8 : xHandle xm_Jx4a65c_add_72be8.y := ⟨by decide, by decide⟩
theorem xn_Jx4a65c_add_72be8 : (parseMethodDescriptor xm_Jx4a65c_add_72be8.y.desc).map (fun d => d.parameters.length) = some 3 := by decide +kernel
theorem xh_Jx4a65c_add_9ea2d : xHandle xm_Jx4a65c_add_9ea2d.y := ⟨by decide, by decide⟩
theorem xn_Jx4a65c_add_9ea2d : (parseMethodDescriptor xm_Jx4a65c_add_9ea2d.y.desc).map (fun d => d.parameters.length) = some 1 := by decide +kernel
theorem xh_Jx4a65c_elementData_915e3 : xHandle xm_Jx4a65c_elementData_915e3.y := ⟨by decide, by decide⟩
theorem xn_Jx4a65c_elementData_915e3 : (parseMethodDescriptor xm_Jx4a65c_elementData_915e3.y.desc).map (fun d => d.parameters.length) = some 1 := by decide +kernel
theorem xh_Jx4a65c_get_915e3 : xHandle xm_Jx4a65c_get_915e3.y := ⟨by decide, by decide⟩
theorem xn_Jx4a65c_get_915e3 : (parseMethodDescriptor xm_Jx4a65c_get_915e3.y.desc).map (fun d => d.parameters.length) = some 1 := by decide +kernel
theorem xh_Jx4a65c_grow_92f84 : xHandle xm_Jx4a65c_grow_92f84.y := ⟨by decide, by decide⟩
theorem xn_Jx4a65c_grow_92f84 : (parseMethodDescriptor xm_Jx4a65c_grow_92f84.y.desc).map (fun d => d.parameters.length) = some 1 := by decide +kernel
theorem xh_Jx4a65c_grow_d5877 : xHandle xm_Jx4a65c_grow_d5877.y := ⟨by decide, by decide⟩
theorem xn_Jx4a65c_grow_d5877 : (parseMethodDescriptor xm_Jx4a65c_grow_d5877.y.desc).map (fun d => d.parameters.length) = some 0 := by decide +kernel
theorem xh_Jx4a65c_init_da8c8 : xHandle xm_Jx4a65c_init_da8c8.y := ⟨by decide, by decide⟩
theorem xn_Jx4a65c_init_da8c8 : (parseMethodDescriptor xm_Jx4a65c_init_da8c8.y.desc).map (fun d => d.parameters.length) = some 0 := by decide +kernel
theorem xh_Jx4a65c_size_8abf5 : xHandle xm_Jx4a65c_size_8abf5.y := ⟨by decide, by decide⟩
theorem xn_Jx4a65c_size_8abf5 : (parseMethodDescriptor xm_Jx4a65c_size_8abf5.y.desc).map (fun d => d.parameters.length) = some 0 := by decide +kernel
theorem xh_Jxa1e45_init_da8c8 : xHandle xm_Jxa1e45_init_da8c8.y := ⟨by decide, by decide⟩
theorem xn_Jxa1e45_init_da8c8 : (parseMethodDescriptor xm_Jxa1e45_init_da8c8.y.desc).map (fun d => d.parameters.length) = some 0 := by decide +kernel
theorem xh_Jxc12de_init_da8c8 : xHandle xm_Jxc12de_init_da8c8.y := ⟨by decide, by decide⟩
theorem xn_Jxc12de_init_da8c8 : (parseMethodDescriptor xm_Jxc12de_init_da8c8.y.desc).map (fun d => d.parameters.length) = some 0 := by decide +kernel
theorem xh_L_append : xHandle xm_L_append.y := ⟨by decide, by decide⟩
theorem xn_L_append : (parseMethodDescriptor xm_L_append.y.desc).map (fun d => d.parameters.length) = some 7 := by decide +kernel
theorem xh_L_backTo : xHandle xm_L_backTo.y := ⟨by decide, by decide⟩
theorem xn_L_backTo : (parseMethodDescriptor xm_L_backTo.y.desc).map (fun d => d.parameters.length) = some 3 := by decide +kernel
theorem xh_L_ban : xHandle xm_L_ban.y := ⟨by decide, by decide⟩
theorem xn_L_ban : (parseMethodDescriptor xm_L_ban.y.desc).map (fun d => d.parameters.length) = some 4 := by decide +kernel
theorem xh_L_because : xHandle xm_L_because.y := ⟨by decide, by decide⟩
theorem xn_L_because : (parseMethodDescriptor xm_L_because.y.desc).map (fun d => d.parameters.length) = some 3 := by decide +kernel
theorem xh_L_coreAt : xHandle xm_L_coreAt.y := ⟨by decide, by decide⟩
theorem xn_L_coreAt : (parseMethodDescriptor xm_L_coreAt.y.desc).map (fun d => d.parameters.length) = some 4 := by decide +kernel
theorem xh_L_count : xHandle xm_L_count.y := ⟨by decide, by decide⟩
theorem xn_L_count : (parseMethodDescriptor xm_L_count.y.desc).map (fun d => d.parameters.length) = some 3 := by decide +kernel
theorem xh_L_fails : xHandle xm_L_fails.y := ⟨by decide, by decide⟩
theorem xn_L_fails : (parseMethodDescriptor xm_L_fails.y.desc).map (fun d => d.parameters.length) = some 5 := by decide +kernel
theorem xh_L_failure : xHandle xm_L_failure.y := ⟨by decide, by decide⟩
theorem xn_L_failure : (parseMethodDescriptor xm_L_failure.y.desc).map (fun d => d.parameters.length) = some 3 := by decide +kernel
theorem xh_L_far : xHandle xm_L_far.y := ⟨by decide, by decide⟩
theorem xn_L_far : (parseMethodDescriptor xm_L_far.y.desc).map (fun d => d.parameters.length) = some 3 := by decide +kernel
theorem xh_L_fetchAt : xHandle xm_L_fetchAt.y := ⟨by decide, by decide⟩
theorem xn_L_fetchAt : (parseMethodDescriptor xm_L_fetchAt.y.desc).map (fun d => d.parameters.length) = some 4 := by decide +kernel
theorem xh_L_hold : xHandle xm_L_hold.y := ⟨by decide, by decide⟩
theorem xn_L_hold : (parseMethodDescriptor xm_L_hold.y.desc).map (fun d => d.parameters.length) = some 4 := by decide +kernel
theorem xh_L_inRange : xHandle xm_L_inRange.y := ⟨by decide, by decide⟩
theorem xn_L_inRange : (parseMethodDescriptor xm_L_inRange.y.desc).map (fun d => d.parameters.length) = some 3 := by decide +kernel
theorem xh_L_install : xHandle xm_L_install.y := ⟨by decide, by decide⟩
theorem xn_L_install : (parseMethodDescriptor xm_L_install.y.desc).map (fun d => d.parameters.length) = some 2 := by decide +kernel
theorem xh_L_installed : xHandle xm_L_installed.y := ⟨by decide, by decide⟩
theorem xn_L_installed : (parseMethodDescriptor xm_L_installed.y.desc).map (fun d => d.parameters.length) = some 3 := by decide +kernel
theorem xh_L_isOn : xHandle xm_L_isOn.y := ⟨by decide, by decide⟩
theorem xn_L_isOn : (parseMethodDescriptor xm_L_isOn.y.desc).map (fun d => d.parameters.length) = some 3 := by decide +kernel
theorem xh_L_literalAt : xHandle xm_L_literalAt.y := ⟨by decide, by decide⟩
theorem xn_L_literalAt : (parseMethodDescriptor xm_L_literalAt.y.desc).map (fun d => d.parameters.length) = some 4 := by decide +kernel
theorem xh_L_lock : xHandle xm_L_lock.y := ⟨by decide, by decide⟩
theorem xn_L_lock : (parseMethodDescriptor xm_L_lock.y.desc).map (fun d => d.parameters.length) = some 3 := by decide +kernel
theorem xh_L_lockDiffers : xHandle xm_L_lockDiffers.y := ⟨by decide, by decide⟩
theorem xn_L_lockDiffers : (parseMethodDescriptor xm_L_lockDiffers.y.desc).map (fun d => d.parameters.length) = some 4 := by decide +kernel
theorem xh_L_mergeLocks : xHandle xm_L_mergeLocks.y := ⟨by decide, by decide⟩
theorem xn_L_mergeLocks : (parseMethodDescriptor xm_L_mergeLocks.y.desc).map (fun d => d.parameters.length) = some 4 := by decide +kernel
theorem xh_L_mirror : xHandle xm_L_mirror.y := ⟨by decide, by decide⟩
theorem xn_L_mirror : (parseMethodDescriptor xm_L_mirror.y.desc).map (fun d => d.parameters.length) = some 2 := by decide +kernel
theorem xh_L_must : xHandle xm_L_must.y := ⟨by decide, by decide⟩
theorem xn_L_must : (parseMethodDescriptor xm_L_must.y.desc).map (fun d => d.parameters.length) = some 4 := by decide +kernel
theorem xh_L_need : xHandle xm_L_need.y := ⟨by decide, by decide⟩
theorem xn_L_need : (parseMethodDescriptor xm_L_need.y.desc).map (fun d => d.parameters.length) = some 5 := by decide +kernel
theorem xh_L_offer : xHandle xm_L_offer.y := ⟨by decide, by decide⟩
theorem xn_L_offer : (parseMethodDescriptor xm_L_offer.y.desc).map (fun d => d.parameters.length) = some 6 := by decide +kernel
theorem xh_L_option : xHandle xm_L_option.y := ⟨by decide, by decide⟩
theorem xn_L_option : (parseMethodDescriptor xm_L_option.y.desc).map (fun d => d.parameters.length) = some 4 := by decide +kernel
theorem xh_L_owner : xHandle xm_L_owner.y := ⟨by decide, by decide⟩
theorem xn_L_owner : (parseMethodDescriptor xm_L_owner.y.desc).map (fun d => d.parameters.length) = some 3 := by decide +kernel
theorem xh_L_pack : xHandle xm_L_pack.y := ⟨by decide, by decide⟩
theorem xn_L_pack : (parseMethodDescriptor xm_L_pack.y.desc).map (fun d => d.parameters.length) = some 2 := by decide +kernel
theorem xh_L_pin : xHandle xm_L_pin.y := ⟨by decide, by decide⟩
theorem xn_L_pin : (parseMethodDescriptor xm_L_pin.y.desc).map (fun d => d.parameters.length) = some 3 := by decide +kernel
theorem xh_L_plan : xHandle xm_L_plan.y := ⟨by decide, by decide⟩
theorem xn_L_plan : (parseMethodDescriptor xm_L_plan.y.desc).map (fun d => d.parameters.length) = some 2 := by decide +kernel
theorem xh_L_planAt : xHandle xm_L_planAt.y := ⟨by decide, by decide⟩
theorem xn_L_planAt : (parseMethodDescriptor xm_L_planAt.y.desc).map (fun d => d.parameters.length) = some 3 := by decide +kernel
theorem xh_L_proofAt : xHandle xm_L_proofAt.y := ⟨by decide, by decide⟩
theorem xn_L_proofAt : (parseMethodDescriptor xm_L_proofAt.y.desc).map (fun d => d.parameters.length) = some 4 := by decide +kernel
theorem xh_L_provide : xHandle xm_L_provide.y := ⟨by decide, by decide⟩
theorem xn_L_provide : (parseMethodDescriptor xm_L_provide.y.desc).map (fun d => d.parameters.length) = some 6 := by decide +kernel
theorem xh_L_quota : xHandle xm_L_quota.y := ⟨by decide, by decide⟩
theorem xn_L_quota : (parseMethodDescriptor xm_L_quota.y.desc).map (fun d => d.parameters.length) = some 3 := by decide +kernel
theorem xh_L_root : xHandle xm_L_root.y := ⟨by decide, by decide⟩
theorem xn_L_root : (parseMethodDescriptor xm_L_root.y.desc).map (fun d => d.parameters.length) = some 3 := by decide +kernel
theorem xh_L_scriptAt : xHandle xm_L_scriptAt.y := ⟨by decide, by decide⟩
theorem xn_L_scriptAt : (parseMethodDescriptor xm_L_scriptAt.y.desc).map (fun d => d.parameters.length) = some 3 := by decide +kernel
theorem xh_L_sumWrong : xHandle xm_L_sumWrong.y := ⟨by decide, by decide⟩
theorem xn_L_sumWrong : (parseMethodDescriptor xm_L_sumWrong.y.desc).map (fun d => d.parameters.length) = some 3 := by decide +kernel
theorem xh_L_takeLock : xHandle xm_L_takeLock.y := ⟨by decide, by decide⟩
theorem xn_L_takeLock : (parseMethodDescriptor xm_L_takeLock.y.desc).map (fun d => d.parameters.length) = some 3 := by decide +kernel
theorem xh_L_then : xHandle xm_L_then.y := ⟨by decide, by decide⟩
theorem xn_L_then : (parseMethodDescriptor xm_L_then.y.desc).map (fun d => d.parameters.length) = some 4 := by decide +kernel
theorem xh_L_unwish : xHandle xm_L_unwish.y := ⟨by decide, by decide⟩
theorem xn_L_unwish : (parseMethodDescriptor xm_L_unwish.y.desc).map (fun d => d.parameters.length) = some 3 := by decide +kernel
theorem xh_L_version : xHandle xm_L_version.y := ⟨by decide, by decide⟩
theorem xn_L_version : (parseMethodDescriptor xm_L_version.y.desc).map (fun d => d.parameters.length) = some 7 := by decide +kernel
theorem xh_L_versionAt : xHandle xm_L_versionAt.y := ⟨by decide, by decide⟩
theorem xn_L_versionAt : (parseMethodDescriptor xm_L_versionAt.y.desc).map (fun d => d.parameters.length) = some 4 := by decide +kernel
theorem xh_L_versionOf : xHandle xm_L_versionOf.y := ⟨by decide, by decide⟩
theorem xn_L_versionOf : (parseMethodDescriptor xm_L_versionOf.y.desc).map (fun d => d.parameters.length) = some 3 := by decide +kernel
theorem xh_L_versions : xHandle xm_L_versions.y := ⟨by decide, by decide⟩
theorem xn_L_versions : (parseMethodDescriptor xm_L_versions.y.desc).map (fun d => d.parameters.length) = some 3 := by decide +kernel
theorem xh_L_wish : xHandle xm_L_wish.y := ⟨by decide, by decide⟩
theorem xn_L_wish : (parseMethodDescriptor xm_L_wish.y.desc).map (fun d => d.parameters.length) = some 2 := by decide +kernel
theorem xh_L_without : xHandle xm_L_without.y := ⟨by decide, by decide⟩
theorem xn_L_without : (parseMethodDescriptor xm_L_without.y.desc).map (fun d => d.parameters.length) = some 3 := by decide +kernel
theorem xh_X0_init : xHandle xm_X0_init.y := ⟨by decide, by decide⟩
theorem xn_X0_init : (parseMethodDescriptor xm_X0_init.y.desc).map (fun d => d.parameters.length) = some 3 := by decide +kernel
theorem xh_X10_any : xHandle xm_X10_any.y := ⟨by decide, by decide⟩
theorem xn_X10_any : (parseMethodDescriptor xm_X10_any.y.desc).map (fun d => d.parameters.length) = some 0 := by decide +kernel
theorem xh_X10_init : xHandle xm_X10_init.y := ⟨by decide, by decide⟩
theorem xn_X10_init : (parseMethodDescriptor xm_X10_init.y.desc).map (fun d => d.parameters.length) = some 3 := by decide +kernel
theorem xh_X10_isAnyMet : xHandle xm_X10_isAnyMet.y := ⟨by decide, by decide⟩
theorem xn_X10_isAnyMet : (parseMethodDescriptor xm_X10_isAnyMet.y.desc).map (fun d => d.parameters.length) = some 2 := by decide +kernel
theorem xh_X10_isMetBy : xHandle xm_X10_isMetBy.y := ⟨by decide, by decide⟩
theorem xn_X10_isMetBy : (parseMethodDescriptor xm_X10_isMetBy.y.desc).map (fun d => d.parameters.length) = some 1 := by decide +kernel
theorem xh_X11_atHand : xHandle xm_X11_atHand.y := ⟨by decide, by decide⟩
theorem xn_X11_atHand : (parseMethodDescriptor xm_X11_atHand.y.desc).map (fun d => d.parameters.length) = some 0 := by decide +kernel
theorem xh_X11_copyFrom : xHandle xm_X11_copyFrom.y := ⟨by decide, by decide⟩
theorem xn_X11_copyFrom : (parseMethodDescriptor xm_X11_copyFrom.y.desc).map (fun d => d.parameters.length) = some 1 := by decide +kernel
theorem xh_X11_init : xHandle xm_X11_init.y := ⟨by decide, by decide⟩
theorem xn_X11_init : (parseMethodDescriptor xm_X11_init.y.desc).map (fun d => d.parameters.length) = some 0 := by decide +kernel
theorem xh_X11_isInUse : xHandle xm_X11_isInUse.y := ⟨by decide, by decide⟩
theorem xn_X11_isInUse : (parseMethodDescriptor xm_X11_isInUse.y.desc).map (fun d => d.parameters.length) = some 1 := by decide +kernel
theorem xh_X11_mirrorFor : xHandle xm_X11_mirrorFor.y := ⟨by decide, by decide⟩
theorem xn_X11_mirrorFor : (parseMethodDescriptor xm_X11_mirrorFor.y.desc).map (fun d => d.parameters.length) = some 3 := by decide +kernel
theorem xh_X11_rootOf : xHandle xm_X11_rootOf.y := ⟨by decide, by decide⟩
theorem xn_X11_rootOf : (parseMethodDescriptor xm_X11_rootOf.y.desc).map (fun d => d.parameters.length) = some 1 := by decide +kernel
theorem xh_X11_setOffer : xHandle xm_X11_setOffer.y := ⟨by decide, by decide⟩
theorem xn_X11_setOffer : (parseMethodDescriptor xm_X11_setOffer.y.desc).map (fun d => d.parameters.length) = some 3 := by decide +kernel
theorem xh_X12_append : xHandle xm_X12_append.y := ⟨by decide, by decide⟩
theorem xn_X12_append : (parseMethodDescriptor xm_X12_append.y.desc).map (fun d => d.parameters.length) = some 5 := by decide +kernel
theorem xh_X12_backTo : xHandle xm_X12_backTo.y := ⟨by decide, by decide⟩
theorem xn_X12_backTo : (parseMethodDescriptor xm_X12_backTo.y.desc).map (fun d => d.parameters.length) = some 1 := by decide +kernel
theorem xh_X12_ban : xHandle xm_X12_ban.y := ⟨by decide, by decide⟩
theorem xn_X12_ban : (parseMethodDescriptor xm_X12_ban.y.desc).map (fun d => d.parameters.length) = some 2 := by decide +kernel
theorem xh_X12_because : xHandle xm_X12_because.y := ⟨by decide, by decide⟩
theorem xn_X12_because : (parseMethodDescriptor xm_X12_because.y.desc).map (fun d => d.parameters.length) = some 1 := by decide +kernel
theorem xh_X12_changes : xHandle xm_X12_changes.y := ⟨by decide, by decide⟩
theorem xn_X12_changes : (parseMethodDescriptor xm_X12_changes.y.desc).map (fun d => d.parameters.length) = some 0 := by decide +kernel
theorem xh_X12_changesBetween : xHandle xm_X12_changesBetween.y := ⟨by decide, by decide⟩
theorem xn_X12_changesBetween : (parseMethodDescriptor xm_X12_changesBetween.y.desc).map (fun d => d.parameters.length) = some 2 := by decide +kernel
theorem xh_X12_checkGoalSound : xHandle xm_X12_checkGoalSound.y := ⟨by decide, by decide⟩
theorem xn_X12_checkGoalSound : (parseMethodDescriptor xm_X12_checkGoalSound.y.desc).map (fun d => d.parameters.length) = some 0 := by decide +kernel
theorem xh_X12_checkLock : xHandle xm_X12_checkLock.y := ⟨by decide, by decide⟩
theorem xn_X12_checkLock : (parseMethodDescriptor xm_X12_checkLock.y.desc).map (fun d => d.parameters.length) = some 1 := by decide +kernel
theorem xh_X12_checkMirror : xHandle xm_X12_checkMirror.y := ⟨by decide, by decide⟩
theorem xn_X12_checkMirror : (parseMethodDescriptor xm_X12_checkMirror.y.desc).map (fun d => d.parameters.length) = some 1 := by decide +kernel
theorem xh_X12_checkPack : xHandle xm_X12_checkPack.y := ⟨by decide, by decide⟩
theorem xn_X12_checkPack : (parseMethodDescriptor xm_X12_checkPack.y.desc).map (fun d => d.parameters.length) = some 1 := by decide +kernel
theorem xh_X12_checkedId : xHandle xm_X12_checkedId.y := ⟨by decide, by decide⟩
theorem xn_X12_checkedId : (parseMethodDescriptor xm_X12_checkedId.y.desc).map (fun d => d.parameters.length) = some 2 := by decide +kernel
theorem xh_X12_checkedNeed : xHandle xm_X12_checkedNeed.y := ⟨by decide, by decide⟩
theorem xn_X12_checkedNeed : (parseMethodDescriptor xm_X12_checkedNeed.y.desc).map (fun d => d.parameters.length) = some 1 := by decide +kernel
theorem xh_X12_checkedRange : xHandle xm_X12_checkedRange.y := ⟨by decide, by decide⟩
theorem xn_X12_checkedRange : (parseMethodDescriptor xm_X12_checkedRange.y.desc).map (fun d => d.parameters.length) = some 0 := by decide +kernel
theorem xh_X12_checksum : xHandle xm_X12_checksum.y := ⟨by decide, by decide⟩
theorem xn_X12_checksum : (parseMethodDescriptor xm_X12_checksum.y.desc).map (fun d => d.parameters.length) = some 0 := by decide +kernel
theorem xh_X12_clashes : xHandle xm_X12_clashes.y := ⟨by decide, by decide⟩
theorem xn_X12_clashes : (parseMethodDescriptor xm_X12_clashes.y.desc).map (fun d => d.parameters.length) = some 0 := by decide +kernel
theorem xh_X12_clearTape : xHandle xm_X12_clearTape.y := ⟨by decide, by decide⟩
theorem xn_X12_clearTape : (parseMethodDescriptor xm_X12_clearTape.y.desc).map (fun d => d.parameters.length) = some 0 := by decide +kernel
theorem xh_X12_core : xHandle xm_X12_core.y := ⟨by decide, by decide⟩
theorem xn_X12_core : (parseMethodDescriptor xm_X12_core.y.desc).map (fun d => d.parameters.length) = some 0 := by decide +kernel
theorem xh_X12_coreAt : xHandle xm_X12_coreAt.y := ⟨by decide, by decide⟩
theorem xn_X12_coreAt : (parseMethodDescriptor xm_X12_coreAt.y.desc).map (fun d => d.parameters.length) = some 2 := by decide +kernel
theorem xh_X12_count : xHandle xm_X12_count.y := ⟨by decide, by decide⟩
theorem xn_X12_count : (parseMethodDescriptor xm_X12_count.y.desc).map (fun d => d.parameters.length) = some 1 := by decide +kernel
theorem xh_X12_errorPosition : xHandle xm_X12_errorPosition.y := ⟨by decide, by decide⟩
theorem xn_X12_errorPosition : (parseMethodDescriptor xm_X12_errorPosition.y.desc).map (fun d => d.parameters.length) = some 0 := by decide +kernel
theorem xh_X12_errors : xHandle xm_X12_errors.y := ⟨by decide, by decide⟩
theorem xn_X12_errors : (parseMethodDescriptor xm_X12_errors.y.desc).map (fun d => d.parameters.length) = some 0 := by decide +kernel
theorem xh_X12_fails : xHandle xm_X12_fails.y := ⟨by decide, by decide⟩
theorem xn_X12_fails : (parseMethodDescriptor xm_X12_fails.y.desc).map (fun d => d.parameters.length) = some 3 := by decide +kernel
theorem xh_X12_failure : xHandle xm_X12_failure.y := ⟨by decide, by decide⟩
theorem xn_X12_failure : (parseMethodDescriptor xm_X12_failure.y.desc).map (fun d => d.parameters.length) = some 1 := by decide +kernel
theorem xh_X12_far : xHandle xm_X12_far.y := ⟨by decide, by decide⟩
theorem xn_X12_far : (parseMethodDescriptor xm_X12_far.y.desc).map (fun d => d.parameters.length) = some 1 := by decide +kernel
theorem xh_X12_fetchAt : xHandle xm_X12_fetchAt.y := ⟨by decide, by decide⟩
theorem xn_X12_fetchAt : (parseMethodDescriptor xm_X12_fetchAt.y.desc).map (fun d => d.parameters.length) = some 2 := by decide +kernel
theorem xh_X12_fetches : xHandle xm_X12_fetches.y := ⟨by decide, by decide⟩
theorem xn_X12_fetches : (parseMethodDescriptor xm_X12_fetches.y.desc).map (fun d => d.parameters.length) = some 0 := by decide +kernel
theorem xh_X12_fitting : xHandle xm_X12_fitting.y := ⟨by decide, by decide⟩
theorem xn_X12_fitting : (parseMethodDescriptor xm_X12_fitting.y.desc).map (fun d => d.parameters.length) = some 0 := by decide +kernel
theorem xh_X12_has : xHandle xm_X12_has.y := ⟨by decide, by decide⟩
theorem xn_X12_has : (parseMethodDescriptor xm_X12_has.y.desc).map (fun d => d.parameters.length) = some 2 := by decide +kernel
theorem xh_X12_hold : xHandle xm_X12_hold.y := ⟨by decide, by decide⟩
theorem xn_X12_hold : (parseMethodDescriptor xm_X12_hold.y.desc).map (fun d => d.parameters.length) = some 2 := by decide +kernel
theorem xh_X12_inRange : xHandle xm_X12_inRange.y := ⟨by decide, by decide⟩
theorem xn_X12_inRange : (parseMethodDescriptor xm_X12_inRange.y.desc).map (fun d => d.parameters.length) = some 1 := by decide +kernel
theorem xh_X12_init : xHandle xm_X12_init.y := ⟨by decide, by decide⟩
theorem xn_X12_init : (parseMethodDescriptor xm_X12_init.y.desc).map (fun d => d.parameters.length) = some 0 := by decide +kernel
theorem xh_X12_install : xHandle xm_X12_install.y := ⟨by decide, by decide⟩
theorem xn_X12_install : (parseMethodDescriptor xm_X12_install.y.desc).map (fun d => d.parameters.length) = some 0 := by decide +kernel
theorem xh_X12_installed : xHandle xm_X12_installed.y := ⟨by decide, by decide⟩
theorem xn_X12_installed : (parseMethodDescriptor xm_X12_installed.y.desc).map (fun d => d.parameters.length) = some 1 := by decide +kernel
theorem xh_X12_isBeaten : xHandle xm_X12_isBeaten.y := ⟨by decide, by decide⟩
theorem xn_X12_isBeaten : (parseMethodDescriptor xm_X12_isBeaten.y.desc).map (fun d => d.parameters.length) = some 2 := by decide +kernel
theorem xh_X12_isCode : xHandle xm_X12_isCode.y := ⟨by decide, by decide⟩
theorem xn_X12_isCode : (parseMethodDescriptor xm_X12_isCode.y.desc).map (fun d => d.parameters.length) = some 1 := by decide +kernel
theorem xh_X12_isOn : xHandle xm_X12_isOn.y := ⟨by decide, by decide⟩
theorem xn_X12_isOn : (parseMethodDescriptor xm_X12_isOn.y.desc).map (fun d => d.parameters.length) = some 1 := by decide +kernel
theorem xh_X12_isSound : xHandle xm_X12_isSound.y := ⟨by decide, by decide⟩
theorem xn_X12_isSound : (parseMethodDescriptor xm_X12_isSound.y.desc).map (fun d => d.parameters.length) = some 0 := by decide +kernel
theorem xh_X12_know : xHandle xm_X12_know.y := ⟨by decide, by decide⟩
theorem xn_X12_know : (parseMethodDescriptor xm_X12_know.y.desc).map (fun d => d.parameters.length) = some 1 := by decide +kernel
theorem xh_X12_knowMet : xHandle xm_X12_knowMet.y := ⟨by decide, by decide⟩
theorem xn_X12_knowMet : (parseMethodDescriptor xm_X12_knowMet.y.desc).map (fun d => d.parameters.length) = some 0 := by decide +kernel
theorem xh_X12_literalAt : xHandle xm_X12_literalAt.y := ⟨by decide, by decide⟩
theorem xn_X12_literalAt : (parseMethodDescriptor xm_X12_literalAt.y.desc).map (fun d => d.parameters.length) = some 2 := by decide +kernel
theorem xh_X12_literalIn : xHandle xm_X12_literalIn.y := ⟨by decide, by decide⟩
theorem xn_X12_literalIn : (parseMethodDescriptor xm_X12_literalIn.y.desc).map (fun d => d.parameters.length) = some 3 := by decide +kernel
theorem xh_X12_lock : xHandle xm_X12_lock.y := ⟨by decide, by decide⟩
theorem xn_X12_lock : (parseMethodDescriptor xm_X12_lock.y.desc).map (fun d => d.parameters.length) = some 1 := by decide +kernel
theorem xh_X12_lockDiffers : xHandle xm_X12_lockDiffers.y := ⟨by decide, by decide⟩
theorem xn_X12_lockDiffers : (parseMethodDescriptor xm_X12_lockDiffers.y.desc).map (fun d => d.parameters.length) = some 2 := by decide +kernel
theorem xh_X12_meanSize : xHandle xm_X12_meanSize.y := ⟨by decide, by decide⟩
theorem xn_X12_meanSize : (parseMethodDescriptor xm_X12_meanSize.y.desc).map (fun d => d.parameters.length) = some 0 := by decide +kernel
theorem xh_X12_mergeLocks : xHandle xm_X12_mergeLocks.y := ⟨by decide, by decide⟩
theorem xn_X12_mergeLocks : (parseMethodDescriptor xm_X12_mergeLocks.y.desc).map (fun d => d.parameters.length) = some 2 := by decide +kernel
theorem xh_X12_merged : xHandle xm_X12_merged.y := ⟨by decide, by decide⟩
theorem xn_X12_merged : (parseMethodDescriptor xm_X12_merged.y.desc).map (fun d => d.parameters.length) = some 2 := by decide +kernel
theorem xh_X12_mirror : xHandle xm_X12_mirror.y := ⟨by decide, by decide⟩
theorem xn_X12_mirror : (parseMethodDescriptor xm_X12_mirror.y.desc).map (fun d => d.parameters.length) = some 0 := by decide +kernel
theorem xh_X12_must : xHandle xm_X12_must.y := ⟨by decide, by decide⟩
theorem xn_X12_must : (parseMethodDescriptor xm_X12_must.y.desc).map (fun d => d.parameters.length) = some 2 := by decide +kernel
theorem xh_X12_need : xHandle xm_X12_need.y := ⟨by decide, by decide⟩
theorem xn_X12_need : (parseMethodDescriptor xm_X12_need.y.desc).map (fun d => d.parameters.length) = some 3 := by decide +kernel
theorem xh_X12_offer : xHandle xm_X12_offer.y := ⟨by decide, by decide⟩
theorem xn_X12_offer : (parseMethodDescriptor xm_X12_offer.y.desc).map (fun d => d.parameters.length) = some 4 := by decide +kernel
theorem xh_X12_option : xHandle xm_X12_option.y := ⟨by decide, by decide⟩
theorem xn_X12_option : (parseMethodDescriptor xm_X12_option.y.desc).map (fun d => d.parameters.length) = some 2 := by decide +kernel
theorem xh_X12_orphans : xHandle xm_X12_orphans.y := ⟨by decide, by decide⟩
theorem xn_X12_orphans : (parseMethodDescriptor xm_X12_orphans.y.desc).map (fun d => d.parameters.length) = some 0 := by decide +kernel
theorem xh_X12_owner : xHandle xm_X12_owner.y := ⟨by decide, by decide⟩
theorem xn_X12_owner : (parseMethodDescriptor xm_X12_owner.y.desc).map (fun d => d.parameters.length) = some 1 := by decide +kernel
theorem xh_X12_pack : xHandle xm_X12_pack.y := ⟨by decide, by decide⟩
theorem xn_X12_pack : (parseMethodDescriptor xm_X12_pack.y.desc).map (fun d => d.parameters.length) = some 0 := by decide +kernel
theorem xh_X12_packsIn : xHandle xm_X12_packsIn.y := ⟨by decide, by decide⟩
theorem xn_X12_packsIn : (parseMethodDescriptor xm_X12_packsIn.y.desc).map (fun d => d.parameters.length) = some 1 := by decide +kernel
theorem xh_X12_pin : xHandle xm_X12_pin.y := ⟨by decide, by decide⟩
theorem xn_X12_pin : (parseMethodDescriptor xm_X12_pin.y.desc).map (fun d => d.parameters.length) = some 1 := by decide +kernel
theorem xh_X12_plan : xHandle xm_X12_plan.y := ⟨by decide, by decide⟩
theorem xn_X12_plan : (parseMethodDescriptor xm_X12_plan.y.desc).map (fun d => d.parameters.length) = some 0 := by decide +kernel
theorem xh_X12_planAt : xHandle xm_X12_planAt.y := ⟨by decide, by decide⟩
theorem xn_X12_planAt : (parseMethodDescriptor xm_X12_planAt.y.desc).map (fun d => d.parameters.length) = some 1 := by decide +kernel
theorem xh_X12_proof : xHandle xm_X12_proof.y := ⟨by decide, by decide⟩
theorem xn_X12_proof : (parseMethodDescriptor xm_X12_proof.y.desc).map (fun d => d.parameters.length) = some 0 := by decide +kernel
theorem xh_X12_proofAt : xHandle xm_X12_proofAt.y := ⟨by decide, by decide⟩
theorem xn_X12_proofAt : (parseMethodDescriptor xm_X12_proofAt.y.desc).map (fun d => d.parameters.length) = some 2 := by decide +kernel
theorem xh_X12_provide : xHandle xm_X12_provide.y := ⟨by decide, by decide⟩
theorem xn_X12_provide : (parseMethodDescriptor xm_X12_provide.y.desc).map (fun d => d.parameters.length) = some 4 := by decide +kernel
theorem xh_X12_quota : xHandle xm_X12_quota.y := ⟨by decide, by decide⟩
theorem xn_X12_quota : (parseMethodDescriptor xm_X12_quota.y.desc).map (fun d => d.parameters.length) = some 1 := by decide +kernel
theorem xh_X12_remember : xHandle xm_X12_remember.y := ⟨by decide, by decide⟩
theorem xn_X12_remember : (parseMethodDescriptor xm_X12_remember.y.desc).map (fun d => d.parameters.length) = some 0 := by decide +kernel
theorem xh_X12_root : xHandle xm_X12_root.y := ⟨by decide, by decide⟩
theorem xn_X12_root : (parseMethodDescriptor xm_X12_root.y.desc).map (fun d => d.parameters.length) = some 1 := by decide +kernel
theorem xh_X12_scriptAt : xHandle xm_X12_scriptAt.y := ⟨by decide, by decide⟩
theorem xn_X12_scriptAt : (parseMethodDescriptor xm_X12_scriptAt.y.desc).map (fun d => d.parameters.length) = some 1 := by decide +kernel
theorem xh_X12_scripts : xHandle xm_X12_scripts.y := ⟨by decide, by decide⟩
theorem xn_X12_scripts : (parseMethodDescriptor xm_X12_scripts.y.desc).map (fun d => d.parameters.length) = some 0 := by decide +kernel
theorem xh_X12_share : xHandle xm_X12_share.y := ⟨by decide, by decide⟩
theorem xn_X12_share : (parseMethodDescriptor xm_X12_share.y.desc).map (fun d => d.parameters.length) = some 0 := by decide +kernel
theorem xh_X12_size : xHandle xm_X12_size.y := ⟨by decide, by decide⟩
theorem xn_X12_size : (parseMethodDescriptor xm_X12_size.y.desc).map (fun d => d.parameters.length) = some 0 := by decide +kernel
theorem xh_X12_solve : xHandle xm_X12_solve.y := ⟨by decide, by decide⟩
theorem xn_X12_solve : (parseMethodDescriptor xm_X12_solve.y.desc).map (fun d => d.parameters.length) = some 1 := by decide +kernel
theorem xh_X12_sumWrong : xHandle xm_X12_sumWrong.y := ⟨by decide, by decide⟩
theorem xn_X12_sumWrong : (parseMethodDescriptor xm_X12_sumWrong.y.desc).map (fun d => d.parameters.length) = some 1 := by decide +kernel
theorem xh_X12_switchOf : xHandle xm_X12_switchOf.y := ⟨by decide, by decide⟩
theorem xn_X12_switchOf : (parseMethodDescriptor xm_X12_switchOf.y.desc).map (fun d => d.parameters.length) = some 1 := by decide +kernel
theorem xh_X12_takeGoal : xHandle xm_X12_takeGoal.y := ⟨by decide, by decide⟩
theorem xn_X12_takeGoal : (parseMethodDescriptor xm_X12_takeGoal.y.desc).map (fun d => d.parameters.length) = some 1 := by decide +kernel
theorem xh_X12_takeLock : xHandle xm_X12_takeLock.y := ⟨by decide, by decide⟩
theorem xn_X12_takeLock : (parseMethodDescriptor xm_X12_takeLock.y.desc).map (fun d => d.parameters.length) = some 1 := by decide +kernel
theorem xh_X12_then : xHandle xm_X12_then.y := ⟨by decide, by decide⟩
theorem xn_X12_then : (parseMethodDescriptor xm_X12_then.y.desc).map (fun d => d.parameters.length) = some 2 := by decide +kernel
theorem xh_X12_undo : xHandle xm_X12_undo.y := ⟨by decide, by decide⟩
theorem xn_X12_undo : (parseMethodDescriptor xm_X12_undo.y.desc).map (fun d => d.parameters.length) = some 0 := by decide +kernel
theorem xh_X12_unwish : xHandle xm_X12_unwish.y := ⟨by decide, by decide⟩
theorem xn_X12_unwish : (parseMethodDescriptor xm_X12_unwish.y.desc).map (fun d => d.parameters.length) = some 1 := by decide +kernel
theorem xh_X12_valueIn : xHandle xm_X12_valueIn.y := ⟨by decide, by decide⟩
theorem xn_X12_valueIn : (parseMethodDescriptor xm_X12_valueIn.y.desc).map (fun d => d.parameters.length) = some 2 := by decide +kernel
theorem xh_X12_version : xHandle xm_X12_version.y := ⟨by decide, by decide⟩
theorem xn_X12_version : (parseMethodDescriptor xm_X12_version.y.desc).map (fun d => d.parameters.length) = some 5 := by decide +kernel
theorem xh_X12_versionAt : xHandle xm_X12_versionAt.y := ⟨by decide, by decide⟩
theorem xn_X12_versionAt : (parseMethodDescriptor xm_X12_versionAt.y.desc).map (fun d => d.parameters.length) = some 2 := by decide +kernel
theorem xh_X12_versionOf : xHandle xm_X12_versionOf.y := ⟨by decide, by decide⟩
theorem xn_X12_versionOf : (parseMethodDescriptor xm_X12_versionOf.y.desc).map (fun d => d.parameters.length) = some 1 := by decide +kernel
theorem xh_X12_versions : xHandle xm_X12_versions.y := ⟨by decide, by decide⟩
theorem xn_X12_versions : (parseMethodDescriptor xm_X12_versions.y.desc).map (fun d => d.parameters.length) = some 1 := by decide +kernel
theorem xh_X12_wish : xHandle xm_X12_wish.y := ⟨by decide, by decide⟩
theorem xn_X12_wish : (parseMethodDescriptor xm_X12_wish.y.desc).map (fun d => d.parameters.length) = some 0 := by decide +kernel
theorem xh_X12_without : xHandle xm_X12_without.y := ⟨by decide, by decide⟩
theorem xn_X12_without : (parseMethodDescriptor xm_X12_without.y.desc).map (fun d => d.parameters.length) = some 1 := by decide +kernel
theorem xh_X13_init : xHandle xm_X13_init.y := ⟨by decide, by decide⟩
theorem xn_X13_init : (parseMethodDescriptor xm_X13_init.y.desc).map (fun d => d.parameters.length) = some 4 := by decide +kernel
theorem xh_X14_add : xHandle xm_X14_add.y := ⟨by decide, by decide⟩
theorem xn_X14_add : (parseMethodDescriptor xm_X14_add.y.desc).map (fun d => d.parameters.length) = some 5 := by decide +kernel
theorem xh_X14_addNeed : xHandle xm_X14_addNeed.y := ⟨by decide, by decide⟩
theorem xn_X14_addNeed : (parseMethodDescriptor xm_X14_addNeed.y.desc).map (fun d => d.parameters.length) = some 5 := by decide +kernel
theorem xh_X14_addPair : xHandle xm_X14_addPair.y := ⟨by decide, by decide⟩
theorem xn_X14_addPair : (parseMethodDescriptor xm_X14_addPair.y.desc).map (fun d => d.parameters.length) = some 2 := by decide +kernel
theorem xh_X14_addRow : xHandle xm_X14_addRow.y := ⟨by decide, by decide⟩
theorem xn_X14_addRow : (parseMethodDescriptor xm_X14_addRow.y.desc).map (fun d => d.parameters.length) = some 4 := by decide +kernel
theorem xh_X14_addSpan : xHandle xm_X14_addSpan.y := ⟨by decide, by decide⟩
theorem xn_X14_addSpan : (parseMethodDescriptor xm_X14_addSpan.y.desc).map (fun d => d.parameters.length) = some 3 := by decide +kernel
theorem xh_X14_append : xHandle xm_X14_append.y := ⟨by decide, by decide⟩
theorem xn_X14_append : (parseMethodDescriptor xm_X14_append.y.desc).map (fun d => d.parameters.length) = some 5 := by decide +kernel
theorem xh_X14_backTo : xHandle xm_X14_backTo.y := ⟨by decide, by decide⟩
theorem xn_X14_backTo : (parseMethodDescriptor xm_X14_backTo.y.desc).map (fun d => d.parameters.length) = some 1 := by decide +kernel
theorem xh_X14_ban : xHandle xm_X14_ban.y := ⟨by decide, by decide⟩
theorem xn_X14_ban : (parseMethodDescriptor xm_X14_ban.y.desc).map (fun d => d.parameters.length) = some 2 := by decide +kernel
theorem xh_X14_because : xHandle xm_X14_because.y := ⟨by decide, by decide⟩
theorem xn_X14_because : (parseMethodDescriptor xm_X14_because.y.desc).map (fun d => d.parameters.length) = some 1 := by decide +kernel
theorem xh_X14_bestPair : xHandle xm_X14_bestPair.y := ⟨by decide, by decide⟩
theorem xn_X14_bestPair : (parseMethodDescriptor xm_X14_bestPair.y.desc).map (fun d => d.parameters.length) = some 0 := by decide +kernel
theorem xh_X14_bit : xHandle xm_X14_bit.y := ⟨by decide, by decide⟩
theorem xn_X14_bit : (parseMethodDescriptor xm_X14_bit.y.desc).map (fun d => d.parameters.length) = some 1 := by decide +kernel
theorem xh_X14_byteOf : xHandle xm_X14_byteOf.y := ⟨by decide, by decide⟩
theorem xn_X14_byteOf : (parseMethodDescriptor xm_X14_byteOf.y.desc).map (fun d => d.parameters.length) = some 6 := by decide +kernel
theorem xh_X14_canHold : xHandle xm_X14_canHold.y := ⟨by decide, by decide⟩
theorem xn_X14_canHold : (parseMethodDescriptor xm_X14_canHold.y.desc).map (fun d => d.parameters.length) = some 2 := by decide +kernel
theorem xh_X14_carryOut : xHandle xm_X14_carryOut.y := ⟨by decide, by decide⟩
theorem xn_X14_carryOut : (parseMethodDescriptor xm_X14_carryOut.y.desc).map (fun d => d.parameters.length) = some 4 := by decide +kernel
theorem xh_X14_changes : xHandle xm_X14_changes.y := ⟨by decide, by decide⟩
theorem xn_X14_changes : (parseMethodDescriptor xm_X14_changes.y.desc).map (fun d => d.parameters.length) = some 0 := by decide +kernel
theorem xh_X14_checksum : xHandle xm_X14_checksum.y := ⟨by decide, by decide⟩
theorem xn_X14_checksum : (parseMethodDescriptor xm_X14_checksum.y.desc).map (fun d => d.parameters.length) = some 0 := by decide +kernel
theorem xh_X14_clashes : xHandle xm_X14_clashes.y := ⟨by decide, by decide⟩
theorem xn_X14_clashes : (parseMethodDescriptor xm_X14_clashes.y.desc).map (fun d => d.parameters.length) = some 0 := by decide +kernel
theorem xh_X14_clearTape : xHandle xm_X14_clearTape.y := ⟨by decide, by decide⟩
theorem xn_X14_clearTape : (parseMethodDescriptor xm_X14_clearTape.y.desc).map (fun d => d.parameters.length) = some 0 := by decide +kernel
theorem xh_X14_codeIn : xHandle xm_X14_codeIn.y := ⟨by decide, by decide⟩
theorem xn_X14_codeIn : (parseMethodDescriptor xm_X14_codeIn.y.desc).map (fun d => d.parameters.length) = some 2 := by decide +kernel
theorem xh_X14_coming : xHandle xm_X14_coming.y := ⟨by decide, by decide⟩
theorem xn_X14_coming : (parseMethodDescriptor xm_X14_coming.y.desc).map (fun d => d.parameters.length) = some 2 := by decide +kernel
theorem xh_X14_core : xHandle xm_X14_core.y := ⟨by decide, by decide⟩
theorem xn_X14_core : (parseMethodDescriptor xm_X14_core.y.desc).map (fun d => d.parameters.length) = some 0 := by decide +kernel
theorem xh_X14_coreAt : xHandle xm_X14_coreAt.y := ⟨by decide, by decide⟩
theorem xn_X14_coreAt : (parseMethodDescriptor xm_X14_coreAt.y.desc).map (fun d => d.parameters.length) = some 2 := by decide +kernel
theorem xh_X14_coreErrors : xHandle xm_X14_coreErrors.y := ⟨by decide, by decide⟩
theorem xn_X14_coreErrors : (parseMethodDescriptor xm_X14_coreErrors.y.desc).map (fun d => d.parameters.length) = some 0 := by decide +kernel
theorem xh_X14_count : xHandle xm_X14_count.y := ⟨by decide, by decide⟩
theorem xn_X14_count : (parseMethodDescriptor xm_X14_count.y.desc).map (fun d => d.parameters.length) = some 1 := by decide +kernel
theorem xh_X14_differences : xHandle xm_X14_differences.y := ⟨by decide, by decide⟩
theorem xn_X14_differences : (parseMethodDescriptor xm_X14_differences.y.desc).map (fun d => d.parameters.length) = some 2 := by decide +kernel
theorem xh_X14_entrySet : xHandle xm_X14_entrySet.y := ⟨by decide, by decide⟩
theorem xn_X14_entrySet : (parseMethodDescriptor xm_X14_entrySet.y.desc).map (fun d => d.parameters.length) = some 1 := by decide +kernel
theorem xh_X14_errorPosition : xHandle xm_X14_errorPosition.y := ⟨by decide, by decide⟩
theorem xn_X14_errorPosition : (parseMethodDescriptor xm_X14_errorPosition.y.desc).map (fun d => d.parameters.length) = some 0 := by decide +kernel
theorem xh_X14_errors : xHandle xm_X14_errors.y := ⟨by decide, by decide⟩
theorem xn_X14_errors : (parseMethodDescriptor xm_X14_errors.y.desc).map (fun d => d.parameters.length) = some 0 := by decide +kernel
theorem xh_X14_fails : xHandle xm_X14_fails.y := ⟨by decide, by decide⟩
theorem xn_X14_fails : (parseMethodDescriptor xm_X14_fails.y.desc).map (fun d => d.parameters.length) = some 3 := by decide +kernel
theorem xh_X14_failure : xHandle xm_X14_failure.y := ⟨by decide, by decide⟩
theorem xn_X14_failure : (parseMethodDescriptor xm_X14_failure.y.desc).map (fun d => d.parameters.length) = some 1 := by decide +kernel
theorem xh_X14_far : xHandle xm_X14_far.y := ⟨by decide, by decide⟩
theorem xn_X14_far : (parseMethodDescriptor xm_X14_far.y.desc).map (fun d => d.parameters.length) = some 1 := by decide +kernel
theorem xh_X14_fetchAt : xHandle xm_X14_fetchAt.y := ⟨by decide, by decide⟩
theorem xn_X14_fetchAt : (parseMethodDescriptor xm_X14_fetchAt.y.desc).map (fun d => d.parameters.length) = some 2 := by decide +kernel
theorem xh_X14_fetches : xHandle xm_X14_fetches.y := ⟨by decide, by decide⟩
theorem xn_X14_fetches : (parseMethodDescriptor xm_X14_fetches.y.desc).map (fun d => d.parameters.length) = some 0 := by decide +kernel
theorem xh_X14_findCore : xHandle xm_X14_findCore.y := ⟨by decide, by decide⟩
theorem xn_X14_findCore : (parseMethodDescriptor xm_X14_findCore.y.desc).map (fun d => d.parameters.length) = some 0 := by decide +kernel
theorem xh_X14_findProof : xHandle xm_X14_findProof.y := ⟨by decide, by decide⟩
theorem xn_X14_findProof : (parseMethodDescriptor xm_X14_findProof.y.desc).map (fun d => d.parameters.length) = some 0 := by decide +kernel
theorem xh_X14_findRing : xHandle xm_X14_findRing.y := ⟨by decide, by decide⟩
theorem xn_X14_findRing : (parseMethodDescriptor xm_X14_findRing.y.desc).map (fun d => d.parameters.length) = some 0 := by decide +kernel
theorem xh_X14_findScripts : xHandle xm_X14_findScripts.y := ⟨by decide, by decide⟩
theorem xn_X14_findScripts : (parseMethodDescriptor xm_X14_findScripts.y.desc).map (fun d => d.parameters.length) = some 1 := by decide +kernel
theorem xh_X14_findSteps : xHandle xm_X14_findSteps.y := ⟨by decide, by decide⟩
theorem xn_X14_findSteps : (parseMethodDescriptor xm_X14_findSteps.y.desc).map (fun d => d.parameters.length) = some 2 := by decide +kernel
theorem xh_X14_firstSet : xHandle xm_X14_firstSet.y := ⟨by decide, by decide⟩
theorem xn_X14_firstSet : (parseMethodDescriptor xm_X14_firstSet.y.desc).map (fun d => d.parameters.length) = some 0 := by decide +kernel
theorem xh_X14_fitsAny : xHandle xm_X14_fitsAny.y := ⟨by decide, by decide⟩
theorem xn_X14_fitsAny : (parseMethodDescriptor xm_X14_fitsAny.y.desc).map (fun d => d.parameters.length) = some 0 := by decide +kernel
theorem xh_X14_fitsHere : xHandle xm_X14_fitsHere.y := ⟨by decide, by decide⟩
theorem xn_X14_fitsHere : (parseMethodDescriptor xm_X14_fitsHere.y.desc).map (fun d => d.parameters.length) = some 1 := by decide +kernel
theorem xh_X14_fitting : xHandle xm_X14_fitting.y := ⟨by decide, by decide⟩
theorem xn_X14_fitting : (parseMethodDescriptor xm_X14_fitting.y.desc).map (fun d => d.parameters.length) = some 0 := by decide +kernel
theorem xh_X14_found : xHandle xm_X14_found.y := ⟨by decide, by decide⟩
theorem xn_X14_found : (parseMethodDescriptor xm_X14_found.y.desc).map (fun d => d.parameters.length) = some 1 := by decide +kernel
theorem xh_X14_goThrough : xHandle xm_X14_goThrough.y := ⟨by decide, by decide⟩
theorem xn_X14_goThrough : (parseMethodDescriptor xm_X14_goThrough.y.desc).map (fun d => d.parameters.length) = some 2 := by decide +kernel
theorem xh_X14_goalSet : xHandle xm_X14_goalSet.y := ⟨by decide, by decide⟩
theorem xn_X14_goalSet : (parseMethodDescriptor xm_X14_goalSet.y.desc).map (fun d => d.parameters.length) = some 0 := by decide +kernel
theorem xh_X14_goesWrong : xHandle xm_X14_goesWrong.y := ⟨by decide, by decide⟩
theorem xn_X14_goesWrong : (parseMethodDescriptor xm_X14_goesWrong.y.desc).map (fun d => d.parameters.length) = some 3 := by decide +kernel
theorem xh_X14_hasAll : xHandle xm_X14_hasAll.y := ⟨by decide, by decide⟩
theorem xn_X14_hasAll : (parseMethodDescriptor xm_X14_hasAll.y.desc).map (fun d => d.parameters.length) = some 4 := by decide +kernel
theorem xh_X14_hasNeeds : xHandle xm_X14_hasNeeds.y := ⟨by decide, by decide⟩
theorem xn_X14_hasNeeds : (parseMethodDescriptor xm_X14_hasNeeds.y.desc).map (fun d => d.parameters.length) = some 2 := by decide +kernel
theorem xh_X14_hasOption : xHandle xm_X14_hasOption.y := ⟨by decide, by decide⟩
theorem xn_X14_hasOption : (parseMethodDescriptor xm_X14_hasOption.y.desc).map (fun d => d.parameters.length) = some 1 := by decide +kernel
theorem xh_X14_hold : xHandle xm_X14_hold.y := ⟨by decide, by decide⟩
theorem xn_X14_hold : (parseMethodDescriptor xm_X14_hold.y.desc).map (fun d => d.parameters.length) = some 2 := by decide +kernel
theorem xh_X14_inRange : xHandle xm_X14_inRange.y := ⟨by decide, by decide⟩
theorem xn_X14_inRange : (parseMethodDescriptor xm_X14_inRange.y.desc).map (fun d => d.parameters.length) = some 1 := by decide +kernel
theorem xh_X14_init : xHandle xm_X14_init.y := ⟨by decide, by decide⟩
theorem xn_X14_init : (parseMethodDescriptor xm_X14_init.y.desc).map (fun d => d.parameters.length) = some 0 := by decide +kernel
theorem xh_X14_install : xHandle xm_X14_install.y := ⟨by decide, by decide⟩
theorem xn_X14_install : (parseMethodDescriptor xm_X14_install.y.desc).map (fun d => d.parameters.length) = some 0 := by decide +kernel
theorem xh_X14_installed : xHandle xm_X14_installed.y := ⟨by decide, by decide⟩
theorem xn_X14_installed : (parseMethodDescriptor xm_X14_installed.y.desc).map (fun d => d.parameters.length) = some 1 := by decide +kernel
theorem xh_X14_installedSet : xHandle xm_X14_installedSet.y := ⟨by decide, by decide⟩
theorem xn_X14_installedSet : (parseMethodDescriptor xm_X14_installedSet.y.desc).map (fun d => d.parameters.length) = some 0 := by decide +kernel
theorem xh_X14_isAhead : xHandle xm_X14_isAhead.y := ⟨by decide, by decide⟩
theorem xn_X14_isAhead : (parseMethodDescriptor xm_X14_isAhead.y.desc).map (fun d => d.parameters.length) = some 2 := by decide +kernel
theorem xh_X14_isAheadOf : xHandle xm_X14_isAheadOf.y := ⟨by decide, by decide⟩
theorem xn_X14_isAheadOf : (parseMethodDescriptor xm_X14_isAheadOf.y.desc).map (fun d => d.parameters.length) = some 2 := by decide +kernel
theorem xh_X14_isCode : xHandle xm_X14_isCode.y := ⟨by decide, by decide⟩
theorem xn_X14_isCode : (parseMethodDescriptor xm_X14_isCode.y.desc).map (fun d => d.parameters.length) = some 1 := by decide +kernel
theorem xh_X14_isDigitAt : xHandle xm_X14_isDigitAt.y := ⟨by decide, by decide⟩
theorem xn_X14_isDigitAt : (parseMethodDescriptor xm_X14_isDigitAt.y.desc).map (fun d => d.parameters.length) = some 1 := by decide +kernel
theorem xh_X14_isEnd : xHandle xm_X14_isEnd.y := ⟨by decide, by decide⟩
theorem xn_X14_isEnd : (parseMethodDescriptor xm_X14_isEnd.y.desc).map (fun d => d.parameters.length) = some 0 := by decide +kernel
theorem xh_X14_isHeld : xHandle xm_X14_isHeld.y := ⟨by decide, by decide⟩
theorem xn_X14_isHeld : (parseMethodDescriptor xm_X14_isHeld.y.desc).map (fun d => d.parameters.length) = some 1 := by decide +kernel
theorem xh_X14_isInstalled : xHandle xm_X14_isInstalled.y := ⟨by decide, by decide⟩
theorem xn_X14_isInstalled : (parseMethodDescriptor xm_X14_isInstalled.y.desc).map (fun d => d.parameters.length) = some 1 := by decide +kernel
theorem xh_X14_isKept : xHandle xm_X14_isKept.y := ⟨by decide, by decide⟩
theorem xn_X14_isKept : (parseMethodDescriptor xm_X14_isKept.y.desc).map (fun d => d.parameters.length) = some 1 := by decide +kernel
theorem xh_X14_isLike : xHandle xm_X14_isLike.y := ⟨by decide, by decide⟩
theorem xn_X14_isLike : (parseMethodDescriptor xm_X14_isLike.y.desc).map (fun d => d.parameters.length) = some 2 := by decide +kernel
theorem xh_X14_isLock : xHandle xm_X14_isLock.y := ⟨by decide, by decide⟩
theorem xn_X14_isLock : (parseMethodDescriptor xm_X14_isLock.y.desc).map (fun d => d.parameters.length) = some 1 := by decide +kernel
theorem xh_X14_isMet : xHandle xm_X14_isMet.y := ⟨by decide, by decide⟩
theorem xn_X14_isMet : (parseMethodDescriptor xm_X14_isMet.y.desc).map (fun d => d.parameters.length) = some 2 := by decide +kernel
theorem xh_X14_isMirror : xHandle xm_X14_isMirror.y := ⟨by decide, by decide⟩
theorem xn_X14_isMirror : (parseMethodDescriptor xm_X14_isMirror.y.desc).map (fun d => d.parameters.length) = some 1 := by decide +kernel
theorem xh_X14_isOn : xHandle xm_X14_isOn.y := ⟨by decide, by decide⟩
theorem xn_X14_isOn : (parseMethodDescriptor xm_X14_isOn.y.desc).map (fun d => d.parameters.length) = some 1 := by decide +kernel
theorem xh_X14_isOnIn : xHandle xm_X14_isOnIn.y := ⟨by decide, by decide⟩
theorem xn_X14_isOnIn : (parseMethodDescriptor xm_X14_isOnIn.y.desc).map (fun d => d.parameters.length) = some 2 := by decide +kernel
theorem xh_X14_isPack : xHandle xm_X14_isPack.y := ⟨by decide, by decide⟩
theorem xn_X14_isPack : (parseMethodDescriptor xm_X14_isPack.y.desc).map (fun d => d.parameters.length) = some 1 := by decide +kernel
theorem xh_X14_isSign : xHandle xm_X14_isSign.y := ⟨by decide, by decide⟩
theorem xn_X14_isSign : (parseMethodDescriptor xm_X14_isSign.y.desc).map (fun d => d.parameters.length) = some 1 := by decide +kernel
theorem xh_X14_isSound : xHandle xm_X14_isSound.y := ⟨by decide, by decide⟩
theorem xn_X14_isSound : (parseMethodDescriptor xm_X14_isSound.y.desc).map (fun d => d.parameters.length) = some 0 := by decide +kernel
theorem xh_X14_isSoundSet : xHandle xm_X14_isSoundSet.y := ⟨by decide, by decide⟩
theorem xn_X14_isSoundSet : (parseMethodDescriptor xm_X14_isSoundSet.y.desc).map (fun d => d.parameters.length) = some 1 := by decide +kernel
theorem xh_X14_isSpanHere : xHandle xm_X14_isSpanHere.y := ⟨by decide, by decide⟩
theorem xn_X14_isSpanHere : (parseMethodDescriptor xm_X14_isSpanHere.y.desc).map (fun d => d.parameters.length) = some 0 := by decide +kernel
theorem xh_X14_isTrial : xHandle xm_X14_isTrial.y := ⟨by decide, by decide⟩
theorem xn_X14_isTrial : (parseMethodDescriptor xm_X14_isTrial.y.desc).map (fun d => d.parameters.length) = some 1 := by decide +kernel
theorem xh_X14_isVersion : xHandle xm_X14_isVersion.y := ⟨by decide, by decide⟩
theorem xn_X14_isVersion : (parseMethodDescriptor xm_X14_isVersion.y.desc).map (fun d => d.parameters.length) = some 2 := by decide +kernel
theorem xh_X14_isWanted : xHandle xm_X14_isWanted.y := ⟨by decide, by decide⟩
theorem xn_X14_isWanted : (parseMethodDescriptor xm_X14_isWanted.y.desc).map (fun d => d.parameters.length) = some 3 := by decide +kernel
theorem xh_X14_keep : xHandle xm_X14_keep.y := ⟨by decide, by decide⟩
theorem xn_X14_keep : (parseMethodDescriptor xm_X14_keep.y.desc).map (fun d => d.parameters.length) = some 1 := by decide +kernel
theorem xh_X14_laySet : xHandle xm_X14_laySet.y := ⟨by decide, by decide⟩
theorem xn_X14_laySet : (parseMethodDescriptor xm_X14_laySet.y.desc).map (fun d => d.parameters.length) = some 2 := by decide +kernel
theorem xh_X14_leaveOut : xHandle xm_X14_leaveOut.y := ⟨by decide, by decide⟩
theorem xn_X14_leaveOut : (parseMethodDescriptor xm_X14_leaveOut.y.desc).map (fun d => d.parameters.length) = some 0 := by decide +kernel
theorem xh_X14_literalAt : xHandle xm_X14_literalAt.y := ⟨by decide, by decide⟩
theorem xn_X14_literalAt : (parseMethodDescriptor xm_X14_literalAt.y.desc).map (fun d => d.parameters.length) = some 2 := by decide +kernel
theorem xh_X14_lock : xHandle xm_X14_lock.y := ⟨by decide, by decide⟩
theorem xn_X14_lock : (parseMethodDescriptor xm_X14_lock.y.desc).map (fun d => d.parameters.length) = some 1 := by decide +kernel
theorem xh_X14_lockDiffers : xHandle xm_X14_lockDiffers.y := ⟨by decide, by decide⟩
theorem xn_X14_lockDiffers : (parseMethodDescriptor xm_X14_lockDiffers.y.desc).map (fun d => d.parameters.length) = some 2 := by decide +kernel
theorem xh_X14_manyIn : xHandle xm_X14_manyIn.y := ⟨by decide, by decide⟩
theorem xn_X14_manyIn : (parseMethodDescriptor xm_X14_manyIn.y.desc).map (fun d => d.parameters.length) = some 1 := by decide +kernel
theorem xh_X14_meanSize : xHandle xm_X14_meanSize.y := ⟨by decide, by decide⟩
theorem xn_X14_meanSize : (parseMethodDescriptor xm_X14_meanSize.y.desc).map (fun d => d.parameters.length) = some 0 := by decide +kernel
theorem xh_X14_meets : xHandle xm_X14_meets.y := ⟨by decide, by decide⟩
theorem xn_X14_meets : (parseMethodDescriptor xm_X14_meets.y.desc).map (fun d => d.parameters.length) = some 2 := by decide +kernel
theorem xh_X14_meetsRange : xHandle xm_X14_meetsRange.y := ⟨by decide, by decide⟩
theorem xn_X14_meetsRange : (parseMethodDescriptor xm_X14_meetsRange.y.desc).map (fun d => d.parameters.length) = some 3 := by decide +kernel
theorem xh_X14_meetsSpan : xHandle xm_X14_meetsSpan.y := ⟨by decide, by decide⟩
theorem xn_X14_meetsSpan : (parseMethodDescriptor xm_X14_meetsSpan.y.desc).map (fun d => d.parameters.length) = some 4 := by decide +kernel
theorem xh_X14_mergeLocks : xHandle xm_X14_mergeLocks.y := ⟨by decide, by decide⟩
theorem xn_X14_mergeLocks : (parseMethodDescriptor xm_X14_mergeLocks.y.desc).map (fun d => d.parameters.length) = some 2 := by decide +kernel
theorem xh_X14_mirror : xHandle xm_X14_mirror.y := ⟨by decide, by decide⟩
theorem xn_X14_mirror : (parseMethodDescriptor xm_X14_mirror.y.desc).map (fun d => d.parameters.length) = some 0 := by decide +kernel
theorem xh_X14_mirrorFor : xHandle xm_X14_mirrorFor.y := ⟨by decide, by decide⟩
theorem xn_X14_mirrorFor : (parseMethodDescriptor xm_X14_mirrorFor.y.desc).map (fun d => d.parameters.length) = some 3 := by decide +kernel
theorem xh_X14_must : xHandle xm_X14_must.y := ⟨by decide, by decide⟩
theorem xn_X14_must : (parseMethodDescriptor xm_X14_must.y.desc).map (fun d => d.parameters.length) = some 2 := by decide +kernel
theorem xh_X14_need : xHandle xm_X14_need.y := ⟨by decide, by decide⟩
theorem xn_X14_need : (parseMethodDescriptor xm_X14_need.y.desc).map (fun d => d.parameters.length) = some 3 := by decide +kernel
theorem xh_X14_next : xHandle xm_X14_next.y := ⟨by decide, by decide⟩
theorem xn_X14_next : (parseMethodDescriptor xm_X14_next.y.desc).map (fun d => d.parameters.length) = some 0 := by decide +kernel
theorem xh_X14_offer : xHandle xm_X14_offer.y := ⟨by decide, by decide⟩
theorem xn_X14_offer : (parseMethodDescriptor xm_X14_offer.y.desc).map (fun d => d.parameters.length) = some 4 := by decide +kernel
theorem xh_X14_offered : xHandle xm_X14_offered.y := ⟨by decide, by decide⟩
theorem xn_X14_offered : (parseMethodDescriptor xm_X14_offered.y.desc).map (fun d => d.parameters.length) = some 2 := by decide +kernel
theorem xh_X14_option : xHandle xm_X14_option.y := ⟨by decide, by decide⟩
theorem xn_X14_option : (parseMethodDescriptor xm_X14_option.y.desc).map (fun d => d.parameters.length) = some 2 := by decide +kernel
theorem xh_X14_optionBit : xHandle xm_X14_optionBit.y := ⟨by decide, by decide⟩
theorem xn_X14_optionBit : (parseMethodDescriptor xm_X14_optionBit.y.desc).map (fun d => d.parameters.length) = some 1 := by decide +kernel
theorem xh_X14_order : xHandle xm_X14_order.y := ⟨by decide, by decide⟩
theorem xn_X14_order : (parseMethodDescriptor xm_X14_order.y.desc).map (fun d => d.parameters.length) = some 0 := by decide +kernel
theorem xh_X14_orphans : xHandle xm_X14_orphans.y := ⟨by decide, by decide⟩
theorem xn_X14_orphans : (parseMethodDescriptor xm_X14_orphans.y.desc).map (fun d => d.parameters.length) = some 0 := by decide +kernel
theorem xh_X14_owner : xHandle xm_X14_owner.y := ⟨by decide, by decide⟩
theorem xn_X14_owner : (parseMethodDescriptor xm_X14_owner.y.desc).map (fun d => d.parameters.length) = some 1 := by decide +kernel
theorem xh_X14_pack : xHandle xm_X14_pack.y := ⟨by decide, by decide⟩
theorem xn_X14_pack : (parseMethodDescriptor xm_X14_pack.y.desc).map (fun d => d.parameters.length) = some 0 := by decide +kernel
theorem xh_X14_pin : xHandle xm_X14_pin.y := ⟨by decide, by decide⟩
theorem xn_X14_pin : (parseMethodDescriptor xm_X14_pin.y.desc).map (fun d => d.parameters.length) = some 1 := by decide +kernel
theorem xh_X14_plan : xHandle xm_X14_plan.y := ⟨by decide, by decide⟩
theorem xn_X14_plan : (parseMethodDescriptor xm_X14_plan.y.desc).map (fun d => d.parameters.length) = some 0 := by decide +kernel
theorem xh_X14_planAt : xHandle xm_X14_planAt.y := ⟨by decide, by decide⟩
theorem xn_X14_planAt : (parseMethodDescriptor xm_X14_planAt.y.desc).map (fun d => d.parameters.length) = some 1 := by decide +kernel
theorem xh_X14_proof : xHandle xm_X14_proof.y := ⟨by decide, by decide⟩
theorem xn_X14_proof : (parseMethodDescriptor xm_X14_proof.y.desc).map (fun d => d.parameters.length) = some 0 := by decide +kernel
theorem xh_X14_proofAt : xHandle xm_X14_proofAt.y := ⟨by decide, by decide⟩
theorem xn_X14_proofAt : (parseMethodDescriptor xm_X14_proofAt.y.desc).map (fun d => d.parameters.length) = some 2 := by decide +kernel
theorem xh_X14_proofErrors : xHandle xm_X14_proofErrors.y := ⟨by decide, by decide⟩
theorem xn_X14_proofErrors : (parseMethodDescriptor xm_X14_proofErrors.y.desc).map (fun d => d.parameters.length) = some 0 := by decide +kernel
theorem xh_X14_provide : xHandle xm_X14_provide.y := ⟨by decide, by decide⟩
theorem xn_X14_provide : (parseMethodDescriptor xm_X14_provide.y.desc).map (fun d => d.parameters.length) = some 4 := by decide +kernel
theorem xh_X14_put : xHandle xm_X14_put.y := ⟨by decide, by decide⟩
theorem xn_X14_put : (parseMethodDescriptor xm_X14_put.y.desc).map (fun d => d.parameters.length) = some 3 := by decide +kernel
theorem xh_X14_putGoal : xHandle xm_X14_putGoal.y := ⟨by decide, by decide⟩
theorem xn_X14_putGoal : (parseMethodDescriptor xm_X14_putGoal.y.desc).map (fun d => d.parameters.length) = some 1 := by decide +kernel
theorem xh_X14_putRoot : xHandle xm_X14_putRoot.y := ⟨by decide, by decide⟩
theorem xn_X14_putRoot : (parseMethodDescriptor xm_X14_putRoot.y.desc).map (fun d => d.parameters.length) = some 2 := by decide +kernel
theorem xh_X14_quota : xHandle xm_X14_quota.y := ⟨by decide, by decide⟩
theorem xn_X14_quota : (parseMethodDescriptor xm_X14_quota.y.desc).map (fun d => d.parameters.length) = some 1 := by decide +kernel
theorem xh_X14_reach : xHandle xm_X14_reach.y := ⟨by decide, by decide⟩
theorem xn_X14_reach : (parseMethodDescriptor xm_X14_reach.y.desc).map (fun d => d.parameters.length) = some 1 := by decide +kernel
theorem xh_X14_readAtom : xHandle xm_X14_readAtom.y := ⟨by decide, by decide⟩
theorem xn_X14_readAtom : (parseMethodDescriptor xm_X14_readAtom.y.desc).map (fun d => d.parameters.length) = some 0 := by decide +kernel
theorem xh_X14_readBan : xHandle xm_X14_readBan.y := ⟨by decide, by decide⟩
theorem xn_X14_readBan : (parseMethodDescriptor xm_X14_readBan.y.desc).map (fun d => d.parameters.length) = some 0 := by decide +kernel
theorem xh_X14_readLetter : xHandle xm_X14_readLetter.y := ⟨by decide, by decide⟩
theorem xn_X14_readLetter : (parseMethodDescriptor xm_X14_readLetter.y.desc).map (fun d => d.parameters.length) = some 0 := by decide +kernel
theorem xh_X14_readNeed : xHandle xm_X14_readNeed.y := ⟨by decide, by decide⟩
theorem xn_X14_readNeed : (parseMethodDescriptor xm_X14_readNeed.y.desc).map (fun d => d.parameters.length) = some 0 := by decide +kernel
theorem xh_X14_readRange : xHandle xm_X14_readRange.y := ⟨by decide, by decide⟩
theorem xn_X14_readRange : (parseMethodDescriptor xm_X14_readRange.y.desc).map (fun d => d.parameters.length) = some 0 := by decide +kernel
theorem xh_X14_readRangeOf : xHandle xm_X14_readRangeOf.y := ⟨by decide, by decide⟩
theorem xn_X14_readRangeOf : (parseMethodDescriptor xm_X14_readRangeOf.y.desc).map (fun d => d.parameters.length) = some 1 := by decide +kernel
theorem xh_X14_readSpan : xHandle xm_X14_readSpan.y := ⟨by decide, by decide⟩
theorem xn_X14_readSpan : (parseMethodDescriptor xm_X14_readSpan.y.desc).map (fun d => d.parameters.length) = some 0 := by decide +kernel
theorem xh_X14_readVersion : xHandle xm_X14_readVersion.y := ⟨by decide, by decide⟩
theorem xn_X14_readVersion : (parseMethodDescriptor xm_X14_readVersion.y.desc).map (fun d => d.parameters.length) = some 0 := by decide +kernel
theorem xh_X14_record : xHandle xm_X14_record.y := ⟨by decide, by decide⟩
theorem xn_X14_record : (parseMethodDescriptor xm_X14_record.y.desc).map (fun d => d.parameters.length) = some 0 := by decide +kernel
theorem xh_X14_refused : xHandle xm_X14_refused.y := ⟨by decide, by decide⟩
theorem xn_X14_refused : (parseMethodDescriptor xm_X14_refused.y.desc).map (fun d => d.parameters.length) = some 2 := by decide +kernel
theorem xh_X14_root : xHandle xm_X14_root.y := ⟨by decide, by decide⟩
theorem xn_X14_root : (parseMethodDescriptor xm_X14_root.y.desc).map (fun d => d.parameters.length) = some 1 := by decide +kernel
theorem xh_X14_rootAt : xHandle xm_X14_rootAt.y := ⟨by decide, by decide⟩
theorem xn_X14_rootAt : (parseMethodDescriptor xm_X14_rootAt.y.desc).map (fun d => d.parameters.length) = some 1 := by decide +kernel
theorem xh_X14_scriptAt : xHandle xm_X14_scriptAt.y := ⟨by decide, by decide⟩
theorem xn_X14_scriptAt : (parseMethodDescriptor xm_X14_scriptAt.y.desc).map (fun d => d.parameters.length) = some 1 := by decide +kernel
theorem xh_X14_scripts : xHandle xm_X14_scripts.y := ⟨by decide, by decide⟩
theorem xn_X14_scripts : (parseMethodDescriptor xm_X14_scripts.y.desc).map (fun d => d.parameters.length) = some 0 := by decide +kernel
theorem xh_X14_search : xHandle xm_X14_search.y := ⟨by decide, by decide⟩
theorem xn_X14_search : (parseMethodDescriptor xm_X14_search.y.desc).map (fun d => d.parameters.length) = some 2 := by decide +kernel
theorem xh_X14_setAt : xHandle xm_X14_setAt.y := ⟨by decide, by decide⟩
theorem xn_X14_setAt : (parseMethodDescriptor xm_X14_setAt.y.desc).map (fun d => d.parameters.length) = some 1 := by decide +kernel
theorem xh_X14_setMany : xHandle xm_X14_setMany.y := ⟨by decide, by decide⟩
theorem xn_X14_setMany : (parseMethodDescriptor xm_X14_setMany.y.desc).map (fun d => d.parameters.length) = some 0 := by decide +kernel
theorem xh_X14_share : xHandle xm_X14_share.y := ⟨by decide, by decide⟩
theorem xn_X14_share : (parseMethodDescriptor xm_X14_share.y.desc).map (fun d => d.parameters.length) = some 0 := by decide +kernel
theorem xh_X14_size : xHandle xm_X14_size.y := ⟨by decide, by decide⟩
theorem xn_X14_size : (parseMethodDescriptor xm_X14_size.y.desc).map (fun d => d.parameters.length) = some 0 := by decide +kernel
theorem xh_X14_sizeOf : xHandle xm_X14_sizeOf.y := ⟨by decide, by decide⟩
theorem xn_X14_sizeOf : (parseMethodDescriptor xm_X14_sizeOf.y.desc).map (fun d => d.parameters.length) = some 1 := by decide +kernel
theorem xh_X14_slotIn : xHandle xm_X14_slotIn.y := ⟨by decide, by decide⟩
theorem xn_X14_slotIn : (parseMethodDescriptor xm_X14_slotIn.y.desc).map (fun d => d.parameters.length) = some 2 := by decide +kernel
theorem xh_X14_slotOf : xHandle xm_X14_slotOf.y := ⟨by decide, by decide⟩
theorem xn_X14_slotOf : (parseMethodDescriptor xm_X14_slotOf.y.desc).map (fun d => d.parameters.length) = some 2 := by decide +kernel
theorem xh_X14_solve : xHandle xm_X14_solve.y := ⟨by decide, by decide⟩
theorem xn_X14_solve : (parseMethodDescriptor xm_X14_solve.y.desc).map (fun d => d.parameters.length) = some 1 := by decide +kernel
theorem xh_X14_sort : xHandle xm_X14_sort.y := ⟨by decide, by decide⟩
theorem xn_X14_sort : (parseMethodDescriptor xm_X14_sort.y.desc).map (fun d => d.parameters.length) = some 1 := by decide +kernel
theorem xh_X14_startText : xHandle xm_X14_startText.y := ⟨by decide, by decide⟩
theorem xn_X14_startText : (parseMethodDescriptor xm_X14_startText.y.desc).map (fun d => d.parameters.length) = some 0 := by decide +kernel
theorem xh_X14_sumWrong : xHandle xm_X14_sumWrong.y := ⟨by decide, by decide⟩
theorem xn_X14_sumWrong : (parseMethodDescriptor xm_X14_sumWrong.y.desc).map (fun d => d.parameters.length) = some 1 := by decide +kernel
theorem xh_X14_surelyChanged : xHandle xm_X14_surelyChanged.y := ⟨by decide, by decide⟩
theorem xn_X14_surelyChanged : (parseMethodDescriptor xm_X14_surelyChanged.y.desc).map (fun d => d.parameters.length) = some 2 := by decide +kernel
theorem xh_X14_takeLock : xHandle xm_X14_takeLock.y := ⟨by decide, by decide⟩
theorem xn_X14_takeLock : (parseMethodDescriptor xm_X14_takeLock.y.desc).map (fun d => d.parameters.length) = some 1 := by decide +kernel
theorem xh_X14_taken : xHandle xm_X14_taken.y := ⟨by decide, by decide⟩
theorem xn_X14_taken : (parseMethodDescriptor xm_X14_taken.y.desc).map (fun d => d.parameters.length) = some 2 := by decide +kernel
theorem xh_X14_tellClauses : xHandle xm_X14_tellClauses.y := ⟨by decide, by decide⟩
theorem xn_X14_tellClauses : (parseMethodDescriptor xm_X14_tellClauses.y.desc).map (fun d => d.parameters.length) = some 0 := by decide +kernel
theorem xh_X14_tellOf : xHandle xm_X14_tellOf.y := ⟨by decide, by decide⟩
theorem xn_X14_tellOf : (parseMethodDescriptor xm_X14_tellOf.y.desc).map (fun d => d.parameters.length) = some 1 := by decide +kernel
theorem xh_X14_then : xHandle xm_X14_then.y := ⟨by decide, by decide⟩
theorem xn_X14_then : (parseMethodDescriptor xm_X14_then.y.desc).map (fun d => d.parameters.length) = some 2 := by decide +kernel
theorem xh_X14_thrown : xHandle xm_X14_thrown.y := ⟨by decide, by decide⟩
theorem xn_X14_thrown : (parseMethodDescriptor xm_X14_thrown.y.desc).map (fun d => d.parameters.length) = some 0 := by decide +kernel
theorem xh_X14_undo : xHandle xm_X14_undo.y := ⟨by decide, by decide⟩
theorem xn_X14_undo : (parseMethodDescriptor xm_X14_undo.y.desc).map (fun d => d.parameters.length) = some 0 := by decide +kernel
theorem xh_X14_unwish : xHandle xm_X14_unwish.y := ⟨by decide, by decide⟩
theorem xn_X14_unwish : (parseMethodDescriptor xm_X14_unwish.y.desc).map (fun d => d.parameters.length) = some 1 := by decide +kernel
theorem xh_X14_ver : xHandle xm_X14_ver.y := ⟨by decide, by decide⟩
theorem xn_X14_ver : (parseMethodDescriptor xm_X14_ver.y.desc).map (fun d => d.parameters.length) = some 2 := by decide +kernel
theorem xh_X14_version : xHandle xm_X14_version.y := ⟨by decide, by decide⟩
theorem xn_X14_version : (parseMethodDescriptor xm_X14_version.y.desc).map (fun d => d.parameters.length) = some 5 := by decide +kernel
theorem xh_X14_versionAt : xHandle xm_X14_versionAt.y := ⟨by decide, by decide⟩
theorem xn_X14_versionAt : (parseMethodDescriptor xm_X14_versionAt.y.desc).map (fun d => d.parameters.length) = some 2 := by decide +kernel
theorem xh_X14_versionOf : xHandle xm_X14_versionOf.y := ⟨by decide, by decide⟩
theorem xn_X14_versionOf : (parseMethodDescriptor xm_X14_versionOf.y.desc).map (fun d => d.parameters.length) = some 1 := by decide +kernel
theorem xh_X14_versions : xHandle xm_X14_versions.y := ⟨by decide, by decide⟩
theorem xn_X14_versions : (parseMethodDescriptor xm_X14_versions.y.desc).map (fun d => d.parameters.length) = some 1 := by decide +kernel
theorem xh_X14_versionsOf : xHandle xm_X14_versionsOf.y := ⟨by decide, by decide⟩
theorem xn_X14_versionsOf : (parseMethodDescriptor xm_X14_versionsOf.y.desc).map (fun d => d.parameters.length) = some 1 := by decide +kernel
theorem xh_X14_wish : xHandle xm_X14_wish.y := ⟨by decide, by decide⟩
theorem xn_X14_wish : (parseMethodDescriptor xm_X14_wish.y.desc).map (fun d => d.parameters.length) = some 0 := by decide +kernel
theorem xh_X14_wishAt : xHandle xm_X14_wishAt.y := ⟨by decide, by decide⟩
theorem xn_X14_wishAt : (parseMethodDescriptor xm_X14_wishAt.y.desc).map (fun d => d.parameters.length) = some 1 := by decide +kernel
theorem xh_X14_wishesLeft : xHandle xm_X14_wishesLeft.y := ⟨by decide, by decide⟩
theorem xn_X14_wishesLeft : (parseMethodDescriptor xm_X14_wishesLeft.y.desc).map (fun d => d.parameters.length) = some 0 := by decide +kernel
theorem xh_X14_within : xHandle xm_X14_within.y := ⟨by decide, by decide⟩
theorem xn_X14_within : (parseMethodDescriptor xm_X14_within.y.desc).map (fun d => d.parameters.length) = some 3 := by decide +kernel
theorem xh_X14_without : xHandle xm_X14_without.y := ⟨by decide, by decide⟩
theorem xn_X14_without : (parseMethodDescriptor xm_X14_without.y.desc).map (fun d => d.parameters.length) = some 1 := by decide +kernel
theorem xh_X14_wrong : xHandle xm_X14_wrong.y := ⟨by decide, by decide⟩
theorem xn_X14_wrong : (parseMethodDescriptor xm_X14_wrong.y.desc).map (fun d => d.parameters.length) = some 0 := by decide +kernel
theorem xh_X1_add : xHandle xm_X1_add.y := ⟨by decide, by decide⟩
theorem xn_X1_add : (parseMethodDescriptor xm_X1_add.y.desc).map (fun d => d.parameters.length) = some 5 := by decide +kernel
theorem xh_X1_init : xHandle xm_X1_init.y := ⟨by decide, by decide⟩
theorem xn_X1_init : (parseMethodDescriptor xm_X1_init.y.desc).map (fun d => d.parameters.length) = some 2 := by decide +kernel
theorem xh_X1_literalsOf : xHandle xm_X1_literalsOf.y := ⟨by decide, by decide⟩
theorem xn_X1_literalsOf : (parseMethodDescriptor xm_X1_literalsOf.y.desc).map (fun d => d.parameters.length) = some 1 := by decide +kernel
theorem xh_X1_tell : xHandle xm_X1_tell.y := ⟨by decide, by decide⟩
theorem xn_X1_tell : (parseMethodDescriptor xm_X1_tell.y.desc).map (fun d => d.parameters.length) = some 0 := by decide +kernel
theorem xh_X1_tellBan : xHandle xm_X1_tellBan.y := ⟨by decide, by decide⟩
theorem xn_X1_tellBan : (parseMethodDescriptor xm_X1_tellBan.y.desc).map (fun d => d.parameters.length) = some 4 := by decide +kernel
theorem xh_X1_tellHold : xHandle xm_X1_tellHold.y := ⟨by decide, by decide⟩
theorem xn_X1_tellHold : (parseMethodDescriptor xm_X1_tellHold.y.desc).map (fun d => d.parameters.length) = some 2 := by decide +kernel
theorem xh_X1_tellNeed : xHandle xm_X1_tellNeed.y := ⟨by decide, by decide⟩
theorem xn_X1_tellNeed : (parseMethodDescriptor xm_X1_tellNeed.y.desc).map (fun d => d.parameters.length) = some 6 := by decide +kernel
theorem xh_X1_tellNone : xHandle xm_X1_tellNone.y := ⟨by decide, by decide⟩
theorem xn_X1_tellNone : (parseMethodDescriptor xm_X1_tellNone.y.desc).map (fun d => d.parameters.length) = some 3 := by decide +kernel
theorem xh_X1_tellPairs : xHandle xm_X1_tellPairs.y := ⟨by decide, by decide⟩
theorem xn_X1_tellPairs : (parseMethodDescriptor xm_X1_tellPairs.y.desc).map (fun d => d.parameters.length) = some 1 := by decide +kernel
theorem xh_X1_tellVersion : xHandle xm_X1_tellVersion.y := ⟨by decide, by decide⟩
theorem xn_X1_tellVersion : (parseMethodDescriptor xm_X1_tellVersion.y.desc).map (fun d => d.parameters.length) = some 2 := by decide +kernel
theorem xh_X2_afterStep : xHandle xm_X2_afterStep.y := ⟨by decide, by decide⟩
theorem xn_X2_afterStep : (parseMethodDescriptor xm_X2_afterStep.y.desc).map (fun d => d.parameters.length) = some 2 := by decide +kernel
theorem xh_X2_aheadOf : xHandle xm_X2_aheadOf.y := ⟨by decide, by decide⟩
theorem xn_X2_aheadOf : (parseMethodDescriptor xm_X2_aheadOf.y.desc).map (fun d => d.parameters.length) = some 2 := by decide +kernel
theorem xh_X2_arrange : xHandle xm_X2_arrange.y := ⟨by decide, by decide⟩
theorem xn_X2_arrange : (parseMethodDescriptor xm_X2_arrange.y.desc).map (fun d => d.parameters.length) = some 1 := by decide +kernel
theorem xh_X2_comingAt : xHandle xm_X2_comingAt.y := ⟨by decide, by decide⟩
theorem xn_X2_comingAt : (parseMethodDescriptor xm_X2_comingAt.y.desc).map (fun d => d.parameters.length) = some 2 := by decide +kernel
theorem xh_X2_comingCount : xHandle xm_X2_comingCount.y := ⟨by decide, by decide⟩
theorem xn_X2_comingCount : (parseMethodDescriptor xm_X2_comingCount.y.desc).map (fun d => d.parameters.length) = some 0 := by decide +kernel
theorem xh_X2_comingOf : xHandle xm_X2_comingOf.y := ⟨by decide, by decide⟩
theorem xn_X2_comingOf : (parseMethodDescriptor xm_X2_comingOf.y.desc).map (fun d => d.parameters.length) = some 1 := by decide +kernel
theorem xh_X2_failedBy : xHandle xm_X2_failedBy.y := ⟨by decide, by decide⟩
theorem xn_X2_failedBy : (parseMethodDescriptor xm_X2_failedBy.y.desc).map (fun d => d.parameters.length) = some 3 := by decide +kernel
theorem xh_X2_filesOf : xHandle xm_X2_filesOf.y := ⟨by decide, by decide⟩
theorem xn_X2_filesOf : (parseMethodDescriptor xm_X2_filesOf.y.desc).map (fun d => d.parameters.length) = some 1 := by decide +kernel
theorem xh_X2_findSteps : xHandle xm_X2_findSteps.y := ⟨by decide, by decide⟩
theorem xn_X2_findSteps : (parseMethodDescriptor xm_X2_findSteps.y.desc).map (fun d => d.parameters.length) = some 0 := by decide +kernel
theorem xh_X2_firstFree : xHandle xm_X2_firstFree.y := ⟨by decide, by decide⟩
theorem xn_X2_firstFree : (parseMethodDescriptor xm_X2_firstFree.y.desc).map (fun d => d.parameters.length) = some 1 := by decide +kernel
theorem xh_X2_firstWishFor : xHandle xm_X2_firstWishFor.y := ⟨by decide, by decide⟩
theorem xn_X2_firstWishFor : (parseMethodDescriptor xm_X2_firstWishFor.y.desc).map (fun d => d.parameters.length) = some 1 := by decide +kernel
theorem xh_X2_greatestOf : xHandle xm_X2_greatestOf.y := ⟨by decide, by decide⟩
theorem xn_X2_greatestOf : (parseMethodDescriptor xm_X2_greatestOf.y.desc).map (fun d => d.parameters.length) = some 1 := by decide +kernel
theorem xh_X2_init : xHandle xm_X2_init.y := ⟨by decide, by decide⟩
theorem xn_X2_init : (parseMethodDescriptor xm_X2_init.y.desc).map (fun d => d.parameters.length) = some 2 := by decide +kernel
theorem xh_X2_isAllFetched : xHandle xm_X2_isAllFetched.y := ⟨by decide, by decide⟩
theorem xn_X2_isAllFetched : (parseMethodDescriptor xm_X2_isAllFetched.y.desc).map (fun d => d.parameters.length) = some 0 := by decide +kernel
theorem xh_X2_isRingFrom : xHandle xm_X2_isRingFrom.y := ⟨by decide, by decide⟩
theorem xn_X2_isRingFrom : (parseMethodDescriptor xm_X2_isRingFrom.y.desc).map (fun d => d.parameters.length) = some 2 := by decide +kernel
theorem xh_X2_leastBehind : xHandle xm_X2_leastBehind.y := ⟨by decide, by decide⟩
theorem xn_X2_leastBehind : (parseMethodDescriptor xm_X2_leastBehind.y.desc).map (fun d => d.parameters.length) = some 2 := by decide +kernel
theorem xh_X2_moved : xHandle xm_X2_moved.y := ⟨by decide, by decide⟩
theorem xn_X2_moved : (parseMethodDescriptor xm_X2_moved.y.desc).map (fun d => d.parameters.length) = some 3 := by decide +kernel
theorem xh_X2_nextStep : xHandle xm_X2_nextStep.y := ⟨by decide, by decide⟩
theorem xn_X2_nextStep : (parseMethodDescriptor xm_X2_nextStep.y.desc).map (fun d => d.parameters.length) = some 3 := by decide +kernel
theorem xh_X2_packsWith : xHandle xm_X2_packsWith.y := ⟨by decide, by decide⟩
theorem xn_X2_packsWith : (parseMethodDescriptor xm_X2_packsWith.y.desc).map (fun d => d.parameters.length) = some 1 := by decide +kernel
theorem xh_X2_reach : xHandle xm_X2_reach.y := ⟨by decide, by decide⟩
theorem xn_X2_reach : (parseMethodDescriptor xm_X2_reach.y.desc).map (fun d => d.parameters.length) = some 1 := by decide +kernel
theorem xh_X2_reachFrom : xHandle xm_X2_reachFrom.y := ⟨by decide, by decide⟩
theorem xn_X2_reachFrom : (parseMethodDescriptor xm_X2_reachFrom.y.desc).map (fun d => d.parameters.length) = some 3 := by decide +kernel
theorem xh_X2_run : xHandle xm_X2_run.y := ⟨by decide, by decide⟩
theorem xn_X2_run : (parseMethodDescriptor xm_X2_run.y.desc).map (fun d => d.parameters.length) = some 0 := by decide +kernel
theorem xh_X2_walkRing : xHandle xm_X2_walkRing.y := ⟨by decide, by decide⟩
theorem xn_X2_walkRing : (parseMethodDescriptor xm_X2_walkRing.y.desc).map (fun d => d.parameters.length) = some 2 := by decide +kernel
theorem xh_X2_wholeOf : xHandle xm_X2_wholeOf.y := ⟨by decide, by decide⟩
theorem xn_X2_wholeOf : (parseMethodDescriptor xm_X2_wholeOf.y.desc).map (fun d => d.parameters.length) = some 1 := by decide +kernel
theorem xh_X3_areNeedsMet : xHandle xm_X3_areNeedsMet.y := ⟨by decide, by decide⟩
theorem xn_X3_areNeedsMet : (parseMethodDescriptor xm_X3_areNeedsMet.y.desc).map (fun d => d.parameters.length) = some 2 := by decide +kernel
theorem xh_X3_brokenIn : xHandle xm_X3_brokenIn.y := ⟨by decide, by decide⟩
theorem xn_X3_brokenIn : (parseMethodDescriptor xm_X3_brokenIn.y.desc).map (fun d => d.parameters.length) = some 1 := by decide +kernel
theorem xh_X3_init : xHandle xm_X3_init.y := ⟨by decide, by decide⟩
theorem xn_X3_init : (parseMethodDescriptor xm_X3_init.y.desc).map (fun d => d.parameters.length) = some 1 := by decide +kernel
theorem xh_X3_isBanMet : xHandle xm_X3_isBanMet.y := ⟨by decide, by decide⟩
theorem xn_X3_isBanMet : (parseMethodDescriptor xm_X3_isBanMet.y.desc).map (fun d => d.parameters.length) = some 2 := by decide +kernel
theorem xh_X3_isFitting : xHandle xm_X3_isFitting.y := ⟨by decide, by decide⟩
theorem xn_X3_isFitting : (parseMethodDescriptor xm_X3_isFitting.y.desc).map (fun d => d.parameters.length) = some 1 := by decide +kernel
theorem xh_X3_isMeeting : xHandle xm_X3_isMeeting.y := ⟨by decide, by decide⟩
theorem xn_X3_isMeeting : (parseMethodDescriptor xm_X3_isMeeting.y.desc).map (fun d => d.parameters.length) = some 2 := by decide +kernel
theorem xh_X3_isMet : xHandle xm_X3_isMet.y := ⟨by decide, by decide⟩
theorem xn_X3_isMet : (parseMethodDescriptor xm_X3_isMet.y.desc).map (fun d => d.parameters.length) = some 3 := by decide +kernel
theorem xh_X3_isOptionOn : xHandle xm_X3_isOptionOn.y := ⟨by decide, by decide⟩
theorem xn_X3_isOptionOn : (parseMethodDescriptor xm_X3_isOptionOn.y.desc).map (fun d => d.parameters.length) = some 2 := by decide +kernel
theorem xh_X3_isSoundSet : xHandle xm_X3_isSoundSet.y := ⟨by decide, by decide⟩
theorem xn_X3_isSoundSet : (parseMethodDescriptor xm_X3_isSoundSet.y.desc).map (fun d => d.parameters.length) = some 1 := by decide +kernel
theorem xh_X3_meeting : xHandle xm_X3_meeting.y := ⟨by decide, by decide⟩
theorem xn_X3_meeting : (parseMethodDescriptor xm_X3_meeting.y.desc).map (fun d => d.parameters.length) = some 1 := by decide +kernel
theorem xh_X3_renew : xHandle xm_X3_renew.y := ⟨by decide, by decide⟩
theorem xn_X3_renew : (parseMethodDescriptor xm_X3_renew.y.desc).map (fun d => d.parameters.length) = some 0 := by decide +kernel
theorem xh_X3_setNumber : xHandle xm_X3_setNumber.y := ⟨by decide, by decide⟩
theorem xn_X3_setNumber : (parseMethodDescriptor xm_X3_setNumber.y.desc).map (fun d => d.parameters.length) = some 1 := by decide +kernel
theorem xh_X3_setsToGoThrough : xHandle xm_X3_setsToGoThrough.y := ⟨by decide, by decide⟩
theorem xn_X3_setsToGoThrough : (parseMethodDescriptor xm_X3_setsToGoThrough.y.desc).map (fun d => d.parameters.length) = some 0 := by decide +kernel
theorem xh_X4_dropUnneeded : xHandle xm_X4_dropUnneeded.y := ⟨by decide, by decide⟩
theorem xn_X4_dropUnneeded : (parseMethodDescriptor xm_X4_dropUnneeded.y.desc).map (fun d => d.parameters.length) = some 0 := by decide +kernel
theorem xh_X4_findCore : xHandle xm_X4_findCore.y := ⟨by decide, by decide⟩
theorem xn_X4_findCore : (parseMethodDescriptor xm_X4_findCore.y.desc).map (fun d => d.parameters.length) = some 0 := by decide +kernel
theorem xh_X4_init : xHandle xm_X4_init.y := ⟨by decide, by decide⟩
theorem xn_X4_init : (parseMethodDescriptor xm_X4_init.y.desc).map (fun d => d.parameters.length) = some 2 := by decide +kernel
theorem xh_X4_isBestJoined : xHandle xm_X4_isBestJoined.y := ⟨by decide, by decide⟩
theorem xn_X4_isBestJoined : (parseMethodDescriptor xm_X4_isBestJoined.y.desc).map (fun d => d.parameters.length) = some 0 := by decide +kernel
theorem xh_X4_isCoreWrong : xHandle xm_X4_isCoreWrong.y := ⟨by decide, by decide⟩
theorem xn_X4_isCoreWrong : (parseMethodDescriptor xm_X4_isCoreWrong.y.desc).map (fun d => d.parameters.length) = some 0 := by decide +kernel
theorem xh_X4_isCovered : xHandle xm_X4_isCovered.y := ⟨by decide, by decide⟩
theorem xn_X4_isCovered : (parseMethodDescriptor xm_X4_isCovered.y.desc).map (fun d => d.parameters.length) = some 2 := by decide +kernel
theorem xh_X4_isJoinable : xHandle xm_X4_isJoinable.y := ⟨by decide, by decide⟩
theorem xn_X4_isJoinable : (parseMethodDescriptor xm_X4_isJoinable.y.desc).map (fun d => d.parameters.length) = some 2 := by decide +kernel
theorem xh_X4_isProofWrong : xHandle xm_X4_isProofWrong.y := ⟨by decide, by decide⟩
theorem xn_X4_isProofWrong : (parseMethodDescriptor xm_X4_isProofWrong.y.desc).map (fun d => d.parameters.length) = some 0 := by decide +kernel
theorem xh_X4_isRefuted : xHandle xm_X4_isRefuted.y := ⟨by decide, by decide⟩
theorem xn_X4_isRefuted : (parseMethodDescriptor xm_X4_isRefuted.y.desc).map (fun d => d.parameters.length) = some 0 := by decide +kernel
theorem xh_X4_isSpent : xHandle xm_X4_isSpent.y := ⟨by decide, by decide⟩
theorem xn_X4_isSpent : (parseMethodDescriptor xm_X4_isSpent.y.desc).map (fun d => d.parameters.length) = some 2 := by decide +kernel
theorem xh_X4_join : xHandle xm_X4_join.y := ⟨by decide, by decide⟩
theorem xn_X4_join : (parseMethodDescriptor xm_X4_join.y.desc).map (fun d => d.parameters.length) = some 0 := by decide +kernel
theorem xh_X4_literalsOf : xHandle xm_X4_literalsOf.y := ⟨by decide, by decide⟩
theorem xn_X4_literalsOf : (parseMethodDescriptor xm_X4_literalsOf.y.desc).map (fun d => d.parameters.length) = some 1 := by decide +kernel
theorem xh_X4_spend : xHandle xm_X4_spend.y := ⟨by decide, by decide⟩
theorem xn_X4_spend : (parseMethodDescriptor xm_X4_spend.y.desc).map (fun d => d.parameters.length) = some 2 := by decide +kernel
theorem xh_X4_takeAll : xHandle xm_X4_takeAll.y := ⟨by decide, by decide⟩
theorem xn_X4_takeAll : (parseMethodDescriptor xm_X4_takeAll.y.desc).map (fun d => d.parameters.length) = some 0 := by decide +kernel
theorem xh_X5_addNextToken : xHandle xm_X5_addNextToken.y := ⟨by decide, by decide⟩
theorem xn_X5_addNextToken : (parseMethodDescriptor xm_X5_addNextToken.y.desc).map (fun d => d.parameters.length) = some 2 := by decide +kernel
theorem xh_X5_addToken : xHandle xm_X5_addToken.y := ⟨by decide, by decide⟩
theorem xn_X5_addToken : (parseMethodDescriptor xm_X5_addToken.y.desc).map (fun d => d.parameters.length) = some 3 := by decide +kernel
theorem xh_X5_byteAt : xHandle xm_X5_byteAt.y := ⟨by decide, by decide⟩
theorem xn_X5_byteAt : (parseMethodDescriptor xm_X5_byteAt.y.desc).map (fun d => d.parameters.length) = some 1 := by decide +kernel
theorem xh_X5_bytesIn : xHandle xm_X5_bytesIn.y := ⟨by decide, by decide⟩
theorem xn_X5_bytesIn : (parseMethodDescriptor xm_X5_bytesIn.y.desc).map (fun d => d.parameters.length) = some 1 := by decide +kernel
theorem xh_X5_digitsFrom : xHandle xm_X5_digitsFrom.y := ⟨by decide, by decide⟩
theorem xn_X5_digitsFrom : (parseMethodDescriptor xm_X5_digitsFrom.y.desc).map (fun d => d.parameters.length) = some 1 := by decide +kernel
theorem xh_X5_empty : xHandle xm_X5_empty.y := ⟨by decide, by decide⟩
theorem xn_X5_empty : (parseMethodDescriptor xm_X5_empty.y.desc).map (fun d => d.parameters.length) = some 0 := by decide +kernel
theorem xh_X5_errorAt : xHandle xm_X5_errorAt.y := ⟨by decide, by decide⟩
theorem xn_X5_errorAt : (parseMethodDescriptor xm_X5_errorAt.y.desc).map (fun d => d.parameters.length) = some 0 := by decide +kernel
theorem xh_X5_findTokens : xHandle xm_X5_findTokens.y := ⟨by decide, by decide⟩
theorem xn_X5_findTokens : (parseMethodDescriptor xm_X5_findTokens.y.desc).map (fun d => d.parameters.length) = some 1 := by decide +kernel
theorem xh_X5_hasRoomFor : xHandle xm_X5_hasRoomFor.y := ⟨by decide, by decide⟩
theorem xn_X5_hasRoomFor : (parseMethodDescriptor xm_X5_hasRoomFor.y.desc).map (fun d => d.parameters.length) = some 1 := by decide +kernel
theorem xh_X5_init : xHandle xm_X5_init.y := ⟨by decide, by decide⟩
theorem xn_X5_init : (parseMethodDescriptor xm_X5_init.y.desc).map (fun d => d.parameters.length) = some 0 := by decide +kernel
theorem xh_X5_isDigit : xHandle xm_X5_isDigit.y := ⟨by decide, by decide⟩
theorem xn_X5_isDigit : (parseMethodDescriptor xm_X5_isDigit.y.desc).map (fun d => d.parameters.length) = some 1 := by decide +kernel
theorem xh_X5_isEmptyText : xHandle xm_X5_isEmptyText.y := ⟨by decide, by decide⟩
theorem xn_X5_isEmptyText : (parseMethodDescriptor xm_X5_isEmptyText.y.desc).map (fun d => d.parameters.length) = some 0 := by decide +kernel
theorem xh_X5_isNext : xHandle xm_X5_isNext.y := ⟨by decide, by decide⟩
theorem xn_X5_isNext : (parseMethodDescriptor xm_X5_isNext.y.desc).map (fun d => d.parameters.length) = some 1 := by decide +kernel
theorem xh_X5_isSign : xHandle xm_X5_isSign.y := ⟨by decide, by decide⟩
theorem xn_X5_isSign : (parseMethodDescriptor xm_X5_isSign.y.desc).map (fun d => d.parameters.length) = some 1 := by decide +kernel
theorem xh_X5_isSpanSign : xHandle xm_X5_isSpanSign.y := ⟨by decide, by decide⟩
theorem xn_X5_isSpanSign : (parseMethodDescriptor xm_X5_isSpanSign.y.desc).map (fun d => d.parameters.length) = some 1 := by decide +kernel
theorem xh_X5_length : xHandle xm_X5_length.y := ⟨by decide, by decide⟩
theorem xn_X5_length : (parseMethodDescriptor xm_X5_length.y.desc).map (fun d => d.parameters.length) = some 0 := by decide +kernel
theorem xh_X5_pass : xHandle xm_X5_pass.y := ⟨by decide, by decide⟩
theorem xn_X5_pass : (parseMethodDescriptor xm_X5_pass.y.desc).map (fun d => d.parameters.length) = some 1 := by decide +kernel
theorem xh_X5_put : xHandle xm_X5_put.y := ⟨by decide, by decide⟩
theorem xn_X5_put : (parseMethodDescriptor xm_X5_put.y.desc).map (fun d => d.parameters.length) = some 1 := by decide +kernel
theorem xh_X5_readAtom : xHandle xm_X5_readAtom.y := ⟨by decide, by decide⟩
theorem xn_X5_readAtom : (parseMethodDescriptor xm_X5_readAtom.y.desc).map (fun d => d.parameters.length) = some 1 := by decide +kernel
theorem xh_X5_readNeed : xHandle xm_X5_readNeed.y := ⟨by decide, by decide⟩
theorem xn_X5_readNeed : (parseMethodDescriptor xm_X5_readNeed.y.desc).map (fun d => d.parameters.length) = some 2 := by decide +kernel
theorem xh_X5_readRange : xHandle xm_X5_readRange.y := ⟨by decide, by decide⟩
theorem xn_X5_readRange : (parseMethodDescriptor xm_X5_readRange.y.desc).map (fun d => d.parameters.length) = some 0 := by decide +kernel
theorem xh_X5_readSpan : xHandle xm_X5_readSpan.y := ⟨by decide, by decide⟩
theorem xn_X5_readSpan : (parseMethodDescriptor xm_X5_readSpan.y.desc).map (fun d => d.parameters.length) = some 0 := by decide +kernel
theorem xh_X5_readVersion : xHandle xm_X5_readVersion.y := ⟨by decide, by decide⟩
theorem xn_X5_readVersion : (parseMethodDescriptor xm_X5_readVersion.y.desc).map (fun d => d.parameters.length) = some 0 := by decide +kernel
theorem xh_X5_readWholeRange : xHandle xm_X5_readWholeRange.y := ⟨by decide, by decide⟩
theorem xn_X5_readWholeRange : (parseMethodDescriptor xm_X5_readWholeRange.y.desc).map (fun d => d.parameters.length) = some 1 := by decide +kernel
theorem xh_X6_addWish : xHandle xm_X6_addWish.y := ⟨by decide, by decide⟩
theorem xn_X6_addWish : (parseMethodDescriptor xm_X6_addWish.y.desc).map (fun d => d.parameters.length) = some 1 := by decide +kernel
theorem xh_X6_copyFrom : xHandle xm_X6_copyFrom.y := ⟨by decide, by decide⟩
theorem xn_X6_copyFrom : (parseMethodDescriptor xm_X6_copyFrom.y.desc).map (fun d => d.parameters.length) = some 1 := by decide +kernel
theorem xh_X6_entryAt : xHandle xm_X6_entryAt.y := ⟨by decide, by decide⟩
theorem xn_X6_entryAt : (parseMethodDescriptor xm_X6_entryAt.y.desc).map (fun d => d.parameters.length) = some 1 := by decide +kernel
theorem xh_X6_init : xHandle xm_X6_init.y := ⟨by decide, by decide⟩
theorem xn_X6_init : (parseMethodDescriptor xm_X6_init.y.desc).map (fun d => d.parameters.length) = some 0 := by decide +kernel
theorem xh_X6_isKept : xHandle xm_X6_isKept.y := ⟨by decide, by decide⟩
theorem xn_X6_isKept : (parseMethodDescriptor xm_X6_isKept.y.desc).map (fun d => d.parameters.length) = some 1 := by decide +kernel
theorem xh_X6_keepEntry : xHandle xm_X6_keepEntry.y := ⟨by decide, by decide⟩
theorem xn_X6_keepEntry : (parseMethodDescriptor xm_X6_keepEntry.y.desc).map (fun d => d.parameters.length) = some 0 := by decide +kernel
theorem xh_X6_pinCount : xHandle xm_X6_pinCount.y := ⟨by decide, by decide⟩
theorem xn_X6_pinCount : (parseMethodDescriptor xm_X6_pinCount.y.desc).map (fun d => d.parameters.length) = some 0 := by decide +kernel
theorem xh_X6_tellFailure : xHandle xm_X6_tellFailure.y := ⟨by decide, by decide⟩
theorem xn_X6_tellFailure : (parseMethodDescriptor xm_X6_tellFailure.y.desc).map (fun d => d.parameters.length) = some 3 := by decide +kernel
theorem xh_X6_wishesLeft : xHandle xm_X6_wishesLeft.y := ⟨by decide, by decide⟩
theorem xn_X6_wishesLeft : (parseMethodDescriptor xm_X6_wishesLeft.y.desc).map (fun d => d.parameters.length) = some 0 := by decide +kernel
theorem xh_X7_back : xHandle xm_X7_back.y := ⟨by decide, by decide⟩
theorem xn_X7_back : (parseMethodDescriptor xm_X7_back.y.desc).map (fun d => d.parameters.length) = some 1 := by decide +kernel
theorem xh_X7_canHold : xHandle xm_X7_canHold.y := ⟨by decide, by decide⟩
theorem xn_X7_canHold : (parseMethodDescriptor xm_X7_canHold.y.desc).map (fun d => d.parameters.length) = some 2 := by decide +kernel
theorem xh_X7_choose : xHandle xm_X7_choose.y := ⟨by decide, by decide⟩
theorem xn_X7_choose : (parseMethodDescriptor xm_X7_choose.y.desc).map (fun d => d.parameters.length) = some 0 := by decide +kernel
theorem xh_X7_deepen : xHandle xm_X7_deepen.y := ⟨by decide, by decide⟩
theorem xn_X7_deepen : (parseMethodDescriptor xm_X7_deepen.y.desc).map (fun d => d.parameters.length) = some 0 := by decide +kernel
theorem xh_X7_draw : xHandle xm_X7_draw.y := ⟨by decide, by decide⟩
theorem xn_X7_draw : (parseMethodDescriptor xm_X7_draw.y.desc).map (fun d => d.parameters.length) = some 0 := by decide +kernel
theorem xh_X7_forget : xHandle xm_X7_forget.y := ⟨by decide, by decide⟩
theorem xn_X7_forget : (parseMethodDescriptor xm_X7_forget.y.desc).map (fun d => d.parameters.length) = some 0 := by decide +kernel
theorem xh_X7_found : xHandle xm_X7_found.y := ⟨by decide, by decide⟩
theorem xn_X7_found : (parseMethodDescriptor xm_X7_found.y.desc).map (fun d => d.parameters.length) = some 0 := by decide +kernel
theorem xh_X7_hasEmpty : xHandle xm_X7_hasEmpty.y := ⟨by decide, by decide⟩
theorem xn_X7_hasEmpty : (parseMethodDescriptor xm_X7_hasEmpty.y.desc).map (fun d => d.parameters.length) = some 0 := by decide +kernel
theorem xh_X7_heaviest : xHandle xm_X7_heaviest.y := ⟨by decide, by decide⟩
theorem xn_X7_heaviest : (parseMethodDescriptor xm_X7_heaviest.y.desc).map (fun d => d.parameters.length) = some 2 := by decide +kernel
theorem xh_X7_init : xHandle xm_X7_init.y := ⟨by decide, by decide⟩
theorem xn_X7_init : (parseMethodDescriptor xm_X7_init.y.desc).map (fun d => d.parameters.length) = some 1 := by decide +kernel
theorem xh_X7_isCovered : xHandle xm_X7_isCovered.y := ⟨by decide, by decide⟩
theorem xn_X7_isCovered : (parseMethodDescriptor xm_X7_isCovered.y.desc).map (fun d => d.parameters.length) = some 2 := by decide +kernel
theorem xh_X7_isTaken : xHandle xm_X7_isTaken.y := ⟨by decide, by decide⟩
theorem xn_X7_isTaken : (parseMethodDescriptor xm_X7_isTaken.y.desc).map (fun d => d.parameters.length) = some 1 := by decide +kernel
theorem xh_X7_join : xHandle xm_X7_join.y := ⟨by decide, by decide⟩
theorem xn_X7_join : (parseMethodDescriptor xm_X7_join.y.desc).map (fun d => d.parameters.length) = some 2 := by decide +kernel
theorem xh_X7_keep : xHandle xm_X7_keep.y := ⟨by decide, by decide⟩
theorem xn_X7_keep : (parseMethodDescriptor xm_X7_keep.y.desc).map (fun d => d.parameters.length) = some 0 := by decide +kernel
theorem xh_X7_levelBelow : xHandle xm_X7_levelBelow.y := ⟨by decide, by decide⟩
theorem xn_X7_levelBelow : (parseMethodDescriptor xm_X7_levelBelow.y.desc).map (fun d => d.parameters.length) = some 0 := by decide +kernel
theorem xh_X7_link : xHandle xm_X7_link.y := ⟨by decide, by decide⟩
theorem xn_X7_link : (parseMethodDescriptor xm_X7_link.y.desc).map (fun d => d.parameters.length) = some 2 := by decide +kernel
theorem xh_X7_load : xHandle xm_X7_load.y := ⟨by decide, by decide⟩
theorem xn_X7_load : (parseMethodDescriptor xm_X7_load.y.desc).map (fun d => d.parameters.length) = some 2 := by decide +kernel
theorem xh_X7_pick : xHandle xm_X7_pick.y := ⟨by decide, by decide⟩
theorem xn_X7_pick : (parseMethodDescriptor xm_X7_pick.y.desc).map (fun d => d.parameters.length) = some 3 := by decide +kernel
theorem xh_X7_put : xHandle xm_X7_put.y := ⟨by decide, by decide⟩
theorem xn_X7_put : (parseMethodDescriptor xm_X7_put.y.desc).map (fun d => d.parameters.length) = some 2 := by decide +kernel
theorem xh_X7_putAll : xHandle xm_X7_putAll.y := ⟨by decide, by decide⟩
theorem xn_X7_putAll : (parseMethodDescriptor xm_X7_putAll.y.desc).map (fun d => d.parameters.length) = some 2 := by decide +kernel
theorem xh_X7_spread : xHandle xm_X7_spread.y := ⟨by decide, by decide⟩
theorem xn_X7_spread : (parseMethodDescriptor xm_X7_spread.y.desc).map (fun d => d.parameters.length) = some 0 := by decide +kernel
theorem xh_X7_tellChange : xHandle xm_X7_tellChange.y := ⟨by decide, by decide⟩
theorem xn_X7_tellChange : (parseMethodDescriptor xm_X7_tellChange.y.desc).map (fun d => d.parameters.length) = some 1 := by decide +kernel
theorem xh_X7_trace : xHandle xm_X7_trace.y := ⟨by decide, by decide⟩
theorem xn_X7_trace : (parseMethodDescriptor xm_X7_trace.y.desc).map (fun d => d.parameters.length) = some 1 := by decide +kernel
theorem xh_X7_visit : xHandle xm_X7_visit.y := ⟨by decide, by decide⟩
theorem xn_X7_visit : (parseMethodDescriptor xm_X7_visit.y.desc).map (fun d => d.parameters.length) = some 1 := by decide +kernel
theorem xh_X7_watch : xHandle xm_X7_watch.y := ⟨by decide, by decide⟩
theorem xn_X7_watch : (parseMethodDescriptor xm_X7_watch.y.desc).map (fun d => d.parameters.length) = some 1 := by decide +kernel
theorem xh_X7_watchAll : xHandle xm_X7_watchAll.y := ⟨by decide, by decide⟩
theorem xn_X7_watchAll : (parseMethodDescriptor xm_X7_watchAll.y.desc).map (fun d => d.parameters.length) = some 0 := by decide +kernel
theorem xh_X7_weigh : xHandle xm_X7_weigh.y := ⟨by decide, by decide⟩
theorem xn_X7_weigh : (parseMethodDescriptor xm_X7_weigh.y.desc).map (fun d => d.parameters.length) = some 1 := by decide +kernel
theorem xh_X8_addBan : xHandle xm_X8_addBan.y := ⟨by decide, by decide⟩
theorem xn_X8_addBan : (parseMethodDescriptor xm_X8_addBan.y.desc).map (fun d => d.parameters.length) = some 2 := by decide +kernel
theorem xh_X8_addGiven : xHandle xm_X8_addGiven.y := ⟨by decide, by decide⟩
theorem xn_X8_addGiven : (parseMethodDescriptor xm_X8_addGiven.y.desc).map (fun d => d.parameters.length) = some 3 := by decide +kernel
theorem xh_X8_addNeed : xHandle xm_X8_addNeed.y := ⟨by decide, by decide⟩
theorem xn_X8_addNeed : (parseMethodDescriptor xm_X8_addNeed.y.desc).map (fun d => d.parameters.length) = some 3 := by decide +kernel
theorem xh_X8_addPack : xHandle xm_X8_addPack.y := ⟨by decide, by decide⟩
theorem xn_X8_addPack : (parseMethodDescriptor xm_X8_addPack.y.desc).map (fun d => d.parameters.length) = some 0 := by decide +kernel
theorem xh_X8_addVersion : xHandle xm_X8_addVersion.y := ⟨by decide, by decide⟩
theorem xn_X8_addVersion : (parseMethodDescriptor xm_X8_addVersion.y.desc).map (fun d => d.parameters.length) = some 5 := by decide +kernel
theorem xh_X8_codeIn : xHandle xm_X8_codeIn.y := ⟨by decide, by decide⟩
theorem xn_X8_codeIn : (parseMethodDescriptor xm_X8_codeIn.y.desc).map (fun d => d.parameters.length) = some 2 := by decide +kernel
theorem xh_X8_copyFrom : xHandle xm_X8_copyFrom.y := ⟨by decide, by decide⟩
theorem xn_X8_copyFrom : (parseMethodDescriptor xm_X8_copyFrom.y.desc).map (fun d => d.parameters.length) = some 1 := by decide +kernel
theorem xh_X8_hasRoomIn : xHandle xm_X8_hasRoomIn.y := ⟨by decide, by decide⟩
theorem xn_X8_hasRoomIn : (parseMethodDescriptor xm_X8_hasRoomIn.y.desc).map (fun d => d.parameters.length) = some 1 := by decide +kernel
theorem xh_X8_idAt : xHandle xm_X8_idAt.y := ⟨by decide, by decide⟩
theorem xn_X8_idAt : (parseMethodDescriptor xm_X8_idAt.y.desc).map (fun d => d.parameters.length) = some 2 := by decide +kernel
theorem xh_X8_idIn : xHandle xm_X8_idIn.y := ⟨by decide, by decide⟩
theorem xn_X8_idIn : (parseMethodDescriptor xm_X8_idIn.y.desc).map (fun d => d.parameters.length) = some 2 := by decide +kernel
theorem xh_X8_idOf : xHandle xm_X8_idOf.y := ⟨by decide, by decide⟩
theorem xn_X8_idOf : (parseMethodDescriptor xm_X8_idOf.y.desc).map (fun d => d.parameters.length) = some 2 := by decide +kernel
theorem xh_X8_inRangeOf : xHandle xm_X8_inRangeOf.y := ⟨by decide, by decide⟩
theorem xn_X8_inRangeOf : (parseMethodDescriptor xm_X8_inRangeOf.y.desc).map (fun d => d.parameters.length) = some 2 := by decide +kernel
theorem xh_X8_init : xHandle xm_X8_init.y := ⟨by decide, by decide⟩
theorem xn_X8_init : (parseMethodDescriptor xm_X8_init.y.desc).map (fun d => d.parameters.length) = some 0 := by decide +kernel
theorem xh_X8_newerOf : xHandle xm_X8_newerOf.y := ⟨by decide, by decide⟩
theorem xn_X8_newerOf : (parseMethodDescriptor xm_X8_newerOf.y.desc).map (fun d => d.parameters.length) = some 2 := by decide +kernel
theorem xh_X8_putByAge : xHandle xm_X8_putByAge.y := ⟨by decide, by decide⟩
theorem xn_X8_putByAge : (parseMethodDescriptor xm_X8_putByAge.y.desc).map (fun d => d.parameters.length) = some 2 := by decide +kernel
theorem xh_X8_sizeOf : xHandle xm_X8_sizeOf.y := ⟨by decide, by decide⟩
theorem xn_X8_sizeOf : (parseMethodDescriptor xm_X8_sizeOf.y.desc).map (fun d => d.parameters.length) = some 1 := by decide +kernel
theorem xh_X8_unlikePacks : xHandle xm_X8_unlikePacks.y := ⟨by decide, by decide⟩
theorem xn_X8_unlikePacks : (parseMethodDescriptor xm_X8_unlikePacks.y.desc).map (fun d => d.parameters.length) = some 2 := by decide +kernel
theorem xh_X8_versionsOf : xHandle xm_X8_versionsOf.y := ⟨by decide, by decide⟩
theorem xn_X8_versionsOf : (parseMethodDescriptor xm_X8_versionsOf.y.desc).map (fun d => d.parameters.length) = some 1 := by decide +kernel
theorem xh_X8_withOption : xHandle xm_X8_withOption.y := ⟨by decide, by decide⟩
theorem xn_X8_withOption : (parseMethodDescriptor xm_X8_withOption.y.desc).map (fun d => d.parameters.length) = some 1 := by decide +kernel
theorem xh_X9_bestVersion : xHandle xm_X9_bestVersion.y := ⟨by decide, by decide⟩
theorem xn_X9_bestVersion : (parseMethodDescriptor xm_X9_bestVersion.y.desc).map (fun d => d.parameters.length) = some 3 := by decide +kernel
theorem xh_X9_canStill : xHandle xm_X9_canStill.y := ⟨by decide, by decide⟩
theorem xn_X9_canStill : (parseMethodDescriptor xm_X9_canStill.y.desc).map (fun d => d.parameters.length) = some 2 := by decide +kernel
theorem xh_X9_find : xHandle xm_X9_find.y := ⟨by decide, by decide⟩
theorem xn_X9_find : (parseMethodDescriptor xm_X9_find.y.desc).map (fun d => d.parameters.length) = some 1 := by decide +kernel
theorem xh_X9_findTurns : xHandle xm_X9_findTurns.y := ⟨by decide, by decide⟩
theorem xn_X9_findTurns : (parseMethodDescriptor xm_X9_findTurns.y.desc).map (fun d => d.parameters.length) = some 0 := by decide +kernel
theorem xh_X9_init : xHandle xm_X9_init.y := ⟨by decide, by decide⟩
theorem xn_X9_init : (parseMethodDescriptor xm_X9_init.y.desc).map (fun d => d.parameters.length) = some 2 := by decide +kernel
theorem xh_X9_isAhead : xHandle xm_X9_isAhead.y := ⟨by decide, by decide⟩
theorem xn_X9_isAhead : (parseMethodDescriptor xm_X9_isAhead.y.desc).map (fun d => d.parameters.length) = some 2 := by decide +kernel
theorem xh_X9_mustHave : xHandle xm_X9_mustHave.y := ⟨by decide, by decide⟩
theorem xn_X9_mustHave : (parseMethodDescriptor xm_X9_mustHave.y.desc).map (fun d => d.parameters.length) = some 1 := by decide +kernel
theorem xh_X9_settle : xHandle xm_X9_settle.y := ⟨by decide, by decide⟩
theorem xn_X9_settle : (parseMethodDescriptor xm_X9_settle.y.desc).map (fun d => d.parameters.length) = some 0 := by decide +kernel
