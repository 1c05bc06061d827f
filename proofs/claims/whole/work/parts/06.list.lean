set_option maxHeartbeats 4000000 in
set_option maxRecDepth 100000 in
/-- AbstractCollection() -/
theorem c_AC_init (l : Launch) (dC : Nat → ClassId) (dI : Nat → Nat → Nat) (dA : Nat) (h0 : Nat) (sz : Nat) : Met l yJxa1e45_init_da8c8 (.code yJxa1e45_init_da8c8 cJxa1e45_init_da8c8 1 none :: wsL_law) ({ frames := 1, cells := 0, slots := 0, locals := 24 }) (va_Pc [.ref h0] (fun U => U.heap.size = sz ∧ va_P (dC, dI) vwCl [] U.heap ∧ va_K (dC, dI) vwCl [] U ∧ va_D (fun _ => True) [] ∧ kwF U ∧ kwH dA (va_A [] sz) U U.heap)) (va_Qv (fun _ : Unit => True) (fun _ t => va_P (dC, dI) vwCl [] t.heap ∧ va_K (dC, dI) vwCl [] t ∧ va_D (va_A [] sz) []) (va_A [] sz)) 0 0 (va_A [] sz) := by
  refine Met.ofW (cc := cJxa1e45_init_da8c8) (maxL := 1) (ret := none) (by decide) rfl ?_
  intro p e s m args below meth c s₁ B hml hv
  obtain ⟨rfl, hsz, hP, hK, hD0, hF, hZ⟩ := hv
  have hx := B.exec
  have hb := B.bytes
  have hr := B.returns
  have hts0 := atoms_spec (ws := (.code yJxa1e45_init_da8c8 cJxa1e45_init_da8c8 1 none :: wsL_law)) B.pre
  have hts : ∀ w ∈ wsL_law, w.before _ s = true := fun w h => hts0 w (List.mem_cons_of_mem _ h)
  have hown : s.vm.findClass RJxa1e45 = some m.cls := findClass_of_methodNamed B.named
  have hlocks := B.notSynchronized
  have hin : meth.name = "<init>" := (name_of_methodNamed B.named B.method).1
  subst hsz
  have hD := hD0.self (sz := s.heap.size)
  generalize hAe : va_A [] s.heap.size = A at hD hZ ⊢
  have hA : ∀ q : Nat, s.heap.size ≤ q → A q := fun q h => by rw [← hAe]; exact Or.inr h
  have hS : va_S A s.heap s.heap [] := va_S.rf
  have hP : va_P (dC, dI) vwCl [] s.heap := hP
  have hl := lv_entry ([.ref h0]) (n := 1) (Nat.le_of_ble_eq_true rfl)
  rw [lg_entry_eq]
  generalize (lg_sl ([.ref h0]) ++ List.replicate (1 - (lg_sl ([.ref h0])).length) Slot.unset).toArray = ls at hl ⊢
  have hl : lv_has ls 1 [(0, .ref h0)] := hl
  refine lv_aload_n hx hb dJxa1e45_init_da8c8_0 rfl (lv_at hl 0 rfl) ?_
  refine W.objInit hx hb hown (hts (.methodLink RJxa1e45 1 objectInit) (inLU_6 (.methodLink RJxa1e45 1 objectInit) (List.mem_of_getElem? (i := 21) rfl))) (hts (.instanceMethod objectInit) (inLU_1 (.instanceMethod objectInit) (List.mem_of_getElem? (i := 11) rfl))) (hts (.code objectInit ⟨#[0xb1]⟩ 1 none) (inLU_1 (.code objectInit ⟨#[0xb1]⟩ 1 none) (List.mem_of_getElem? (i := 12) rfl))) rfl (by rw [hml]; exact hl.1) rfl dJxa1e45_init_da8c8_1 (Nat.le_of_ble_eq_true rfl) (Nat.le_of_ble_eq_true rfl) ?_
  refine W.eq (g2 := F0 m 4 ls []) rfl ?_
  have hP9 := hP.sub (ws' := []) [] rfl
  have hD9 := hD.sub (ws' := []) [] (by decide) rfl
  have hK9 := hK.sub (tys' := []) [] rfl
  exact W.vret hx hb hr (fun t ht hW => ⟨⟨(), rfl, trivial, by rw [ht]; exact hP9, va_K.moved hW.alike hK9, hD9⟩, hS.F ht⟩) hS.2.2 dJxa1e45_init_da8c8_4
set_option maxHeartbeats 4000000 in
set_option maxRecDepth 100000 in
/-- AbstractList() -/
theorem c_AL_init (l : Launch) (dC : Nat → ClassId) (dI : Nat → Nat → Nat) (dA : Nat) (h0 : Nat) (sz : Nat) : Met l yJxc12de_init_da8c8 (.code yJxc12de_init_da8c8 cJxc12de_init_da8c8 1 none :: wsL_law) ({ frames := 2, cells := 0, slots := 0, locals := 44 }) (va_Pc [.ref h0] (fun U => U.heap.size = sz ∧ va_P (dC, dI) vwCl [(h0, .inr (0, [.int 0, .null, .int 0]))] U.heap ∧ va_K (dC, dI) vwCl [] U ∧ va_D (fun _ => True) [(h0, .inr (0, [.int 0, .null, .int 0]))] ∧ kwF U ∧ kwH dA (va_A [(h0, .inr (0, [.int 0, .null, .int 0]))] sz) U U.heap)) (va_Qv (fun _ : Unit => True) (fun _ t => va_P (dC, dI) vwCl [(h0, .inr (0, [.int 0, .null, .int 0]))] t.heap ∧ va_K (dC, dI) vwCl [] t ∧ va_D (va_A [(h0, .inr (0, [.int 0, .null, .int 0]))] sz) [(h0, .inr (0, [.int 0, .null, .int 0]))]) (va_A [(h0, .inr (0, [.int 0, .null, .int 0]))] sz)) 0 0 (va_A [(h0, .inr (0, [.int 0, .null, .int 0]))] sz) := by
  refine Met.ofW (cc := cJxc12de_init_da8c8) (maxL := 1) (ret := none) (by decide) rfl ?_
  intro p e s m args below meth c s₁ B hml hv
  obtain ⟨rfl, hsz, hP, hK, hD0, hF, hZ⟩ := hv
  have hx := B.exec
  have hb := B.bytes
  have hr := B.returns
  have hts0 := atoms_spec (ws := (.code yJxc12de_init_da8c8 cJxc12de_init_da8c8 1 none :: wsL_law)) B.pre
  have hts : ∀ w ∈ wsL_law, w.before _ s = true := fun w h => hts0 w (List.mem_cons_of_mem _ h)
  have hown : s.vm.findClass RJxc12de = some m.cls := findClass_of_methodNamed B.named
  have hlocks := B.notSynchronized
  have hin : meth.name = "<init>" := (name_of_methodNamed B.named B.method).1
  subst hsz
  have hD := hD0.self (sz := s.heap.size)
  generalize hAe : va_A [(h0, .inr (0, [.int 0, .null, .int 0]))] s.heap.size = A at hD hZ ⊢
  have hA : ∀ q : Nat, s.heap.size ≤ q → A q := fun q h => by rw [← hAe]; exact Or.inr h
  have hS : va_S A s.heap s.heap [] := va_S.rf
  have hP : va_P (dC, dI) vwCl [(h0, .inr (0, [.int 0, .null, .int 0]))] s.heap := hP
  have hl := lv_entry ([.ref h0]) (n := 1) (Nat.le_of_ble_eq_true rfl)
  rw [lg_entry_eq]
  generalize (lg_sl ([.ref h0]) ++ List.replicate (1 - (lg_sl ([.ref h0])).length) Slot.unset).toArray = ls at hl ⊢
  have hl : lv_has ls 1 [(0, .ref h0)] := hl
  refine lv_aload_n hx hb dJxc12de_init_da8c8_0 rfl (lv_at hl 0 rfl) ?_
  have hPc := hP.sub (ws' := []) [] rfl
  have hDc := hD.sub (ws' := []) [] (by decide) rfl
  have hKc := hK.sub (tys' := []) [] rfl
  have hFc := va_free (wc := []) hD hS hA [] rfl
  refine va_callv (va_runI (As := []) (rest := []) ⟨hx, hb, hml, hown, hts⟩ (c_AC_init l dC dI dA h0 s.heap.size) (cwI 0 hts (gLU_I (inLU_6 (.code yJxa1e45_init_da8c8 cJxa1e45_init_da8c8 1 none) (List.mem_of_getElem? (i := 20) rfl))) rfl rfl rfl (hts (.initialized RJxa1e45) (inLU_6 (.initialized RJxa1e45) (List.mem_of_getElem? (i := 19) rfl))) (hts (.methodLink RJxc12de 1 yJxa1e45_init_da8c8) (inLU_6 (.methodLink RJxc12de 1 yJxa1e45_init_da8c8) (List.mem_of_getElem? (i := 17) rfl))) (hts (.instanceMethod yJxa1e45_init_da8c8) (inLU_6 (.instanceMethod yJxa1e45_init_da8c8) (List.mem_of_getElem? (i := 18) rfl))) rfl (by decide +kernel) ⟨Nat.le_of_ble_eq_true rfl, Nat.le_of_ble_eq_true rfl⟩) ⟨fun a U g mk q => by obtain ⟨q0, q1, qP, qK, qD, qF, qZ⟩ := q; exact ⟨q0, q1, qP, va_K.moved (u := U) (U := U.calling g mk a) (Vm.Alike.refl U.vm) qK, qD, kwF.same (u := U) (U := U.calling g mk a) rfl qF, kwH.moved (u := U) (U := U.calling g mk a) (Vm.Alike.refl U.vm) qZ⟩, fun U hU hW => ⟨rfl, by rw [hU], by rw [hU]; exact hPc, va_K.moved hW.alike hKc, hDc.weaken (fun _ _ _ _ => trivial), kwF.warm hW hF, kwH.at hZ hS hFc hW.alike hU⟩⟩ rfl rfl hl.1 rfl (lv_room (Nat.le_of_ble_eq_true rfl)) dJxc12de_init_da8c8_1 ⟨Nat.le_of_ble_eq_true rfl, Nat.le_of_ble_eq_true rfl⟩) hS (fun q _ h => hFc q h) hFc (fun u t H1 locs ht hvm hw hB hz1 hk1 hS => ?_)
  obtain ⟨hP1, hK1, hD1⟩ := hB
  rw [ht] at hP1
  have hK1 := va_K.moved hvm.symm hK1
  obtain ⟨hP, hD⟩ := va_join (wr := [(h0, .inr (0, [.int 0, .null, .int 0]))]) (w1 := []) hP hD [] [0] rfl rfl (by decide) (by decide) hk1 hFc hP1 hD1
  have hK := hK.app hK1
  generalize H1 = H at hP hS ⊢
  have hK : va_K (dC, dI) vwCl [] s := hK
  have hP : va_P (dC, dI) vwCl [(h0, .inr (0, [.int 0, .null, .int 0]))] H := hP
  have hD : va_D A [(h0, .inr (0, [.int 0, .null, .int 0]))] := hD
  refine W.widen (k := 0) (n := 0) (Nat.le_of_ble_eq_true rfl) (Nat.le_of_ble_eq_true rfl) ?_
  refine lv_aload_n hx hb dJxc12de_init_da8c8_4 rfl (lv_at hl 0 rfl) ?_
  refine lv_iconst (v := 0) hx hb dJxc12de_init_da8c8_5 (by decide) ?_
  refine va_put (D := (dC, dI)) (ci := 0) (v := .int 0) (ty := .int) (C := RJx4a65c) (T := TJx4a65c) (N := 3) hx hb hts inlJx4a65c tyJx4a65c tyJx4a65c_ok nmJx4a65c hown hK hP hD hS 0 rfl rfl 0 (by decide) (hts (.fieldLink RJxc12de 7 "java/util/AbstractList" "modCount" "I") (inLU_6 (.fieldLink RJxc12de 7 "java/util/AbstractList" "modCount" "I") (List.mem_of_getElem? (i := 16) rfl))) (fun _ h9 => h9) rfl (tyJx4a65c_ok 0 (by decide)) rfl rfl (Nat.le_of_ble_eq_true rfl) dJxc12de_init_da8c8_6 (fun H locs hP hD hS => ?_)
  have hP : va_P (dC, dI) vwCl [(h0, .inr (0, [.int 0, .null, .int 0]))] H := hP
  have hD : va_D A [(h0, .inr (0, [.int 0, .null, .int 0]))] := hD
  have hP9 := hP.sub (ws' := [(h0, .inr (0, [.int 0, .null, .int 0]))]) [0] rfl
  have hD9 := hD.sub (ws' := [(h0, .inr (0, [.int 0, .null, .int 0]))]) [0] (by decide) rfl
  have hK9 := hK.sub (tys' := []) [] rfl
  exact W.vret hx hb hr (fun t ht hW => ⟨⟨(), rfl, trivial, by rw [ht]; exact hP9, va_K.moved hW.alike hK9, hD9⟩, hS.F ht⟩) hS.2.2 dJxc12de_init_da8c8_9
set_option maxHeartbeats 4000000 in
set_option maxRecDepth 100000 in
/-- ArrayList(): the empty array that all empty lists share -/
theorem c_List_init (l : Launch) (dC : Nat → ClassId) (dI : Nat → Nat → Nat) (dA : Nat) (h0 : Nat) (sz : Nat) : Met l yJx4a65c_init_da8c8 (.code yJx4a65c_init_da8c8 cJx4a65c_init_da8c8 1 none :: wsL_law) ({ frames := 3, cells := 0, slots := 0, locals := 64 }) (va_Pc [.ref h0] (fun U => U.heap.size = sz ∧ va_P (dC, dI) vwCl [(h0, .inr (0, [.int 0, .null, .int 0]))] U.heap ∧ va_K (dC, dI) vwCl [] U ∧ va_D (fun _ => True) [(h0, .inr (0, [.int 0, .null, .int 0]))] ∧ kwF U ∧ kwH dA (va_A [(h0, .inr (0, [.int 0, .null, .int 0]))] sz) U U.heap)) (va_Qv (fun _ : Unit => True) (fun _ t => va_P (dC, dI) vwCl [(h0, .inr (0, [.int 0, .ref dA, .int 0]))] t.heap ∧ va_K (dC, dI) vwCl [] t ∧ va_D (va_A [(h0, .inr (0, [.int 0, .null, .int 0]))] sz) [(h0, .inr (0, [.int 0, .ref dA, .int 0]))]) (va_A [(h0, .inr (0, [.int 0, .null, .int 0]))] sz)) 0 0 (va_A [(h0, .inr (0, [.int 0, .null, .int 0]))] sz) := by
  refine Met.ofW (cc := cJx4a65c_init_da8c8) (maxL := 1) (ret := none) (by decide) rfl ?_
  intro p e s m args below meth c s₁ B hml hv
  obtain ⟨rfl, hsz, hP, hK, hD0, hF, hZ⟩ := hv
  have hx := B.exec
  have hb := B.bytes
  have hr := B.returns
  have hts0 := atoms_spec (ws := (.code yJx4a65c_init_da8c8 cJx4a65c_init_da8c8 1 none :: wsL_law)) B.pre
  have hts : ∀ w ∈ wsL_law, w.before _ s = true := fun w h => hts0 w (List.mem_cons_of_mem _ h)
  have hown : s.vm.findClass RJx4a65c = some m.cls := findClass_of_methodNamed B.named
  have hlocks := B.notSynchronized
  have hin : meth.name = "<init>" := (name_of_methodNamed B.named B.method).1
  subst hsz
  have hD := hD0.self (sz := s.heap.size)
  generalize hAe : va_A [(h0, .inr (0, [.int 0, .null, .int 0]))] s.heap.size = A at hD hZ ⊢
  have hA : ∀ q : Nat, s.heap.size ≤ q → A q := fun q h => by rw [← hAe]; exact Or.inr h
  have hS : va_S A s.heap s.heap [] := va_S.rf
  have hP : va_P (dC, dI) vwCl [(h0, .inr (0, [.int 0, .null, .int 0]))] s.heap := hP
  have hl := lv_entry ([.ref h0]) (n := 1) (Nat.le_of_ble_eq_true rfl)
  rw [lg_entry_eq]
  generalize (lg_sl ([.ref h0]) ++ List.replicate (1 - (lg_sl ([.ref h0])).length) Slot.unset).toArray = ls at hl ⊢
  have hl : lv_has ls 1 [(0, .ref h0)] := hl
  refine lv_aload_n hx hb dJx4a65c_init_da8c8_0 rfl (lv_at hl 0 rfl) ?_
  have hPc := hP.sub (ws' := [(h0, .inr (0, [.int 0, .null, .int 0]))]) [0] rfl
  have hDc := hD.sub (ws' := [(h0, .inr (0, [.int 0, .null, .int 0]))]) [0] (by decide) rfl
  have hKc := hK.sub (tys' := []) [] rfl
  have hFc := va_free (wc := [(h0, .inr (0, [.int 0, .null, .int 0]))]) hD hS hA [0] rfl
  refine va_callv (va_runI (As := []) (rest := []) ⟨hx, hb, hml, hown, hts⟩ (c_AL_init l dC dI dA h0 s.heap.size) (cwI 0 hts (gLU_I (inLU_6 (.code yJxc12de_init_da8c8 cJxc12de_init_da8c8 1 none) (List.mem_of_getElem? (i := 15) rfl))) rfl rfl rfl (hts (.initialized RJxc12de) (inLU_6 (.initialized RJxc12de) (List.mem_of_getElem? (i := 14) rfl))) (hts (.methodLink RJx4a65c 1 yJxc12de_init_da8c8) (inLU_6 (.methodLink RJx4a65c 1 yJxc12de_init_da8c8) (List.mem_of_getElem? (i := 12) rfl))) (hts (.instanceMethod yJxc12de_init_da8c8) (inLU_6 (.instanceMethod yJxc12de_init_da8c8) (List.mem_of_getElem? (i := 13) rfl))) rfl (by decide +kernel) ⟨Nat.le_of_ble_eq_true rfl, Nat.le_of_ble_eq_true rfl⟩) ⟨fun a U g mk q => by obtain ⟨q0, q1, qP, qK, qD, qF, qZ⟩ := q; exact ⟨q0, q1, qP, va_K.moved (u := U) (U := U.calling g mk a) (Vm.Alike.refl U.vm) qK, qD, kwF.same (u := U) (U := U.calling g mk a) rfl qF, kwH.moved (u := U) (U := U.calling g mk a) (Vm.Alike.refl U.vm) qZ⟩, fun U hU hW => ⟨rfl, by rw [hU], by rw [hU]; exact hPc, va_K.moved hW.alike hKc, hDc.weaken (fun _ _ _ _ => trivial), kwF.warm hW hF, kwH.at hZ hS hFc hW.alike hU⟩⟩ rfl rfl hl.1 rfl (lv_room (Nat.le_of_ble_eq_true rfl)) dJx4a65c_init_da8c8_1 ⟨Nat.le_of_ble_eq_true rfl, Nat.le_of_ble_eq_true rfl⟩) hS (fun q _ h => hFc q h) hFc (fun u t H1 locs ht hvm hw hB hz1 hk1 hS => ?_)
  obtain ⟨hP1, hK1, hD1⟩ := hB
  rw [ht] at hP1
  have hK1 := va_K.moved hvm.symm hK1
  obtain ⟨hP, hD⟩ := va_join (wr := []) (w1 := [(h0, .inr (0, [.int 0, .null, .int 0]))]) hP hD [0] [] rfl rfl (by decide) (by decide) hk1 hFc hP1 hD1
  have hK := hK.app hK1
  generalize H1 = H at hP hS ⊢
  have hK : va_K (dC, dI) vwCl [] s := hK
  have hP : va_P (dC, dI) vwCl [(h0, .inr (0, [.int 0, .null, .int 0]))] H := hP
  have hD : va_D A [(h0, .inr (0, [.int 0, .null, .int 0]))] := hD
  refine W.widen (k := 0) (n := 0) (Nat.le_of_ble_eq_true rfl) (Nat.le_of_ble_eq_true rfl) ?_
  refine lv_aload_n hx hb dJx4a65c_init_da8c8_4 rfl (lv_at hl 0 rfl) ?_
  refine va_gets hx hb hZ.1 hS hown (hts (.fieldLink RJx4a65c 39 "java/util/ArrayList" "DEFAULTCAPACITY_EMPTY_ELEMENTDATA" "[Ljava/lang/Object;") (inLU_6 (.fieldLink RJx4a65c 39 "java/util/ArrayList" "DEFAULTCAPACITY_EMPTY_ELEMENTDATA" "[Ljava/lang/Object;") (List.mem_of_getElem? (i := 10) rfl))) (fun _ h9 => h9) dJx4a65c_init_da8c8_5 ?_
  refine va_put (D := (dC, dI)) (ci := 0) (v := .ref dA) (ty := .array (.object "java/lang/Object")) (C := RJx4a65c) (T := TJx4a65c) (N := 3) hx hb hts inlJx4a65c tyJx4a65c tyJx4a65c_ok nmJx4a65c hown hK hP hD hS 0 rfl rfl 1 (by decide) (hts (.fieldLink RJx4a65c 9 "java/util/ArrayList" "elementData" "[Ljava/lang/Object;") (inLU_6 (.fieldLink RJx4a65c 9 "java/util/ArrayList" "elementData" "[Ljava/lang/Object;") (List.mem_of_getElem? (i := 11) rfl))) (fun _ h9 => h9) rfl (tyJx4a65c_ok 1 (by decide)) rfl rfl (Nat.le_of_ble_eq_true rfl) dJx4a65c_init_da8c8_8 (fun H locs hP hD hS => ?_)
  have hP : va_P (dC, dI) vwCl [(h0, .inr (0, [.int 0, .ref dA, .int 0]))] H := hP
  have hD : va_D A [(h0, .inr (0, [.int 0, .ref dA, .int 0]))] := hD
  have hP9 := hP.sub (ws' := [(h0, .inr (0, [.int 0, .ref dA, .int 0]))]) [0] rfl
  have hD9 := hD.sub (ws' := [(h0, .inr (0, [.int 0, .ref dA, .int 0]))]) [0] (by decide) rfl
  have hK9 := hK.sub (tys' := []) [] rfl
  exact W.vret hx hb hr (fun t ht hW => ⟨⟨(), rfl, trivial, by rw [ht]; exact hP9, va_K.moved hW.alike hK9, hD9⟩, hS.F ht⟩) hS.2.2 dJx4a65c_init_da8c8_11
set_option maxHeartbeats 4000000 in
set_option maxRecDepth 100000 in
/-- grow(1) of an empty list: ten places -/
theorem c_List_growTo (l : Launch) (dC : Nat → ClassId) (dI : Nat → Nat → Nat) (dA : Nat) (h0 : Nat) (sz : Nat) : Met l yJx4a65c_grow_92f84 (.code yJx4a65c_grow_92f84 cJx4a65c_grow_92f84 4 (some (.array (.object "java/lang/Object"))) :: wsL_law) ({ frames := 1, cells := 1, slots := 10, locals := 24 }) (va_Pc [.ref h0, .int 1] (fun U => U.heap.size = sz ∧ va_P (dC, dI) vwCl [(h0, .inr (0, [.int 1, .ref dA, .int 0]))] U.heap ∧ va_K (dC, dI) vwCl [] U ∧ va_D (fun _ => True) [(h0, .inr (0, [.int 1, .ref dA, .int 0]))] ∧ kwF U ∧ kwH dA (va_A [(h0, .inr (0, [.int 1, .ref dA, .int 0]))] sz) U U.heap)) (va_Qr (fun _ : Unit => True) (fun _ (q4 : Nat) t => ∃ (cA5 : ClassId), va_P (dC, dI) vwCl [(h0, .inr (0, [.int 1, .ref q4, .int 0])), (q4, .inl (cA5, 10, .inr (.inr (.inr (.inr (fun _ => none))))))] t.heap ∧ va_K (dC, dI) vwCl [(cA5, .object "java/lang/Object")] t ∧ va_D (va_A [(h0, .inr (0, [.int 1, .ref dA, .int 0]))] sz) [(h0, .inr (0, [.int 1, .ref q4, .int 0])), (q4, .inl (cA5, 10, .inr (.inr (.inr (.inr (fun _ => none))))))]) (va_A [(h0, .inr (0, [.int 1, .ref dA, .int 0]))] sz)) 1 10 (va_A [(h0, .inr (0, [.int 1, .ref dA, .int 0]))] sz) := by
  refine Met.ofW (cc := cJx4a65c_grow_92f84) (maxL := 4) (ret := (some (.array (.object "java/lang/Object")))) (by decide) rfl ?_
  intro p e s m args below meth c s₁ B hml hv
  obtain ⟨rfl, hsz, hP, hK, hD0, hF, hZ⟩ := hv
  have hx := B.exec
  have hb := B.bytes
  have hr := B.returns
  have hts0 := atoms_spec (ws := (.code yJx4a65c_grow_92f84 cJx4a65c_grow_92f84 4 (some (.array (.object "java/lang/Object"))) :: wsL_law)) B.pre
  have hts : ∀ w ∈ wsL_law, w.before _ s = true := fun w h => hts0 w (List.mem_cons_of_mem _ h)
  have hown : s.vm.findClass RJx4a65c = some m.cls := findClass_of_methodNamed B.named
  have hlocks := B.notSynchronized
  have hin : meth.name = "grow" := (name_of_methodNamed B.named B.method).1
  subst hsz
  have hD := hD0.self (sz := s.heap.size)
  generalize hAe : va_A [(h0, .inr (0, [.int 1, .ref dA, .int 0]))] s.heap.size = A at hD hZ ⊢
  have hA : ∀ q : Nat, s.heap.size ≤ q → A q := fun q h => by rw [← hAe]; exact Or.inr h
  have hS : va_S A s.heap s.heap [] := va_S.rf
  have hP : va_P (dC, dI) vwCl [(h0, .inr (0, [.int 1, .ref dA, .int 0]))] s.heap := hP
  have hl := lv_entry ([.ref h0, .int 1]) (n := 4) (Nat.le_of_ble_eq_true rfl)
  rw [lg_entry_eq]
  generalize (lg_sl ([.ref h0, .int 1]) ++ List.replicate (4 - (lg_sl ([.ref h0, .int 1])).length) Slot.unset).toArray = ls at hl ⊢
  have hl : lv_has ls 4 [(0, .ref h0), (1, .int 1)] := hl
  refine lv_aload_n hx hb dJx4a65c_grow_92f84_0 rfl (lv_at hl 0 rfl) ?_
  refine va_get (D := (dC, dI)) (ci := 0) (v := .ref dA) (C := RJx4a65c) (T := TJx4a65c) (N := 3) hx hb hts inlJx4a65c hown hK hP 0 rfl rfl 1 (by decide) (hts (.fieldLink RJx4a65c 9 "java/util/ArrayList" "elementData" "[Ljava/lang/Object;") (inLU_6 (.fieldLink RJx4a65c 9 "java/util/ArrayList" "elementData" "[Ljava/lang/Object;") (List.mem_of_getElem? (i := 11) rfl))) (fun _ h9 => h9) rfl dJx4a65c_grow_92f84_1 ?_
  refine va_tlen (v := 0) hx hb hZ.2.1 hS rfl dJx4a65c_grow_92f84_4 ?_
  refine lv_istore_n (lv' := [(2, .int 0), (0, .ref h0), (1, .int 1)]) hx hb dJx4a65c_grow_92f84_5 rfl hl (by decide) rfl (fun ls hl => ?_)
  refine lv_iload_n hx hb dJx4a65c_grow_92f84_6 rfl (lv_at hl 0 rfl) ?_
  refine lv_if_gt (tgt := 20) hx hb dJx4a65c_grow_92f84_7 (by decide) (fun c1 => absurd c1 (by decide)) (fun _ => ?_)
  refine lv_aload_n hx hb dJx4a65c_grow_92f84_10 rfl (lv_at hl 1 rfl) ?_
  refine va_get (D := (dC, dI)) (ci := 0) (v := .ref dA) (C := RJx4a65c) (T := TJx4a65c) (N := 3) hx hb hts inlJx4a65c hown hK hP 0 rfl rfl 1 (by decide) (hts (.fieldLink RJx4a65c 9 "java/util/ArrayList" "elementData" "[Ljava/lang/Object;") (inLU_6 (.fieldLink RJx4a65c 9 "java/util/ArrayList" "elementData" "[Ljava/lang/Object;") (List.mem_of_getElem? (i := 11) rfl))) (fun _ h9 => h9) rfl dJx4a65c_grow_92f84_11 ?_
  refine va_gets hx hb hZ.1 hS hown (hts (.fieldLink RJx4a65c 39 "java/util/ArrayList" "DEFAULTCAPACITY_EMPTY_ELEMENTDATA" "[Ljava/lang/Object;") (inLU_6 (.fieldLink RJx4a65c 39 "java/util/ArrayList" "DEFAULTCAPACITY_EMPTY_ELEMENTDATA" "[Ljava/lang/Object;") (List.mem_of_getElem? (i := 10) rfl))) (fun _ h9 => h9) dJx4a65c_grow_92f84_14 ?_
  refine lv_acmp_eq (rx := (some dA)) (ry := (some dA)) (tgt := 45) hx hb dJx4a65c_grow_92f84_17 (by decide) (fun _ => ?_) (fun c2 => absurd rfl c2)
  refine lv_aload_n hx hb dJx4a65c_grow_92f84_45 rfl (lv_at hl 1 rfl) ?_
  refine lv_bipush (v := 10) hx hb dJx4a65c_grow_92f84_46 (by decide) ?_
  refine lv_iload_n hx hb dJx4a65c_grow_92f84_48 rfl (lv_at hl 2 rfl) ?_
  refine va_mmax hx hb (by rw [hml]; exact hl.1.symm) hown (hts (.methodLink RJx4a65c 79 Lib.Math.max.name) (inLU_11 (.methodLink RJx4a65c 79 Lib.Math.max.name) (List.mem_of_getElem? (i := 8) rfl))) (hts (.static Lib.Math.max.name) (inLU_11 (.static Lib.Math.max.name) (List.mem_of_getElem? (i := 9) rfl))) (hts (.initialized "java/lang/Math") (inLU_11 (.initialized "java/lang/Math") (List.mem_of_getElem? (i := 10) rfl))) (hts (.code Lib.Math.max.name Lib.Math.max.code 2 (some .int)) (inLU_11 (.code Lib.Math.max.name Lib.Math.max.code 2 (some .int)) (List.mem_of_getElem? (i := 11) rfl))) (Nat.le_of_ble_eq_true rfl) (Nat.le_of_ble_eq_true rfl) (Nat.le_of_ble_eq_true rfl) (Nat.le_of_ble_eq_true rfl) dJx4a65c_grow_92f84_49 ?_
  refine lv_topi (fun x3 ex3 => ?_)
  obtain rfl : x3 = 10 := ex3.trans (by decide)
  refine va_newq (C := "java/lang/Object") (N' := 10) hx hb hown (hts (.classLink RJx4a65c 7 "java/lang/Object") (inLU_11 (.classLink RJx4a65c 7 "java/lang/Object") (List.mem_of_getElem? (i := 12) rfl))) (kw_AO_java_lang_Object hF) hK hP hD hS hA (by decide) (by decide) (by decide) (Nat.le_of_ble_eq_true rfl) (Nat.le_of_ble_eq_true rfl) dJx4a65c_grow_92f84_52 (fun q4 cA5 H hK hP hD hS => ?_)
  have hK : va_K (dC, dI) vwCl [(cA5, .object "java/lang/Object")] s := hK
  have hP : va_P (dC, dI) vwCl [(h0, .inr (0, [.int 1, .ref dA, .int 0])), (q4, .inl (cA5, 10, .inr (.inr (.inr (.inr (fun _ => none))))))] H := hP
  have hD : va_D A [(h0, .inr (0, [.int 1, .ref dA, .int 0])), (q4, .inl (cA5, 10, .inr (.inr (.inr (.inr (fun _ => none))))))] := hD
  refine W.widen (k := 1) (n := 10) (Nat.le_of_ble_eq_true rfl) (Nat.le_of_ble_eq_true rfl) ?_
  refine lv_dup_x1 hx hb dJx4a65c_grow_92f84_55 rfl rfl ?_
  refine va_put (D := (dC, dI)) (ci := 0) (v := .ref q4) (ty := .array (.object "java/lang/Object")) (C := RJx4a65c) (T := TJx4a65c) (N := 3) hx hb hts inlJx4a65c tyJx4a65c tyJx4a65c_ok nmJx4a65c hown hK hP hD hS 0 rfl rfl 1 (by decide) (hts (.fieldLink RJx4a65c 9 "java/util/ArrayList" "elementData" "[Ljava/lang/Object;") (inLU_6 (.fieldLink RJx4a65c 9 "java/util/ArrayList" "elementData" "[Ljava/lang/Object;") (List.mem_of_getElem? (i := 11) rfl))) (fun _ h9 => h9) rfl (tyJx4a65c_ok 1 (by decide)) rfl rfl (Nat.le_of_ble_eq_true rfl) dJx4a65c_grow_92f84_56 (fun H locs hP hD hS => ?_)
  have hP : va_P (dC, dI) vwCl [(h0, .inr (0, [.int 1, .ref q4, .int 0])), (q4, .inl (cA5, 10, .inr (.inr (.inr (.inr (fun _ => none))))))] H := hP
  have hD : va_D A [(h0, .inr (0, [.int 1, .ref q4, .int 0])), (q4, .inl (cA5, 10, .inr (.inr (.inr (.inr (fun _ => none))))))] := hD
  have hP9 := hP.sub (ws' := [(h0, .inr (0, [.int 1, .ref q4, .int 0])), (q4, .inl (cA5, 10, .inr (.inr (.inr (.inr (fun _ => none))))))]) [0, 1] rfl
  have hD9 := hD.sub (ws' := [(h0, .inr (0, [.int 1, .ref q4, .int 0])), (q4, .inl (cA5, 10, .inr (.inr (.inr (.inr (fun _ => none))))))]) [0, 1] (by decide) rfl
  have hK9 := hK.sub (tys' := [(cA5, .object "java/lang/Object")]) [0] rfl
  exact W.aret (v := .ref q4) hx hb hr (by first | exact Or.inr ⟨_, rfl⟩ | exact Or.inl ⟨_, rfl⟩) (Or.inr ⟨_, rfl⟩) (fun t ht hW => ⟨⟨(), q4, rfl, trivial, cA5, by rw [ht]; exact hP9, va_K.moved hW.alike hK9, hD9⟩, hS.F ht⟩) hS.2.2 dJx4a65c_grow_92f84_59
set_option maxHeartbeats 4000000 in
set_option maxRecDepth 100000 in
/-- grow() of an empty list -/
theorem c_List_grow (l : Launch) (dC : Nat → ClassId) (dI : Nat → Nat → Nat) (dA : Nat) (h0 : Nat) (sz : Nat) : Met l yJx4a65c_grow_d5877 (.code yJx4a65c_grow_d5877 cJx4a65c_grow_d5877 1 (some (.array (.object "java/lang/Object"))) :: wsL_law) ({ frames := 2, cells := 1, slots := 10, locals := 47 }) (va_Pc [.ref h0] (fun U => U.heap.size = sz ∧ va_P (dC, dI) vwCl [(h0, .inr (0, [.int 1, .ref dA, .int 0]))] U.heap ∧ va_K (dC, dI) vwCl [] U ∧ va_D (fun _ => True) [(h0, .inr (0, [.int 1, .ref dA, .int 0]))] ∧ kwF U ∧ kwH dA (va_A [(h0, .inr (0, [.int 1, .ref dA, .int 0]))] sz) U U.heap)) (va_Qr (fun _ : Unit => True) (fun _ (q2 : Nat) t => ∃ (cA3 : ClassId), va_P (dC, dI) vwCl [(h0, .inr (0, [.int 1, .ref q2, .int 0])), (q2, .inl (cA3, 10, .inr (.inr (.inr (.inr (fun _ => none))))))] t.heap ∧ va_K (dC, dI) vwCl [(cA3, .object "java/lang/Object")] t ∧ va_D (va_A [(h0, .inr (0, [.int 1, .ref dA, .int 0]))] sz) [(h0, .inr (0, [.int 1, .ref q2, .int 0])), (q2, .inl (cA3, 10, .inr (.inr (.inr (.inr (fun _ => none))))))]) (va_A [(h0, .inr (0, [.int 1, .ref dA, .int 0]))] sz)) 1 10 (va_A [(h0, .inr (0, [.int 1, .ref dA, .int 0]))] sz) := by
  refine Met.ofW (cc := cJx4a65c_grow_d5877) (maxL := 1) (ret := (some (.array (.object "java/lang/Object")))) (by decide) rfl ?_
  intro p e s m args below meth c s₁ B hml hv
  obtain ⟨rfl, hsz, hP, hK, hD0, hF, hZ⟩ := hv
  have hx := B.exec
  have hb := B.bytes
  have hr := B.returns
  have hts0 := atoms_spec (ws := (.code yJx4a65c_grow_d5877 cJx4a65c_grow_d5877 1 (some (.array (.object "java/lang/Object"))) :: wsL_law)) B.pre
  have hts : ∀ w ∈ wsL_law, w.before _ s = true := fun w h => hts0 w (List.mem_cons_of_mem _ h)
  have hown : s.vm.findClass RJx4a65c = some m.cls := findClass_of_methodNamed B.named
  have hlocks := B.notSynchronized
  have hin : meth.name = "grow" := (name_of_methodNamed B.named B.method).1
  subst hsz
  have hD := hD0.self (sz := s.heap.size)
  generalize hAe : va_A [(h0, .inr (0, [.int 1, .ref dA, .int 0]))] s.heap.size = A at hD hZ ⊢
  have hA : ∀ q : Nat, s.heap.size ≤ q → A q := fun q h => by rw [← hAe]; exact Or.inr h
  have hS : va_S A s.heap s.heap [] := va_S.rf
  have hP : va_P (dC, dI) vwCl [(h0, .inr (0, [.int 1, .ref dA, .int 0]))] s.heap := hP
  have hl := lv_entry ([.ref h0]) (n := 1) (Nat.le_of_ble_eq_true rfl)
  rw [lg_entry_eq]
  generalize (lg_sl ([.ref h0]) ++ List.replicate (1 - (lg_sl ([.ref h0])).length) Slot.unset).toArray = ls at hl ⊢
  have hl : lv_has ls 1 [(0, .ref h0)] := hl
  refine lv_aload_n hx hb dJx4a65c_grow_d5877_0 rfl (lv_at hl 0 rfl) ?_
  refine lv_aload_n hx hb dJx4a65c_grow_d5877_1 rfl (lv_at hl 0 rfl) ?_
  refine va_get (D := (dC, dI)) (ci := 0) (v := .int 0) (C := RJx4a65c) (T := TJx4a65c) (N := 3) hx hb hts inlJx4a65c hown hK hP 0 rfl rfl 2 (by decide) (hts (.fieldLink RJx4a65c 48 "java/util/ArrayList" "size" "I") (inLU_10 (.fieldLink RJx4a65c 48 "java/util/ArrayList" "size" "I") (List.mem_of_getElem? (i := 19) rfl))) (fun _ h9 => h9) rfl dJx4a65c_grow_d5877_2 ?_
  refine lv_iconst (v := 1) hx hb dJx4a65c_grow_d5877_5 (by decide) ?_
  refine lv_iadd hx hb dJx4a65c_grow_d5877_6 ?_
  refine lv_topi (fun x1 ex1 => ?_)
  obtain rfl : x1 = 1 := ex1.trans (by decide)
  have hPc := hP.sub (ws' := [(h0, .inr (0, [.int 1, .ref dA, .int 0]))]) [0] rfl
  have hDc := hD.sub (ws' := [(h0, .inr (0, [.int 1, .ref dA, .int 0]))]) [0] (by decide) rfl
  have hKc := hK.sub (tys' := []) [] rfl
  have hFc := va_free (wc := [(h0, .inr (0, [.int 1, .ref dA, .int 0]))]) hD hS hA [0] rfl
  refine va_callr (va_runV (As := [.int 1]) (rest := []) ⟨hx, hb, hml, hown, hts⟩ (c_List_growTo l dC dI dA h0 s.heap.size) (cwV 1 hts (gLU_V (inLU_11 (.methodLink RJx4a65c 69 yJx4a65c_grow_92f84) (List.mem_of_getElem? (i := 4) rfl)) (inLU_11 (.instanceMethod yJx4a65c_grow_92f84) (List.mem_of_getElem? (i := 5) rfl)) (inLU_11 (.selects RJx4a65c yJx4a65c_grow_92f84 yJx4a65c_grow_92f84) (List.mem_of_getElem? (i := 6) rfl)) (inLU_1 (.initialized RJx4a65c) (List.mem_of_getElem? (i := 23) rfl)) (inLU_11 (.code yJx4a65c_grow_92f84 cJx4a65c_grow_92f84 4 (some (.array (.object "java/lang/Object")))) (List.mem_of_getElem? (i := 7) rfl))) rfl rfl rfl (by decide +kernel) ⟨Nat.le_of_ble_eq_true rfl, Nat.le_of_ble_eq_true rfl⟩) ⟨fun a U g mk q => by obtain ⟨q0, q1, qP, qK, qD, qF, qZ⟩ := q; exact ⟨q0, q1, qP, va_K.moved (u := U) (U := U.calling g mk a) (Vm.Alike.refl U.vm) qK, qD, kwF.same (u := U) (U := U.calling g mk a) rfl qF, kwH.moved (u := U) (U := U.calling g mk a) (Vm.Alike.refl U.vm) qZ⟩, va_recv hKc hPc (ci := 0) (q0 := 0) rfl rfl, fun U hU hW => ⟨rfl, by rw [hU], by rw [hU]; exact hPc, va_K.moved hW.alike hKc, hDc.weaken (fun _ _ _ _ => trivial), kwF.warm hW hF, kwH.at hZ hS hFc hW.alike hU⟩⟩ rfl rfl hl.1 rfl (lv_room (Nat.le_of_ble_eq_true rfl)) dJx4a65c_grow_d5877_7 ⟨Nat.le_of_ble_eq_true rfl, Nat.le_of_ble_eq_true rfl⟩) hS (fun q _ h => hFc q h) hFc (fun u q2 t H1 locs ht hvm hw hB hz1 hk1 hS => ?_)
  obtain ⟨cA3, hP1, hK1, hD1⟩ := hB
  rw [ht] at hP1
  have hK1 := va_K.moved hvm.symm hK1
  obtain ⟨hP, hD⟩ := va_join (wr := []) (w1 := [(h0, .inr (0, [.int 1, .ref q2, .int 0])), (q2, .inl (cA3, 10, .inr (.inr (.inr (.inr (fun _ => none))))))]) hP hD [0] [] rfl rfl (by decide) (by decide) hk1 hFc hP1 hD1
  have hK := hK.app hK1
  generalize H1 = H at hP hS ⊢
  have hK : va_K (dC, dI) vwCl [(cA3, .object "java/lang/Object")] s := hK
  have hP : va_P (dC, dI) vwCl [(h0, .inr (0, [.int 1, .ref q2, .int 0])), (q2, .inl (cA3, 10, .inr (.inr (.inr (.inr (fun _ => none))))))] H := hP
  have hD : va_D A [(h0, .inr (0, [.int 1, .ref q2, .int 0])), (q2, .inl (cA3, 10, .inr (.inr (.inr (.inr (fun _ => none))))))] := hD
  refine W.widen (k := 1) (n := 10) (Nat.le_of_ble_eq_true rfl) (Nat.le_of_ble_eq_true rfl) ?_
  have hP9 := hP.sub (ws' := [(h0, .inr (0, [.int 1, .ref q2, .int 0])), (q2, .inl (cA3, 10, .inr (.inr (.inr (.inr (fun _ => none))))))]) [0, 1] rfl
  have hD9 := hD.sub (ws' := [(h0, .inr (0, [.int 1, .ref q2, .int 0])), (q2, .inl (cA3, 10, .inr (.inr (.inr (.inr (fun _ => none))))))]) [0, 1] (by decide) rfl
  have hK9 := hK.sub (tys' := [(cA3, .object "java/lang/Object")]) [0] rfl
  exact W.aret (v := .ref q2) hx hb hr (by first | exact Or.inr ⟨_, rfl⟩ | exact Or.inl ⟨_, rfl⟩) (Or.inr ⟨_, rfl⟩) (fun t ht hW => ⟨⟨(), q2, rfl, trivial, cA3, by rw [ht]; exact hP9, va_K.moved hW.alike hK9, hD9⟩, hS.F ht⟩) hS.2.2 dJx4a65c_grow_d5877_10
set_option maxHeartbeats 4000000 in
set_option maxRecDepth 100000 in
/-- the first element -/
theorem c_List_put0 (l : Launch) (dC : Nat → ClassId) (dI : Nat → Nat → Nat) (dA : Nat) (h0 : Nat) (a1 : Nat) (st_shelf : Nat) (st_first : Nat) (st_second : Nat) (st_third : Nat) (st_at : Int32) (st_locks : Nat) (st_mirrors : Int32) (st_fetched : Int32) (st_wrong : Nat) (st_offered : Nat) (st_offeredSums : Nat) (sz : Nat) : Met l yJx4a65c_add_72be8 (.code yJx4a65c_add_72be8 cJx4a65c_add_72be8 4 none :: wsL_law) ({ frames := 3, cells := 1, slots := 10, locals := 67 }) (va_Pc [.ref h0, .ref a1, .ref dA, .int 0] (fun U => U.heap.size = sz ∧ va_P (dC, dI) vwCl [(h0, .inr (0, [.int 1, .ref dA, .int 0])), (a1, .inr (12, [.ref st_shelf, .ref st_first, .ref st_second, .ref st_third, .int st_at, .ref st_locks, .int st_mirrors, .int st_fetched, .ref st_wrong, .ref st_offered, .ref st_offeredSums]))] U.heap ∧ va_K (dC, dI) vwCl [] U ∧ va_D (fun _ => True) [(h0, .inr (0, [.int 1, .ref dA, .int 0])), (a1, .inr (12, [.ref st_shelf, .ref st_first, .ref st_second, .ref st_third, .int st_at, .ref st_locks, .int st_mirrors, .int st_fetched, .ref st_wrong, .ref st_offered, .ref st_offeredSums]))] ∧ kwF U ∧ kwH dA (va_A [(h0, .inr (0, [.int 1, .ref dA, .int 0])), (a1, .inr (12, [.ref st_shelf, .ref st_first, .ref st_second, .ref st_third, .int st_at, .ref st_locks, .int st_mirrors, .int st_fetched, .ref st_wrong, .ref st_offered, .ref st_offeredSums]))] sz) U U.heap)) (va_Qv (fun _ : Unit => True) (fun _ t => ∃ (q2 : Nat) (cA3 : ClassId), va_P (dC, dI) vwCl [(a1, .inr (12, [.ref st_shelf, .ref st_first, .ref st_second, .ref st_third, .int st_at, .ref st_locks, .int st_mirrors, .int st_fetched, .ref st_wrong, .ref st_offered, .ref st_offeredSums])), (h0, .inr (0, [.int 1, .ref q2, .int 1])), (q2, .inl (cA3, 10, .inr (.inr (.inr (.inr (va_up (fun _ => none) 0 (some a1)))))))] t.heap ∧ va_K (dC, dI) vwCl [(cA3, .object "java/lang/Object")] t ∧ va_D (va_A [(h0, .inr (0, [.int 1, .ref dA, .int 0])), (a1, .inr (12, [.ref st_shelf, .ref st_first, .ref st_second, .ref st_third, .int st_at, .ref st_locks, .int st_mirrors, .int st_fetched, .ref st_wrong, .ref st_offered, .ref st_offeredSums]))] sz) [(a1, .inr (12, [.ref st_shelf, .ref st_first, .ref st_second, .ref st_third, .int st_at, .ref st_locks, .int st_mirrors, .int st_fetched, .ref st_wrong, .ref st_offered, .ref st_offeredSums])), (h0, .inr (0, [.int 1, .ref q2, .int 1])), (q2, .inl (cA3, 10, .inr (.inr (.inr (.inr (va_up (fun _ => none) 0 (some a1)))))))]) (va_A [(h0, .inr (0, [.int 1, .ref dA, .int 0])), (a1, .inr (12, [.ref st_shelf, .ref st_first, .ref st_second, .ref st_third, .int st_at, .ref st_locks, .int st_mirrors, .int st_fetched, .ref st_wrong, .ref st_offered, .ref st_offeredSums]))] sz)) 1 10 (va_A [(h0, .inr (0, [.int 1, .ref dA, .int 0])), (a1, .inr (12, [.ref st_shelf, .ref st_first, .ref st_second, .ref st_third, .int st_at, .ref st_locks, .int st_mirrors, .int st_fetched, .ref st_wrong, .ref st_offered, .ref st_offeredSums]))] sz) := by
  refine Met.ofW (cc := cJx4a65c_add_72be8) (maxL := 4) (ret := none) (by decide) rfl ?_
  intro p e s m args below meth c s₁ B hml hv
  obtain ⟨rfl, hsz, hP, hK, hD0, hF, hZ⟩ := hv
  have hx := B.exec
  have hb := B.bytes
  have hr := B.returns
  have hts0 := atoms_spec (ws := (.code yJx4a65c_add_72be8 cJx4a65c_add_72be8 4 none :: wsL_law)) B.pre
  have hts : ∀ w ∈ wsL_law, w.before _ s = true := fun w h => hts0 w (List.mem_cons_of_mem _ h)
  have hown : s.vm.findClass RJx4a65c = some m.cls := findClass_of_methodNamed B.named
  have hlocks := B.notSynchronized
  have hin : meth.name = "add" := (name_of_methodNamed B.named B.method).1
  subst hsz
  have hD := hD0.self (sz := s.heap.size)
  generalize hAe : va_A [(h0, .inr (0, [.int 1, .ref dA, .int 0])), (a1, .inr (12, [.ref st_shelf, .ref st_first, .ref st_second, .ref st_third, .int st_at, .ref st_locks, .int st_mirrors, .int st_fetched, .ref st_wrong, .ref st_offered, .ref st_offeredSums]))] s.heap.size = A at hD hZ ⊢
  have hA : ∀ q : Nat, s.heap.size ≤ q → A q := fun q h => by rw [← hAe]; exact Or.inr h
  have hS : va_S A s.heap s.heap [] := va_S.rf
  have hP : va_P (dC, dI) vwCl [(h0, .inr (0, [.int 1, .ref dA, .int 0])), (a1, .inr (12, [.ref st_shelf, .ref st_first, .ref st_second, .ref st_third, .int st_at, .ref st_locks, .int st_mirrors, .int st_fetched, .ref st_wrong, .ref st_offered, .ref st_offeredSums]))] s.heap := hP
  have hl := lv_entry ([.ref h0, .ref a1, .ref dA, .int 0]) (n := 4) (Nat.le_of_ble_eq_true rfl)
  rw [lg_entry_eq]
  generalize (lg_sl ([.ref h0, .ref a1, .ref dA, .int 0]) ++ List.replicate (4 - (lg_sl ([.ref h0, .ref a1, .ref dA, .int 0])).length) Slot.unset).toArray = ls at hl ⊢
  have hl : lv_has ls 4 [(0, .ref h0), (1, .ref a1), (2, .ref dA), (3, .int 0)] := hl
  refine lv_iload_n hx hb dJx4a65c_add_72be8_0 rfl (lv_at hl 3 rfl) ?_
  refine lv_aload_n hx hb dJx4a65c_add_72be8_1 rfl (lv_at hl 2 rfl) ?_
  refine va_tlen (v := 0) hx hb hZ.2.1 hS rfl dJx4a65c_add_72be8_2 ?_
  refine lv_icmp_ne (tgt := 11) hx hb dJx4a65c_add_72be8_3 (by decide) (fun c1 => absurd (by decide) c1) (fun _ => ?_)
  refine lv_aload_n hx hb dJx4a65c_add_72be8_6 rfl (lv_at hl 0 rfl) ?_
  have hPc := hP.sub (ws' := [(h0, .inr (0, [.int 1, .ref dA, .int 0]))]) [0] rfl
  have hDc := hD.sub (ws' := [(h0, .inr (0, [.int 1, .ref dA, .int 0]))]) [0] (by decide) rfl
  have hKc := hK.sub (tys' := []) [] rfl
  have hFc := va_free (wc := [(h0, .inr (0, [.int 1, .ref dA, .int 0]))]) hD hS hA [0] rfl
  refine va_callr (va_runV (As := []) (rest := []) ⟨hx, hb, hml, hown, hts⟩ (c_List_grow l dC dI dA h0 s.heap.size) (cwV 0 hts (gLU_V (inLU_11 (.methodLink RJx4a65c 129 yJx4a65c_grow_d5877) (List.mem_of_getElem? (i := 0) rfl)) (inLU_11 (.instanceMethod yJx4a65c_grow_d5877) (List.mem_of_getElem? (i := 1) rfl)) (inLU_11 (.selects RJx4a65c yJx4a65c_grow_d5877 yJx4a65c_grow_d5877) (List.mem_of_getElem? (i := 2) rfl)) (inLU_1 (.initialized RJx4a65c) (List.mem_of_getElem? (i := 23) rfl)) (inLU_11 (.code yJx4a65c_grow_d5877 cJx4a65c_grow_d5877 1 (some (.array (.object "java/lang/Object")))) (List.mem_of_getElem? (i := 3) rfl))) rfl rfl rfl (by decide +kernel) ⟨Nat.le_of_ble_eq_true rfl, Nat.le_of_ble_eq_true rfl⟩) ⟨fun a U g mk q => by obtain ⟨q0, q1, qP, qK, qD, qF, qZ⟩ := q; exact ⟨q0, q1, qP, va_K.moved (u := U) (U := U.calling g mk a) (Vm.Alike.refl U.vm) qK, qD, kwF.same (u := U) (U := U.calling g mk a) rfl qF, kwH.moved (u := U) (U := U.calling g mk a) (Vm.Alike.refl U.vm) qZ⟩, va_recv hKc hPc (ci := 0) (q0 := 0) rfl rfl, fun U hU hW => ⟨rfl, by rw [hU], by rw [hU]; exact hPc, va_K.moved hW.alike hKc, hDc.weaken (fun _ _ _ _ => trivial), kwF.warm hW hF, kwH.at hZ hS hFc hW.alike hU⟩⟩ rfl rfl hl.1 rfl (lv_room (Nat.le_of_ble_eq_true rfl)) dJx4a65c_add_72be8_7 ⟨Nat.le_of_ble_eq_true rfl, Nat.le_of_ble_eq_true rfl⟩) hS (fun q _ h => hFc q h) hFc (fun u q2 t H1 locs ht hvm hw hB hz1 hk1 hS => ?_)
  obtain ⟨cA3, hP1, hK1, hD1⟩ := hB
  rw [ht] at hP1
  have hK1 := va_K.moved hvm.symm hK1
  obtain ⟨hP, hD⟩ := va_join (wr := [(a1, .inr (12, [.ref st_shelf, .ref st_first, .ref st_second, .ref st_third, .int st_at, .ref st_locks, .int st_mirrors, .int st_fetched, .ref st_wrong, .ref st_offered, .ref st_offeredSums]))]) (w1 := [(h0, .inr (0, [.int 1, .ref q2, .int 0])), (q2, .inl (cA3, 10, .inr (.inr (.inr (.inr (fun _ => none))))))]) hP hD [0] [1] rfl rfl (by decide) (by decide) hk1 hFc hP1 hD1
  have hK := hK.app hK1
  generalize H1 = H at hP hS ⊢
  have hK : va_K (dC, dI) vwCl [(cA3, .object "java/lang/Object")] s := hK
  have hP : va_P (dC, dI) vwCl [(a1, .inr (12, [.ref st_shelf, .ref st_first, .ref st_second, .ref st_third, .int st_at, .ref st_locks, .int st_mirrors, .int st_fetched, .ref st_wrong, .ref st_offered, .ref st_offeredSums])), (h0, .inr (0, [.int 1, .ref q2, .int 0])), (q2, .inl (cA3, 10, .inr (.inr (.inr (.inr (fun _ => none))))))] H := hP
  have hD : va_D A [(a1, .inr (12, [.ref st_shelf, .ref st_first, .ref st_second, .ref st_third, .int st_at, .ref st_locks, .int st_mirrors, .int st_fetched, .ref st_wrong, .ref st_offered, .ref st_offeredSums])), (h0, .inr (0, [.int 1, .ref q2, .int 0])), (q2, .inl (cA3, 10, .inr (.inr (.inr (.inr (fun _ => none))))))] := hD
  refine W.widen (k := 1) (n := 10) (Nat.le_of_ble_eq_true rfl) (Nat.le_of_ble_eq_true rfl) ?_
  refine lv_astore_n (lv' := [(2, .ref q2), (0, .ref h0), (1, .ref a1), (3, .int 0)]) hx hb dJx4a65c_add_72be8_10 rfl hl (by decide) rfl (fun ls hl => ?_)
  refine lv_aload_n hx hb dJx4a65c_add_72be8_11 rfl (lv_at hl 0 rfl) ?_
  refine lv_iload_n hx hb dJx4a65c_add_72be8_12 rfl (lv_at hl 3 rfl) ?_
  refine lv_aload_n hx hb dJx4a65c_add_72be8_13 rfl (lv_at hl 2 rfl) ?_
  refine va_astqO (D := (dC, dI)) hx hb hK hP hD hS 2 0 0 12 rfl rfl (kw_C_X11 hF) rfl rfl (show vp_in _ _ from by unfold vp_in; decide) dJx4a65c_add_72be8_14 (fun H locs hP hD hS => ?_)
  rw [show (0 : Int32).toNatClampNeg = 0 from by decide] at hP hD
  have hP : va_P (dC, dI) vwCl [(a1, .inr (12, [.ref st_shelf, .ref st_first, .ref st_second, .ref st_third, .int st_at, .ref st_locks, .int st_mirrors, .int st_fetched, .ref st_wrong, .ref st_offered, .ref st_offeredSums])), (h0, .inr (0, [.int 1, .ref q2, .int 0])), (q2, .inl (cA3, 10, .inr (.inr (.inr (.inr (va_up (fun _ => none) 0 (some a1)))))))] H := hP
  have hD : va_D A [(a1, .inr (12, [.ref st_shelf, .ref st_first, .ref st_second, .ref st_third, .int st_at, .ref st_locks, .int st_mirrors, .int st_fetched, .ref st_wrong, .ref st_offered, .ref st_offeredSums])), (h0, .inr (0, [.int 1, .ref q2, .int 0])), (q2, .inl (cA3, 10, .inr (.inr (.inr (.inr (va_up (fun _ => none) 0 (some a1)))))))] := hD
  refine lv_aload_n hx hb dJx4a65c_add_72be8_15 rfl (lv_at hl 1 rfl) ?_
  refine lv_iload_n hx hb dJx4a65c_add_72be8_16 rfl (lv_at hl 3 rfl) ?_
  refine lv_iconst (v := 1) hx hb dJx4a65c_add_72be8_17 (by decide) ?_
  refine lv_iadd hx hb dJx4a65c_add_72be8_18 ?_
  refine lv_topi (fun x4 ex4 => ?_)
  obtain rfl : x4 = 1 := ex4.trans (by decide)
  refine va_put (D := (dC, dI)) (ci := 0) (v := .int 1) (ty := .int) (C := RJx4a65c) (T := TJx4a65c) (N := 3) hx hb hts inlJx4a65c tyJx4a65c tyJx4a65c_ok nmJx4a65c hown hK hP hD hS 1 rfl rfl 2 (by decide) (hts (.fieldLink RJx4a65c 48 "java/util/ArrayList" "size" "I") (inLU_10 (.fieldLink RJx4a65c 48 "java/util/ArrayList" "size" "I") (List.mem_of_getElem? (i := 19) rfl))) (fun _ h9 => h9) rfl (tyJx4a65c_ok 2 (by decide)) rfl rfl (Nat.le_of_ble_eq_true rfl) dJx4a65c_add_72be8_19 (fun H locs hP hD hS => ?_)
  have hP : va_P (dC, dI) vwCl [(a1, .inr (12, [.ref st_shelf, .ref st_first, .ref st_second, .ref st_third, .int st_at, .ref st_locks, .int st_mirrors, .int st_fetched, .ref st_wrong, .ref st_offered, .ref st_offeredSums])), (h0, .inr (0, [.int 1, .ref q2, .int 1])), (q2, .inl (cA3, 10, .inr (.inr (.inr (.inr (va_up (fun _ => none) 0 (some a1)))))))] H := hP
  have hD : va_D A [(a1, .inr (12, [.ref st_shelf, .ref st_first, .ref st_second, .ref st_third, .int st_at, .ref st_locks, .int st_mirrors, .int st_fetched, .ref st_wrong, .ref st_offered, .ref st_offeredSums])), (h0, .inr (0, [.int 1, .ref q2, .int 1])), (q2, .inl (cA3, 10, .inr (.inr (.inr (.inr (va_up (fun _ => none) 0 (some a1)))))))] := hD
  have hP9 := hP.sub (ws' := [(a1, .inr (12, [.ref st_shelf, .ref st_first, .ref st_second, .ref st_third, .int st_at, .ref st_locks, .int st_mirrors, .int st_fetched, .ref st_wrong, .ref st_offered, .ref st_offeredSums])), (h0, .inr (0, [.int 1, .ref q2, .int 1])), (q2, .inl (cA3, 10, .inr (.inr (.inr (.inr (va_up (fun _ => none) 0 (some a1)))))))]) [0, 1, 2] rfl
  have hD9 := hD.sub (ws' := [(a1, .inr (12, [.ref st_shelf, .ref st_first, .ref st_second, .ref st_third, .int st_at, .ref st_locks, .int st_mirrors, .int st_fetched, .ref st_wrong, .ref st_offered, .ref st_offeredSums])), (h0, .inr (0, [.int 1, .ref q2, .int 1])), (q2, .inl (cA3, 10, .inr (.inr (.inr (.inr (va_up (fun _ => none) 0 (some a1)))))))]) [0, 1, 2] (by decide) rfl
  have hK9 := hK.sub (tys' := [(cA3, .object "java/lang/Object")]) [0] rfl
  exact W.vret hx hb hr (fun t ht hW => ⟨⟨(), rfl, trivial, q2, cA3, by rw [ht]; exact hP9, va_K.moved hW.alike hK9, hD9⟩, hS.F ht⟩) hS.2.2 dJx4a65c_add_72be8_22
set_option maxHeartbeats 4000000 in
set_option maxRecDepth 100000 in
/-- add(e), the first -/
theorem c_List_add0 (l : Launch) (dC : Nat → ClassId) (dI : Nat → Nat → Nat) (dA : Nat) (h0 : Nat) (a1 : Nat) (st_shelf : Nat) (st_first : Nat) (st_second : Nat) (st_third : Nat) (st_at : Int32) (st_locks : Nat) (st_mirrors : Int32) (st_fetched : Int32) (st_wrong : Nat) (st_offered : Nat) (st_offeredSums : Nat) (sz : Nat) : Met l yJx4a65c_add_9ea2d (.code yJx4a65c_add_9ea2d cJx4a65c_add_9ea2d 2 (some .boolean) :: wsL_law) ({ frames := 4, cells := 1, slots := 10, locals := 90 }) (va_Pc [.ref h0, .ref a1] (fun U => U.heap.size = sz ∧ va_P (dC, dI) vwCl [(h0, .inr (0, [.int 0, .ref dA, .int 0])), (a1, .inr (12, [.ref st_shelf, .ref st_first, .ref st_second, .ref st_third, .int st_at, .ref st_locks, .int st_mirrors, .int st_fetched, .ref st_wrong, .ref st_offered, .ref st_offeredSums]))] U.heap ∧ va_K (dC, dI) vwCl [] U ∧ va_D (fun _ => True) [(h0, .inr (0, [.int 0, .ref dA, .int 0])), (a1, .inr (12, [.ref st_shelf, .ref st_first, .ref st_second, .ref st_third, .int st_at, .ref st_locks, .int st_mirrors, .int st_fetched, .ref st_wrong, .ref st_offered, .ref st_offeredSums]))] ∧ kwF U ∧ kwH dA (va_A [(h0, .inr (0, [.int 0, .ref dA, .int 0])), (a1, .inr (12, [.ref st_shelf, .ref st_first, .ref st_second, .ref st_third, .int st_at, .ref st_locks, .int st_mirrors, .int st_fetched, .ref st_wrong, .ref st_offered, .ref st_offeredSums]))] sz) U U.heap)) (va_Qi (fun (r : Int32) (_ : Unit) => r = 1) (fun _ t => ∃ (q2 : Nat) (cA3 : ClassId), va_P (dC, dI) vwCl [(a1, .inr (12, [.ref st_shelf, .ref st_first, .ref st_second, .ref st_third, .int st_at, .ref st_locks, .int st_mirrors, .int st_fetched, .ref st_wrong, .ref st_offered, .ref st_offeredSums])), (h0, .inr (0, [.int 1, .ref q2, .int 1])), (q2, .inl (cA3, 10, .inr (.inr (.inr (.inr (va_up (fun _ => none) 0 (some a1)))))))] t.heap ∧ va_K (dC, dI) vwCl [(cA3, .object "java/lang/Object")] t ∧ va_D (va_A [(h0, .inr (0, [.int 0, .ref dA, .int 0])), (a1, .inr (12, [.ref st_shelf, .ref st_first, .ref st_second, .ref st_third, .int st_at, .ref st_locks, .int st_mirrors, .int st_fetched, .ref st_wrong, .ref st_offered, .ref st_offeredSums]))] sz) [(a1, .inr (12, [.ref st_shelf, .ref st_first, .ref st_second, .ref st_third, .int st_at, .ref st_locks, .int st_mirrors, .int st_fetched, .ref st_wrong, .ref st_offered, .ref st_offeredSums])), (h0, .inr (0, [.int 1, .ref q2, .int 1])), (q2, .inl (cA3, 10, .inr (.inr (.inr (.inr (va_up (fun _ => none) 0 (some a1)))))))]) (va_A [(h0, .inr (0, [.int 0, .ref dA, .int 0])), (a1, .inr (12, [.ref st_shelf, .ref st_first, .ref st_second, .ref st_third, .int st_at, .ref st_locks, .int st_mirrors, .int st_fetched, .ref st_wrong, .ref st_offered, .ref st_offeredSums]))] sz)) 1 10 (va_A [(h0, .inr (0, [.int 0, .ref dA, .int 0])), (a1, .inr (12, [.ref st_shelf, .ref st_first, .ref st_second, .ref st_third, .int st_at, .ref st_locks, .int st_mirrors, .int st_fetched, .ref st_wrong, .ref st_offered, .ref st_offeredSums]))] sz) := by
  refine Met.ofW (cc := cJx4a65c_add_9ea2d) (maxL := 2) (ret := (some .boolean)) (by decide) rfl ?_
  intro p e s m args below meth c s₁ B hml hv
  obtain ⟨rfl, hsz, hP, hK, hD0, hF, hZ⟩ := hv
  have hx := B.exec
  have hb := B.bytes
  have hr := B.returns
  have hts0 := atoms_spec (ws := (.code yJx4a65c_add_9ea2d cJx4a65c_add_9ea2d 2 (some .boolean) :: wsL_law)) B.pre
  have hts : ∀ w ∈ wsL_law, w.before _ s = true := fun w h => hts0 w (List.mem_cons_of_mem _ h)
  have hown : s.vm.findClass RJx4a65c = some m.cls := findClass_of_methodNamed B.named
  have hlocks := B.notSynchronized
  have hin : meth.name = "add" := (name_of_methodNamed B.named B.method).1
  subst hsz
  have hD := hD0.self (sz := s.heap.size)
  generalize hAe : va_A [(h0, .inr (0, [.int 0, .ref dA, .int 0])), (a1, .inr (12, [.ref st_shelf, .ref st_first, .ref st_second, .ref st_third, .int st_at, .ref st_locks, .int st_mirrors, .int st_fetched, .ref st_wrong, .ref st_offered, .ref st_offeredSums]))] s.heap.size = A at hD hZ ⊢
  have hA : ∀ q : Nat, s.heap.size ≤ q → A q := fun q h => by rw [← hAe]; exact Or.inr h
  have hS : va_S A s.heap s.heap [] := va_S.rf
  have hP : va_P (dC, dI) vwCl [(h0, .inr (0, [.int 0, .ref dA, .int 0])), (a1, .inr (12, [.ref st_shelf, .ref st_first, .ref st_second, .ref st_third, .int st_at, .ref st_locks, .int st_mirrors, .int st_fetched, .ref st_wrong, .ref st_offered, .ref st_offeredSums]))] s.heap := hP
  have hl := lv_entry ([.ref h0, .ref a1]) (n := 2) (Nat.le_of_ble_eq_true rfl)
  rw [lg_entry_eq]
  generalize (lg_sl ([.ref h0, .ref a1]) ++ List.replicate (2 - (lg_sl ([.ref h0, .ref a1])).length) Slot.unset).toArray = ls at hl ⊢
  have hl : lv_has ls 2 [(0, .ref h0), (1, .ref a1)] := hl
  refine lv_aload_n hx hb dJx4a65c_add_9ea2d_0 rfl (lv_at hl 0 rfl) ?_
  refine lv_dup hx hb dJx4a65c_add_9ea2d_1 rfl ?_
  refine va_get (D := (dC, dI)) (ci := 0) (v := .int 0) (C := RJx4a65c) (T := TJx4a65c) (N := 3) hx hb hts inlJx4a65c hown hK hP 0 rfl rfl 0 (by decide) (hts (.fieldLink RJx4a65c 63 "java/util/ArrayList" "modCount" "I") (inLU_10 (.fieldLink RJx4a65c 63 "java/util/ArrayList" "modCount" "I") (List.mem_of_getElem? (i := 17) rfl))) (fun x9 h9 => u_same (hts (.sameField "java/util/ArrayList" "java/util/AbstractList" "modCount" "I") (inLU_10 (.sameField "java/util/ArrayList" "java/util/AbstractList" "modCount" "I") (List.mem_of_getElem? (i := 18) rfl))) x9 h9) rfl dJx4a65c_add_9ea2d_2 ?_
  refine lv_iconst (v := 1) hx hb dJx4a65c_add_9ea2d_5 (by decide) ?_
  refine lv_iadd hx hb dJx4a65c_add_9ea2d_6 ?_
  refine lv_topi (fun x1 ex1 => ?_)
  obtain rfl : x1 = 1 := ex1.trans (by decide)
  refine va_put (D := (dC, dI)) (ci := 0) (v := .int 1) (ty := .int) (C := RJx4a65c) (T := TJx4a65c) (N := 3) hx hb hts inlJx4a65c tyJx4a65c tyJx4a65c_ok nmJx4a65c hown hK hP hD hS 0 rfl rfl 0 (by decide) (hts (.fieldLink RJx4a65c 63 "java/util/ArrayList" "modCount" "I") (inLU_10 (.fieldLink RJx4a65c 63 "java/util/ArrayList" "modCount" "I") (List.mem_of_getElem? (i := 17) rfl))) (fun x9 h9 => u_same (hts (.sameField "java/util/ArrayList" "java/util/AbstractList" "modCount" "I") (inLU_10 (.sameField "java/util/ArrayList" "java/util/AbstractList" "modCount" "I") (List.mem_of_getElem? (i := 18) rfl))) x9 h9) rfl (tyJx4a65c_ok 0 (by decide)) rfl rfl (Nat.le_of_ble_eq_true rfl) dJx4a65c_add_9ea2d_7 (fun H locs hP hD hS => ?_)
  have hP : va_P (dC, dI) vwCl [(h0, .inr (0, [.int 1, .ref dA, .int 0])), (a1, .inr (12, [.ref st_shelf, .ref st_first, .ref st_second, .ref st_third, .int st_at, .ref st_locks, .int st_mirrors, .int st_fetched, .ref st_wrong, .ref st_offered, .ref st_offeredSums]))] H := hP
  have hD : va_D A [(h0, .inr (0, [.int 1, .ref dA, .int 0])), (a1, .inr (12, [.ref st_shelf, .ref st_first, .ref st_second, .ref st_third, .int st_at, .ref st_locks, .int st_mirrors, .int st_fetched, .ref st_wrong, .ref st_offered, .ref st_offeredSums]))] := hD
  refine lv_aload_n hx hb dJx4a65c_add_9ea2d_10 rfl (lv_at hl 0 rfl) ?_
  refine lv_aload_n hx hb dJx4a65c_add_9ea2d_11 rfl (lv_at hl 1 rfl) ?_
  refine lv_aload_n hx hb dJx4a65c_add_9ea2d_12 rfl (lv_at hl 0 rfl) ?_
  refine va_get (D := (dC, dI)) (ci := 0) (v := .ref dA) (C := RJx4a65c) (T := TJx4a65c) (N := 3) hx hb hts inlJx4a65c hown hK hP 0 rfl rfl 1 (by decide) (hts (.fieldLink RJx4a65c 9 "java/util/ArrayList" "elementData" "[Ljava/lang/Object;") (inLU_6 (.fieldLink RJx4a65c 9 "java/util/ArrayList" "elementData" "[Ljava/lang/Object;") (List.mem_of_getElem? (i := 11) rfl))) (fun _ h9 => h9) rfl dJx4a65c_add_9ea2d_13 ?_
  refine lv_aload_n hx hb dJx4a65c_add_9ea2d_16 rfl (lv_at hl 0 rfl) ?_
  refine va_get (D := (dC, dI)) (ci := 0) (v := .int 0) (C := RJx4a65c) (T := TJx4a65c) (N := 3) hx hb hts inlJx4a65c hown hK hP 0 rfl rfl 2 (by decide) (hts (.fieldLink RJx4a65c 48 "java/util/ArrayList" "size" "I") (inLU_10 (.fieldLink RJx4a65c 48 "java/util/ArrayList" "size" "I") (List.mem_of_getElem? (i := 19) rfl))) (fun _ h9 => h9) rfl dJx4a65c_add_9ea2d_17 ?_
  have hPc := hP.sub (ws' := [(h0, .inr (0, [.int 1, .ref dA, .int 0])), (a1, .inr (12, [.ref st_shelf, .ref st_first, .ref st_second, .ref st_third, .int st_at, .ref st_locks, .int st_mirrors, .int st_fetched, .ref st_wrong, .ref st_offered, .ref st_offeredSums]))]) [0, 1] rfl
  have hDc := hD.sub (ws' := [(h0, .inr (0, [.int 1, .ref dA, .int 0])), (a1, .inr (12, [.ref st_shelf, .ref st_first, .ref st_second, .ref st_third, .int st_at, .ref st_locks, .int st_mirrors, .int st_fetched, .ref st_wrong, .ref st_offered, .ref st_offeredSums]))]) [0, 1] (by decide) rfl
  have hKc := hK.sub (tys' := []) [] rfl
  have hFc := va_free (wc := [(h0, .inr (0, [.int 1, .ref dA, .int 0])), (a1, .inr (12, [.ref st_shelf, .ref st_first, .ref st_second, .ref st_third, .int st_at, .ref st_locks, .int st_mirrors, .int st_fetched, .ref st_wrong, .ref st_offered, .ref st_offeredSums]))]) hD hS hA [0, 1] rfl
  refine va_callv (va_runV (As := [.ref a1, .ref dA, .int 0]) (rest := []) ⟨hx, hb, hml, hown, hts⟩ (c_List_put0 l dC dI dA h0 a1 st_shelf st_first st_second st_third st_at st_locks st_mirrors st_fetched st_wrong st_offered st_offeredSums H.size) (cwV 3 hts (gLU_V (inLU_10 (.methodLink RJx4a65c 131 yJx4a65c_add_72be8) (List.mem_of_getElem? (i := 20) rfl)) (inLU_10 (.instanceMethod yJx4a65c_add_72be8) (List.mem_of_getElem? (i := 21) rfl)) (inLU_10 (.selects RJx4a65c yJx4a65c_add_72be8 yJx4a65c_add_72be8) (List.mem_of_getElem? (i := 22) rfl)) (inLU_1 (.initialized RJx4a65c) (List.mem_of_getElem? (i := 23) rfl)) (inLU_10 (.code yJx4a65c_add_72be8 cJx4a65c_add_72be8 4 none) (List.mem_of_getElem? (i := 23) rfl))) rfl rfl rfl (by decide +kernel) ⟨Nat.le_of_ble_eq_true rfl, Nat.le_of_ble_eq_true rfl⟩) ⟨fun a U g mk q => by obtain ⟨q0, q1, qP, qK, qD, qF, qZ⟩ := q; exact ⟨q0, q1, qP, va_K.moved (u := U) (U := U.calling g mk a) (Vm.Alike.refl U.vm) qK, qD, kwF.same (u := U) (U := U.calling g mk a) rfl qF, kwH.moved (u := U) (U := U.calling g mk a) (Vm.Alike.refl U.vm) qZ⟩, va_recv hKc hPc (ci := 0) (q0 := 0) rfl rfl, fun U hU hW => ⟨rfl, by rw [hU], by rw [hU]; exact hPc, va_K.moved hW.alike hKc, hDc.weaken (fun _ _ _ _ => trivial), kwF.warm hW hF, kwH.at hZ hS hFc hW.alike hU⟩⟩ rfl rfl hl.1 rfl (lv_room (Nat.le_of_ble_eq_true rfl)) dJx4a65c_add_9ea2d_20 ⟨Nat.le_of_ble_eq_true rfl, Nat.le_of_ble_eq_true rfl⟩) hS (fun q _ h => hFc q h) hFc (fun u t H1 locs ht hvm hw hB hz1 hk1 hS => ?_)
  obtain ⟨q2, cA3, hP1, hK1, hD1⟩ := hB
  rw [ht] at hP1
  have hK1 := va_K.moved hvm.symm hK1
  obtain ⟨hP, hD⟩ := va_join (wr := []) (w1 := [(a1, .inr (12, [.ref st_shelf, .ref st_first, .ref st_second, .ref st_third, .int st_at, .ref st_locks, .int st_mirrors, .int st_fetched, .ref st_wrong, .ref st_offered, .ref st_offeredSums])), (h0, .inr (0, [.int 1, .ref q2, .int 1])), (q2, .inl (cA3, 10, .inr (.inr (.inr (.inr (va_up (fun _ => none) 0 (some a1)))))))]) hP hD [0, 1] [] rfl rfl (by decide) (by decide) hk1 hFc hP1 hD1
  have hK := hK.app hK1
  generalize H1 = H at hP hS ⊢
  have hK : va_K (dC, dI) vwCl [(cA3, .object "java/lang/Object")] s := hK
  have hP : va_P (dC, dI) vwCl [(a1, .inr (12, [.ref st_shelf, .ref st_first, .ref st_second, .ref st_third, .int st_at, .ref st_locks, .int st_mirrors, .int st_fetched, .ref st_wrong, .ref st_offered, .ref st_offeredSums])), (h0, .inr (0, [.int 1, .ref q2, .int 1])), (q2, .inl (cA3, 10, .inr (.inr (.inr (.inr (va_up (fun _ => none) 0 (some a1)))))))] H := hP
  have hD : va_D A [(a1, .inr (12, [.ref st_shelf, .ref st_first, .ref st_second, .ref st_third, .int st_at, .ref st_locks, .int st_mirrors, .int st_fetched, .ref st_wrong, .ref st_offered, .ref st_offeredSums])), (h0, .inr (0, [.int 1, .ref q2, .int 1])), (q2, .inl (cA3, 10, .inr (.inr (.inr (.inr (va_up (fun _ => none) 0 (some a1)))))))] := hD
  refine W.widen (k := 1) (n := 10) (Nat.le_of_ble_eq_true rfl) (Nat.le_of_ble_eq_true rfl) ?_
  refine lv_iconst (v := 1) hx hb dJx4a65c_add_9ea2d_23 (by decide) ?_
  have hP9 := hP.sub (ws' := [(a1, .inr (12, [.ref st_shelf, .ref st_first, .ref st_second, .ref st_third, .int st_at, .ref st_locks, .int st_mirrors, .int st_fetched, .ref st_wrong, .ref st_offered, .ref st_offeredSums])), (h0, .inr (0, [.int 1, .ref q2, .int 1])), (q2, .inl (cA3, 10, .inr (.inr (.inr (.inr (va_up (fun _ => none) 0 (some a1)))))))]) [0, 1, 2] rfl
  have hD9 := hD.sub (ws' := [(a1, .inr (12, [.ref st_shelf, .ref st_first, .ref st_second, .ref st_third, .int st_at, .ref st_locks, .int st_mirrors, .int st_fetched, .ref st_wrong, .ref st_offered, .ref st_offeredSums])), (h0, .inr (0, [.int 1, .ref q2, .int 1])), (q2, .inl (cA3, 10, .inr (.inr (.inr (.inr (va_up (fun _ => none) 0 (some a1)))))))]) [0, 1, 2] (by decide) rfl
  have hK9 := hK.sub (tys' := [(cA3, .object "java/lang/Object")]) [0] rfl
  exact W.zret (v := 1) hx hb hr rfl (fun t ht hW => ⟨⟨1, (), rfl, rfl, q2, cA3, by rw [ht]; exact hP9, va_K.moved hW.alike hK9, hD9⟩, hS.F ht⟩) hS.2.2 dJx4a65c_add_9ea2d_24
set_option maxHeartbeats 4000000 in
set_option maxRecDepth 100000 in
/-- element 1 -/
theorem c_List_put1 (l : Launch) (dC : Nat → ClassId) (dI : Nat → Nat → Nat) (dA : Nat) (h0 : Nat) (a1 : Nat) (a2 : Nat) (cA : ClassId) (f : Nat → Option Nat) (st_shelf : Nat) (st_first : Nat) (st_second : Nat) (st_third : Nat) (st_at : Int32) (st_locks : Nat) (st_mirrors : Int32) (st_fetched : Int32) (st_wrong : Nat) (st_offered : Nat) (st_offeredSums : Nat) (sz : Nat) : Met l yJx4a65c_add_72be8 (.code yJx4a65c_add_72be8 cJx4a65c_add_72be8 4 none :: wsL_law) ({ frames := 0, cells := 0, slots := 0, locals := 0 }) (va_Pc [.ref h0, .ref a1, .ref a2, .int 1] (fun U => U.heap.size = sz ∧ va_P (dC, dI) vwCl [(h0, .inr (0, [.int 2, .ref a2, .int 1])), (a1, .inr (12, [.ref st_shelf, .ref st_first, .ref st_second, .ref st_third, .int st_at, .ref st_locks, .int st_mirrors, .int st_fetched, .ref st_wrong, .ref st_offered, .ref st_offeredSums])), (a2, .inl (cA, 10, .inr (.inr (.inr (.inr f)))))] U.heap ∧ va_K (dC, dI) vwCl [(cA, .object "java/lang/Object")] U ∧ va_D (fun _ => True) [(h0, .inr (0, [.int 2, .ref a2, .int 1])), (a1, .inr (12, [.ref st_shelf, .ref st_first, .ref st_second, .ref st_third, .int st_at, .ref st_locks, .int st_mirrors, .int st_fetched, .ref st_wrong, .ref st_offered, .ref st_offeredSums])), (a2, .inl (cA, 10, .inr (.inr (.inr (.inr f)))))] ∧ kwF U ∧ kwH dA (va_A [(h0, .inr (0, [.int 2, .ref a2, .int 1])), (a1, .inr (12, [.ref st_shelf, .ref st_first, .ref st_second, .ref st_third, .int st_at, .ref st_locks, .int st_mirrors, .int st_fetched, .ref st_wrong, .ref st_offered, .ref st_offeredSums])), (a2, .inl (cA, 10, .inr (.inr (.inr (.inr f)))))] sz) U U.heap)) (va_Qv (fun _ : Unit => True) (fun _ t => va_P (dC, dI) vwCl [(h0, .inr (0, [.int 2, .ref a2, .int 2])), (a1, .inr (12, [.ref st_shelf, .ref st_first, .ref st_second, .ref st_third, .int st_at, .ref st_locks, .int st_mirrors, .int st_fetched, .ref st_wrong, .ref st_offered, .ref st_offeredSums])), (a2, .inl (cA, 10, .inr (.inr (.inr (.inr (va_up f 1 (some a1)))))))] t.heap ∧ va_K (dC, dI) vwCl [] t ∧ va_D (va_A [(h0, .inr (0, [.int 2, .ref a2, .int 1])), (a1, .inr (12, [.ref st_shelf, .ref st_first, .ref st_second, .ref st_third, .int st_at, .ref st_locks, .int st_mirrors, .int st_fetched, .ref st_wrong, .ref st_offered, .ref st_offeredSums])), (a2, .inl (cA, 10, .inr (.inr (.inr (.inr f)))))] sz) [(h0, .inr (0, [.int 2, .ref a2, .int 2])), (a1, .inr (12, [.ref st_shelf, .ref st_first, .ref st_second, .ref st_third, .int st_at, .ref st_locks, .int st_mirrors, .int st_fetched, .ref st_wrong, .ref st_offered, .ref st_offeredSums])), (a2, .inl (cA, 10, .inr (.inr (.inr (.inr (va_up f 1 (some a1)))))))]) (va_A [(h0, .inr (0, [.int 2, .ref a2, .int 1])), (a1, .inr (12, [.ref st_shelf, .ref st_first, .ref st_second, .ref st_third, .int st_at, .ref st_locks, .int st_mirrors, .int st_fetched, .ref st_wrong, .ref st_offered, .ref st_offeredSums])), (a2, .inl (cA, 10, .inr (.inr (.inr (.inr f)))))] sz)) 0 0 (va_A [(h0, .inr (0, [.int 2, .ref a2, .int 1])), (a1, .inr (12, [.ref st_shelf, .ref st_first, .ref st_second, .ref st_third, .int st_at, .ref st_locks, .int st_mirrors, .int st_fetched, .ref st_wrong, .ref st_offered, .ref st_offeredSums])), (a2, .inl (cA, 10, .inr (.inr (.inr (.inr f)))))] sz) := by
  refine Met.ofW (cc := cJx4a65c_add_72be8) (maxL := 4) (ret := none) (by decide) rfl ?_
  intro p e s m args below meth c s₁ B hml hv
  obtain ⟨rfl, hsz, hP, hK, hD0, hF, hZ⟩ := hv
  have hx := B.exec
  have hb := B.bytes
  have hr := B.returns
  have hts0 := atoms_spec (ws := (.code yJx4a65c_add_72be8 cJx4a65c_add_72be8 4 none :: wsL_law)) B.pre
  have hts : ∀ w ∈ wsL_law, w.before _ s = true := fun w h => hts0 w (List.mem_cons_of_mem _ h)
  have hown : s.vm.findClass RJx4a65c = some m.cls := findClass_of_methodNamed B.named
  have hlocks := B.notSynchronized
  have hin : meth.name = "add" := (name_of_methodNamed B.named B.method).1
  subst hsz
  have hD := hD0.self (sz := s.heap.size)
  generalize hAe : va_A [(h0, .inr (0, [.int 2, .ref a2, .int 1])), (a1, .inr (12, [.ref st_shelf, .ref st_first, .ref st_second, .ref st_third, .int st_at, .ref st_locks, .int st_mirrors, .int st_fetched, .ref st_wrong, .ref st_offered, .ref st_offeredSums])), (a2, .inl (cA, 10, .inr (.inr (.inr (.inr f)))))] s.heap.size = A at hD hZ ⊢
  have hA : ∀ q : Nat, s.heap.size ≤ q → A q := fun q h => by rw [← hAe]; exact Or.inr h
  have hS : va_S A s.heap s.heap [] := va_S.rf
  have hP : va_P (dC, dI) vwCl [(h0, .inr (0, [.int 2, .ref a2, .int 1])), (a1, .inr (12, [.ref st_shelf, .ref st_first, .ref st_second, .ref st_third, .int st_at, .ref st_locks, .int st_mirrors, .int st_fetched, .ref st_wrong, .ref st_offered, .ref st_offeredSums])), (a2, .inl (cA, 10, .inr (.inr (.inr (.inr f)))))] s.heap := hP
  have hl := lv_entry ([.ref h0, .ref a1, .ref a2, .int 1]) (n := 4) (Nat.le_of_ble_eq_true rfl)
  rw [lg_entry_eq]
  generalize (lg_sl ([.ref h0, .ref a1, .ref a2, .int 1]) ++ List.replicate (4 - (lg_sl ([.ref h0, .ref a1, .ref a2, .int 1])).length) Slot.unset).toArray = ls at hl ⊢
  have hl : lv_has ls 4 [(0, .ref h0), (1, .ref a1), (2, .ref a2), (3, .int 1)] := hl
  refine lv_iload_n hx hb dJx4a65c_add_72be8_0 rfl (lv_at hl 3 rfl) ?_
  refine lv_aload_n hx hb dJx4a65c_add_72be8_1 rfl (lv_at hl 2 rfl) ?_
  refine va_alen (D := (dC, dI)) (v := 10) hx hb hK hP 2 0 rfl rfl (show Int32.ofNat 10 = 10 from by decide) dJx4a65c_add_72be8_2 ?_
  refine lv_icmp_ne (tgt := 11) hx hb dJx4a65c_add_72be8_3 (by decide) (fun _ => ?_) (fun c1 => absurd c1 (by decide))
  refine lv_aload_n hx hb dJx4a65c_add_72be8_11 rfl (lv_at hl 2 rfl) ?_
  refine lv_iload_n hx hb dJx4a65c_add_72be8_12 rfl (lv_at hl 3 rfl) ?_
  refine lv_aload_n hx hb dJx4a65c_add_72be8_13 rfl (lv_at hl 1 rfl) ?_
  refine va_astqO (D := (dC, dI)) hx hb hK hP hD hS 2 0 1 12 rfl rfl (kw_C_X11 hF) rfl rfl (show vp_in _ _ from by unfold vp_in; decide) dJx4a65c_add_72be8_14 (fun H locs hP hD hS => ?_)
  rw [show (1 : Int32).toNatClampNeg = 1 from by decide] at hP hD
  have hP : va_P (dC, dI) vwCl [(h0, .inr (0, [.int 2, .ref a2, .int 1])), (a1, .inr (12, [.ref st_shelf, .ref st_first, .ref st_second, .ref st_third, .int st_at, .ref st_locks, .int st_mirrors, .int st_fetched, .ref st_wrong, .ref st_offered, .ref st_offeredSums])), (a2, .inl (cA, 10, .inr (.inr (.inr (.inr (va_up f 1 (some a1)))))))] H := hP
  have hD : va_D A [(h0, .inr (0, [.int 2, .ref a2, .int 1])), (a1, .inr (12, [.ref st_shelf, .ref st_first, .ref st_second, .ref st_third, .int st_at, .ref st_locks, .int st_mirrors, .int st_fetched, .ref st_wrong, .ref st_offered, .ref st_offeredSums])), (a2, .inl (cA, 10, .inr (.inr (.inr (.inr (va_up f 1 (some a1)))))))] := hD
  refine lv_aload_n hx hb dJx4a65c_add_72be8_15 rfl (lv_at hl 0 rfl) ?_
  refine lv_iload_n hx hb dJx4a65c_add_72be8_16 rfl (lv_at hl 3 rfl) ?_
  refine lv_iconst (v := 1) hx hb dJx4a65c_add_72be8_17 (by decide) ?_
  refine lv_iadd hx hb dJx4a65c_add_72be8_18 ?_
  refine lv_topi (fun x2 ex2 => ?_)
  obtain rfl : x2 = 2 := ex2.trans (by decide)
  refine va_put (D := (dC, dI)) (ci := 0) (v := .int 2) (ty := .int) (C := RJx4a65c) (T := TJx4a65c) (N := 3) hx hb hts inlJx4a65c tyJx4a65c tyJx4a65c_ok nmJx4a65c hown hK hP hD hS 0 rfl rfl 2 (by decide) (hts (.fieldLink RJx4a65c 48 "java/util/ArrayList" "size" "I") (inLU_10 (.fieldLink RJx4a65c 48 "java/util/ArrayList" "size" "I") (List.mem_of_getElem? (i := 19) rfl))) (fun _ h9 => h9) rfl (tyJx4a65c_ok 2 (by decide)) rfl rfl (Nat.le_of_ble_eq_true rfl) dJx4a65c_add_72be8_19 (fun H locs hP hD hS => ?_)
  have hP : va_P (dC, dI) vwCl [(h0, .inr (0, [.int 2, .ref a2, .int 2])), (a1, .inr (12, [.ref st_shelf, .ref st_first, .ref st_second, .ref st_third, .int st_at, .ref st_locks, .int st_mirrors, .int st_fetched, .ref st_wrong, .ref st_offered, .ref st_offeredSums])), (a2, .inl (cA, 10, .inr (.inr (.inr (.inr (va_up f 1 (some a1)))))))] H := hP
  have hD : va_D A [(h0, .inr (0, [.int 2, .ref a2, .int 2])), (a1, .inr (12, [.ref st_shelf, .ref st_first, .ref st_second, .ref st_third, .int st_at, .ref st_locks, .int st_mirrors, .int st_fetched, .ref st_wrong, .ref st_offered, .ref st_offeredSums])), (a2, .inl (cA, 10, .inr (.inr (.inr (.inr (va_up f 1 (some a1)))))))] := hD
  have hP9 := hP.sub (ws' := [(h0, .inr (0, [.int 2, .ref a2, .int 2])), (a1, .inr (12, [.ref st_shelf, .ref st_first, .ref st_second, .ref st_third, .int st_at, .ref st_locks, .int st_mirrors, .int st_fetched, .ref st_wrong, .ref st_offered, .ref st_offeredSums])), (a2, .inl (cA, 10, .inr (.inr (.inr (.inr (va_up f 1 (some a1)))))))]) [0, 1, 2] rfl
  have hD9 := hD.sub (ws' := [(h0, .inr (0, [.int 2, .ref a2, .int 2])), (a1, .inr (12, [.ref st_shelf, .ref st_first, .ref st_second, .ref st_third, .int st_at, .ref st_locks, .int st_mirrors, .int st_fetched, .ref st_wrong, .ref st_offered, .ref st_offeredSums])), (a2, .inl (cA, 10, .inr (.inr (.inr (.inr (va_up f 1 (some a1)))))))]) [0, 1, 2] (by decide) rfl
  have hK9 := hK.sub (tys' := []) [] rfl
  exact W.vret hx hb hr (fun t ht hW => ⟨⟨(), rfl, trivial, by rw [ht]; exact hP9, va_K.moved hW.alike hK9, hD9⟩, hS.F ht⟩) hS.2.2 dJx4a65c_add_72be8_22
set_option maxHeartbeats 4000000 in
set_option maxRecDepth 100000 in
/-- add(e), element 1 -/
theorem c_List_add1 (l : Launch) (dC : Nat → ClassId) (dI : Nat → Nat → Nat) (dA : Nat) (h0 : Nat) (a1 : Nat) (a2 : Nat) (cA : ClassId) (f : Nat → Option Nat) (st_shelf : Nat) (st_first : Nat) (st_second : Nat) (st_third : Nat) (st_at : Int32) (st_locks : Nat) (st_mirrors : Int32) (st_fetched : Int32) (st_wrong : Nat) (st_offered : Nat) (st_offeredSums : Nat) (sz : Nat) : Met l yJx4a65c_add_9ea2d (.code yJx4a65c_add_9ea2d cJx4a65c_add_9ea2d 2 (some .boolean) :: wsL_law) ({ frames := 1, cells := 0, slots := 0, locals := 23 }) (va_Pc [.ref h0, .ref a1] (fun U => U.heap.size = sz ∧ va_P (dC, dI) vwCl [(h0, .inr (0, [.int 1, .ref a2, .int 1])), (a1, .inr (12, [.ref st_shelf, .ref st_first, .ref st_second, .ref st_third, .int st_at, .ref st_locks, .int st_mirrors, .int st_fetched, .ref st_wrong, .ref st_offered, .ref st_offeredSums])), (a2, .inl (cA, 10, .inr (.inr (.inr (.inr f)))))] U.heap ∧ va_K (dC, dI) vwCl [(cA, .object "java/lang/Object")] U ∧ va_D (fun _ => True) [(h0, .inr (0, [.int 1, .ref a2, .int 1])), (a1, .inr (12, [.ref st_shelf, .ref st_first, .ref st_second, .ref st_third, .int st_at, .ref st_locks, .int st_mirrors, .int st_fetched, .ref st_wrong, .ref st_offered, .ref st_offeredSums])), (a2, .inl (cA, 10, .inr (.inr (.inr (.inr f)))))] ∧ kwF U ∧ kwH dA (va_A [(h0, .inr (0, [.int 1, .ref a2, .int 1])), (a1, .inr (12, [.ref st_shelf, .ref st_first, .ref st_second, .ref st_third, .int st_at, .ref st_locks, .int st_mirrors, .int st_fetched, .ref st_wrong, .ref st_offered, .ref st_offeredSums])), (a2, .inl (cA, 10, .inr (.inr (.inr (.inr f)))))] sz) U U.heap)) (va_Qi (fun (r : Int32) (_ : Unit) => r = 1) (fun _ t => va_P (dC, dI) vwCl [(h0, .inr (0, [.int 2, .ref a2, .int 2])), (a1, .inr (12, [.ref st_shelf, .ref st_first, .ref st_second, .ref st_third, .int st_at, .ref st_locks, .int st_mirrors, .int st_fetched, .ref st_wrong, .ref st_offered, .ref st_offeredSums])), (a2, .inl (cA, 10, .inr (.inr (.inr (.inr (va_up f 1 (some a1)))))))] t.heap ∧ va_K (dC, dI) vwCl [] t ∧ va_D (va_A [(h0, .inr (0, [.int 1, .ref a2, .int 1])), (a1, .inr (12, [.ref st_shelf, .ref st_first, .ref st_second, .ref st_third, .int st_at, .ref st_locks, .int st_mirrors, .int st_fetched, .ref st_wrong, .ref st_offered, .ref st_offeredSums])), (a2, .inl (cA, 10, .inr (.inr (.inr (.inr f)))))] sz) [(h0, .inr (0, [.int 2, .ref a2, .int 2])), (a1, .inr (12, [.ref st_shelf, .ref st_first, .ref st_second, .ref st_third, .int st_at, .ref st_locks, .int st_mirrors, .int st_fetched, .ref st_wrong, .ref st_offered, .ref st_offeredSums])), (a2, .inl (cA, 10, .inr (.inr (.inr (.inr (va_up f 1 (some a1)))))))]) (va_A [(h0, .inr (0, [.int 1, .ref a2, .int 1])), (a1, .inr (12, [.ref st_shelf, .ref st_first, .ref st_second, .ref st_third, .int st_at, .ref st_locks, .int st_mirrors, .int st_fetched, .ref st_wrong, .ref st_offered, .ref st_offeredSums])), (a2, .inl (cA, 10, .inr (.inr (.inr (.inr f)))))] sz)) 0 0 (va_A [(h0, .inr (0, [.int 1, .ref a2, .int 1])), (a1, .inr (12, [.ref st_shelf, .ref st_first, .ref st_second, .ref st_third, .int st_at, .ref st_locks, .int st_mirrors, .int st_fetched, .ref st_wrong, .ref st_offered, .ref st_offeredSums])), (a2, .inl (cA, 10, .inr (.inr (.inr (.inr f)))))] sz) := by
  refine Met.ofW (cc := cJx4a65c_add_9ea2d) (maxL := 2) (ret := (some .boolean)) (by decide) rfl ?_
  intro p e s m args below meth c s₁ B hml hv
  obtain ⟨rfl, hsz, hP, hK, hD0, hF, hZ⟩ := hv
  have hx := B.exec
  have hb := B.bytes
  have hr := B.returns
  have hts0 := atoms_spec (ws := (.code yJx4a65c_add_9ea2d cJx4a65c_add_9ea2d 2 (some .boolean) :: wsL_law)) B.pre
  have hts : ∀ w ∈ wsL_law, w.before _ s = true := fun w h => hts0 w (List.mem_cons_of_mem _ h)
  have hown : s.vm.findClass RJx4a65c = some m.cls := findClass_of_methodNamed B.named
  have hlocks := B.notSynchronized
  have hin : meth.name = "add" := (name_of_methodNamed B.named B.method).1
  subst hsz
  have hD := hD0.self (sz := s.heap.size)
  generalize hAe : va_A [(h0, .inr (0, [.int 1, .ref a2, .int 1])), (a1, .inr (12, [.ref st_shelf, .ref st_first, .ref st_second, .ref st_third, .int st_at, .ref st_locks, .int st_mirrors, .int st_fetched, .ref st_wrong, .ref st_offered, .ref st_offeredSums])), (a2, .inl (cA, 10, .inr (.inr (.inr (.inr f)))))] s.heap.size = A at hD hZ ⊢
  have hA : ∀ q : Nat, s.heap.size ≤ q → A q := fun q h => by rw [← hAe]; exact Or.inr h
  have hS : va_S A s.heap s.heap [] := va_S.rf
  have hP : va_P (dC, dI) vwCl [(h0, .inr (0, [.int 1, .ref a2, .int 1])), (a1, .inr (12, [.ref st_shelf, .ref st_first, .ref st_second, .ref st_third, .int st_at, .ref st_locks, .int st_mirrors, .int st_fetched, .ref st_wrong, .ref st_offered, .ref st_offeredSums])), (a2, .inl (cA, 10, .inr (.inr (.inr (.inr f)))))] s.heap := hP
  have hl := lv_entry ([.ref h0, .ref a1]) (n := 2) (Nat.le_of_ble_eq_true rfl)
  rw [lg_entry_eq]
  generalize (lg_sl ([.ref h0, .ref a1]) ++ List.replicate (2 - (lg_sl ([.ref h0, .ref a1])).length) Slot.unset).toArray = ls at hl ⊢
  have hl : lv_has ls 2 [(0, .ref h0), (1, .ref a1)] := hl
  refine lv_aload_n hx hb dJx4a65c_add_9ea2d_0 rfl (lv_at hl 0 rfl) ?_
  refine lv_dup hx hb dJx4a65c_add_9ea2d_1 rfl ?_
  refine va_get (D := (dC, dI)) (ci := 0) (v := .int 1) (C := RJx4a65c) (T := TJx4a65c) (N := 3) hx hb hts inlJx4a65c hown hK hP 0 rfl rfl 0 (by decide) (hts (.fieldLink RJx4a65c 63 "java/util/ArrayList" "modCount" "I") (inLU_10 (.fieldLink RJx4a65c 63 "java/util/ArrayList" "modCount" "I") (List.mem_of_getElem? (i := 17) rfl))) (fun x9 h9 => u_same (hts (.sameField "java/util/ArrayList" "java/util/AbstractList" "modCount" "I") (inLU_10 (.sameField "java/util/ArrayList" "java/util/AbstractList" "modCount" "I") (List.mem_of_getElem? (i := 18) rfl))) x9 h9) rfl dJx4a65c_add_9ea2d_2 ?_
  refine lv_iconst (v := 1) hx hb dJx4a65c_add_9ea2d_5 (by decide) ?_
  refine lv_iadd hx hb dJx4a65c_add_9ea2d_6 ?_
  refine lv_topi (fun x1 ex1 => ?_)
  obtain rfl : x1 = 2 := ex1.trans (by decide)
  refine va_put (D := (dC, dI)) (ci := 0) (v := .int 2) (ty := .int) (C := RJx4a65c) (T := TJx4a65c) (N := 3) hx hb hts inlJx4a65c tyJx4a65c tyJx4a65c_ok nmJx4a65c hown hK hP hD hS 0 rfl rfl 0 (by decide) (hts (.fieldLink RJx4a65c 63 "java/util/ArrayList" "modCount" "I") (inLU_10 (.fieldLink RJx4a65c 63 "java/util/ArrayList" "modCount" "I") (List.mem_of_getElem? (i := 17) rfl))) (fun x9 h9 => u_same (hts (.sameField "java/util/ArrayList" "java/util/AbstractList" "modCount" "I") (inLU_10 (.sameField "java/util/ArrayList" "java/util/AbstractList" "modCount" "I") (List.mem_of_getElem? (i := 18) rfl))) x9 h9) rfl (tyJx4a65c_ok 0 (by decide)) rfl rfl (Nat.le_of_ble_eq_true rfl) dJx4a65c_add_9ea2d_7 (fun H locs hP hD hS => ?_)
  have hP : va_P (dC, dI) vwCl [(h0, .inr (0, [.int 2, .ref a2, .int 1])), (a1, .inr (12, [.ref st_shelf, .ref st_first, .ref st_second, .ref st_third, .int st_at, .ref st_locks, .int st_mirrors, .int st_fetched, .ref st_wrong, .ref st_offered, .ref st_offeredSums])), (a2, .inl (cA, 10, .inr (.inr (.inr (.inr f)))))] H := hP
  have hD : va_D A [(h0, .inr (0, [.int 2, .ref a2, .int 1])), (a1, .inr (12, [.ref st_shelf, .ref st_first, .ref st_second, .ref st_third, .int st_at, .ref st_locks, .int st_mirrors, .int st_fetched, .ref st_wrong, .ref st_offered, .ref st_offeredSums])), (a2, .inl (cA, 10, .inr (.inr (.inr (.inr f)))))] := hD
  refine lv_aload_n hx hb dJx4a65c_add_9ea2d_10 rfl (lv_at hl 0 rfl) ?_
  refine lv_aload_n hx hb dJx4a65c_add_9ea2d_11 rfl (lv_at hl 1 rfl) ?_
  refine lv_aload_n hx hb dJx4a65c_add_9ea2d_12 rfl (lv_at hl 0 rfl) ?_
  refine va_get (D := (dC, dI)) (ci := 0) (v := .ref a2) (C := RJx4a65c) (T := TJx4a65c) (N := 3) hx hb hts inlJx4a65c hown hK hP 0 rfl rfl 1 (by decide) (hts (.fieldLink RJx4a65c 9 "java/util/ArrayList" "elementData" "[Ljava/lang/Object;") (inLU_6 (.fieldLink RJx4a65c 9 "java/util/ArrayList" "elementData" "[Ljava/lang/Object;") (List.mem_of_getElem? (i := 11) rfl))) (fun _ h9 => h9) rfl dJx4a65c_add_9ea2d_13 ?_
  refine lv_aload_n hx hb dJx4a65c_add_9ea2d_16 rfl (lv_at hl 0 rfl) ?_
  refine va_get (D := (dC, dI)) (ci := 0) (v := .int 1) (C := RJx4a65c) (T := TJx4a65c) (N := 3) hx hb hts inlJx4a65c hown hK hP 0 rfl rfl 2 (by decide) (hts (.fieldLink RJx4a65c 48 "java/util/ArrayList" "size" "I") (inLU_10 (.fieldLink RJx4a65c 48 "java/util/ArrayList" "size" "I") (List.mem_of_getElem? (i := 19) rfl))) (fun _ h9 => h9) rfl dJx4a65c_add_9ea2d_17 ?_
  have hPc := hP.sub (ws' := [(h0, .inr (0, [.int 2, .ref a2, .int 1])), (a1, .inr (12, [.ref st_shelf, .ref st_first, .ref st_second, .ref st_third, .int st_at, .ref st_locks, .int st_mirrors, .int st_fetched, .ref st_wrong, .ref st_offered, .ref st_offeredSums])), (a2, .inl (cA, 10, .inr (.inr (.inr (.inr f)))))]) [0, 1, 2] rfl
  have hDc := hD.sub (ws' := [(h0, .inr (0, [.int 2, .ref a2, .int 1])), (a1, .inr (12, [.ref st_shelf, .ref st_first, .ref st_second, .ref st_third, .int st_at, .ref st_locks, .int st_mirrors, .int st_fetched, .ref st_wrong, .ref st_offered, .ref st_offeredSums])), (a2, .inl (cA, 10, .inr (.inr (.inr (.inr f)))))]) [0, 1, 2] (by decide) rfl
  have hKc := hK.sub (tys' := [(cA, .object "java/lang/Object")]) [0] rfl
  have hFc := va_free (wc := [(h0, .inr (0, [.int 2, .ref a2, .int 1])), (a1, .inr (12, [.ref st_shelf, .ref st_first, .ref st_second, .ref st_third, .int st_at, .ref st_locks, .int st_mirrors, .int st_fetched, .ref st_wrong, .ref st_offered, .ref st_offeredSums])), (a2, .inl (cA, 10, .inr (.inr (.inr (.inr f)))))]) hD hS hA [0, 1, 2] rfl
  refine va_callv (va_runV (As := [.ref a1, .ref a2, .int 1]) (rest := []) ⟨hx, hb, hml, hown, hts⟩ (c_List_put1 l dC dI dA h0 a1 a2 cA f st_shelf st_first st_second st_third st_at st_locks st_mirrors st_fetched st_wrong st_offered st_offeredSums H.size) (cwV 3 hts (gLU_V (inLU_10 (.methodLink RJx4a65c 131 yJx4a65c_add_72be8) (List.mem_of_getElem? (i := 20) rfl)) (inLU_10 (.instanceMethod yJx4a65c_add_72be8) (List.mem_of_getElem? (i := 21) rfl)) (inLU_10 (.selects RJx4a65c yJx4a65c_add_72be8 yJx4a65c_add_72be8) (List.mem_of_getElem? (i := 22) rfl)) (inLU_1 (.initialized RJx4a65c) (List.mem_of_getElem? (i := 23) rfl)) (inLU_10 (.code yJx4a65c_add_72be8 cJx4a65c_add_72be8 4 none) (List.mem_of_getElem? (i := 23) rfl))) rfl rfl rfl (by decide +kernel) ⟨Nat.le_of_ble_eq_true rfl, Nat.le_of_ble_eq_true rfl⟩) ⟨fun a U g mk q => by obtain ⟨q0, q1, qP, qK, qD, qF, qZ⟩ := q; exact ⟨q0, q1, qP, va_K.moved (u := U) (U := U.calling g mk a) (Vm.Alike.refl U.vm) qK, qD, kwF.same (u := U) (U := U.calling g mk a) rfl qF, kwH.moved (u := U) (U := U.calling g mk a) (Vm.Alike.refl U.vm) qZ⟩, va_recv hKc hPc (ci := 0) (q0 := 0) rfl rfl, fun U hU hW => ⟨rfl, by rw [hU], by rw [hU]; exact hPc, va_K.moved hW.alike hKc, hDc.weaken (fun _ _ _ _ => trivial), kwF.warm hW hF, kwH.at hZ hS hFc hW.alike hU⟩⟩ rfl rfl hl.1 rfl (lv_room (Nat.le_of_ble_eq_true rfl)) dJx4a65c_add_9ea2d_20 ⟨Nat.le_of_ble_eq_true rfl, Nat.le_of_ble_eq_true rfl⟩) hS (fun q _ h => hFc q h) hFc (fun u t H1 locs ht hvm hw hB hz1 hk1 hS => ?_)
  obtain ⟨hP1, hK1, hD1⟩ := hB
  rw [ht] at hP1
  have hK1 := va_K.moved hvm.symm hK1
  obtain ⟨hP, hD⟩ := va_join (wr := []) (w1 := [(h0, .inr (0, [.int 2, .ref a2, .int 2])), (a1, .inr (12, [.ref st_shelf, .ref st_first, .ref st_second, .ref st_third, .int st_at, .ref st_locks, .int st_mirrors, .int st_fetched, .ref st_wrong, .ref st_offered, .ref st_offeredSums])), (a2, .inl (cA, 10, .inr (.inr (.inr (.inr (va_up f 1 (some a1)))))))]) hP hD [0, 1, 2] [] rfl rfl (by decide) (by decide) hk1 hFc hP1 hD1
  have hK := hK.app hK1
  generalize H1 = H at hP hS ⊢
  have hK : va_K (dC, dI) vwCl [(cA, .object "java/lang/Object")] s := hK
  have hP : va_P (dC, dI) vwCl [(h0, .inr (0, [.int 2, .ref a2, .int 2])), (a1, .inr (12, [.ref st_shelf, .ref st_first, .ref st_second, .ref st_third, .int st_at, .ref st_locks, .int st_mirrors, .int st_fetched, .ref st_wrong, .ref st_offered, .ref st_offeredSums])), (a2, .inl (cA, 10, .inr (.inr (.inr (.inr (va_up f 1 (some a1)))))))] H := hP
  have hD : va_D A [(h0, .inr (0, [.int 2, .ref a2, .int 2])), (a1, .inr (12, [.ref st_shelf, .ref st_first, .ref st_second, .ref st_third, .int st_at, .ref st_locks, .int st_mirrors, .int st_fetched, .ref st_wrong, .ref st_offered, .ref st_offeredSums])), (a2, .inl (cA, 10, .inr (.inr (.inr (.inr (va_up f 1 (some a1)))))))] := hD
  refine W.widen (k := 0) (n := 0) (Nat.le_of_ble_eq_true rfl) (Nat.le_of_ble_eq_true rfl) ?_
  refine lv_iconst (v := 1) hx hb dJx4a65c_add_9ea2d_23 (by decide) ?_
  have hP9 := hP.sub (ws' := [(h0, .inr (0, [.int 2, .ref a2, .int 2])), (a1, .inr (12, [.ref st_shelf, .ref st_first, .ref st_second, .ref st_third, .int st_at, .ref st_locks, .int st_mirrors, .int st_fetched, .ref st_wrong, .ref st_offered, .ref st_offeredSums])), (a2, .inl (cA, 10, .inr (.inr (.inr (.inr (va_up f 1 (some a1)))))))]) [0, 1, 2] rfl
  have hD9 := hD.sub (ws' := [(h0, .inr (0, [.int 2, .ref a2, .int 2])), (a1, .inr (12, [.ref st_shelf, .ref st_first, .ref st_second, .ref st_third, .int st_at, .ref st_locks, .int st_mirrors, .int st_fetched, .ref st_wrong, .ref st_offered, .ref st_offeredSums])), (a2, .inl (cA, 10, .inr (.inr (.inr (.inr (va_up f 1 (some a1)))))))]) [0, 1, 2] (by decide) rfl
  have hK9 := hK.sub (tys' := []) [] rfl
  exact W.zret (v := 1) hx hb hr rfl (fun t ht hW => ⟨⟨1, (), rfl, rfl, by rw [ht]; exact hP9, va_K.moved hW.alike hK9, hD9⟩, hS.F ht⟩) hS.2.2 dJx4a65c_add_9ea2d_24
set_option maxHeartbeats 4000000 in
set_option maxRecDepth 100000 in
/-- element 2 -/
theorem c_List_put2 (l : Launch) (dC : Nat → ClassId) (dI : Nat → Nat → Nat) (dA : Nat) (h0 : Nat) (a1 : Nat) (a2 : Nat) (cA : ClassId) (f : Nat → Option Nat) (st_shelf : Nat) (st_first : Nat) (st_second : Nat) (st_third : Nat) (st_at : Int32) (st_locks : Nat) (st_mirrors : Int32) (st_fetched : Int32) (st_wrong : Nat) (st_offered : Nat) (st_offeredSums : Nat) (sz : Nat) : Met l yJx4a65c_add_72be8 (.code yJx4a65c_add_72be8 cJx4a65c_add_72be8 4 none :: wsL_law) ({ frames := 0, cells := 0, slots := 0, locals := 0 }) (va_Pc [.ref h0, .ref a1, .ref a2, .int 2] (fun U => U.heap.size = sz ∧ va_P (dC, dI) vwCl [(h0, .inr (0, [.int 3, .ref a2, .int 2])), (a1, .inr (12, [.ref st_shelf, .ref st_first, .ref st_second, .ref st_third, .int st_at, .ref st_locks, .int st_mirrors, .int st_fetched, .ref st_wrong, .ref st_offered, .ref st_offeredSums])), (a2, .inl (cA, 10, .inr (.inr (.inr (.inr f)))))] U.heap ∧ va_K (dC, dI) vwCl [(cA, .object "java/lang/Object")] U ∧ va_D (fun _ => True) [(h0, .inr (0, [.int 3, .ref a2, .int 2])), (a1, .inr (12, [.ref st_shelf, .ref st_first, .ref st_second, .ref st_third, .int st_at, .ref st_locks, .int st_mirrors, .int st_fetched, .ref st_wrong, .ref st_offered, .ref st_offeredSums])), (a2, .inl (cA, 10, .inr (.inr (.inr (.inr f)))))] ∧ kwF U ∧ kwH dA (va_A [(h0, .inr (0, [.int 3, .ref a2, .int 2])), (a1, .inr (12, [.ref st_shelf, .ref st_first, .ref st_second, .ref st_third, .int st_at, .ref st_locks, .int st_mirrors, .int st_fetched, .ref st_wrong, .ref st_offered, .ref st_offeredSums])), (a2, .inl (cA, 10, .inr (.inr (.inr (.inr f)))))] sz) U U.heap)) (va_Qv (fun _ : Unit => True) (fun _ t => va_P (dC, dI) vwCl [(h0, .inr (0, [.int 3, .ref a2, .int 3])), (a1, .inr (12, [.ref st_shelf, .ref st_first, .ref st_second, .ref st_third, .int st_at, .ref st_locks, .int st_mirrors, .int st_fetched, .ref st_wrong, .ref st_offered, .ref st_offeredSums])), (a2, .inl (cA, 10, .inr (.inr (.inr (.inr (va_up f 2 (some a1)))))))] t.heap ∧ va_K (dC, dI) vwCl [] t ∧ va_D (va_A [(h0, .inr (0, [.int 3, .ref a2, .int 2])), (a1, .inr (12, [.ref st_shelf, .ref st_first, .ref st_second, .ref st_third, .int st_at, .ref st_locks, .int st_mirrors, .int st_fetched, .ref st_wrong, .ref st_offered, .ref st_offeredSums])), (a2, .inl (cA, 10, .inr (.inr (.inr (.inr f)))))] sz) [(h0, .inr (0, [.int 3, .ref a2, .int 3])), (a1, .inr (12, [.ref st_shelf, .ref st_first, .ref st_second, .ref st_third, .int st_at, .ref st_locks, .int st_mirrors, .int st_fetched, .ref st_wrong, .ref st_offered, .ref st_offeredSums])), (a2, .inl (cA, 10, .inr (.inr (.inr (.inr (va_up f 2 (some a1)))))))]) (va_A [(h0, .inr (0, [.int 3, .ref a2, .int 2])), (a1, .inr (12, [.ref st_shelf, .ref st_first, .ref st_second, .ref st_third, .int st_at, .ref st_locks, .int st_mirrors, .int st_fetched, .ref st_wrong, .ref st_offered, .ref st_offeredSums])), (a2, .inl (cA, 10, .inr (.inr (.inr (.inr f)))))] sz)) 0 0 (va_A [(h0, .inr (0, [.int 3, .ref a2, .int 2])), (a1, .inr (12, [.ref st_shelf, .ref st_first, .ref st_second, .ref st_third, .int st_at, .ref st_locks, .int st_mirrors, .int st_fetched, .ref st_wrong, .ref st_offered, .ref st_offeredSums])), (a2, .inl (cA, 10, .inr (.inr (.inr (.inr f)))))] sz) := by
  refine Met.ofW (cc := cJx4a65c_add_72be8) (maxL := 4) (ret := none) (by decide) rfl ?_
  intro p e s m args below meth c s₁ B hml hv
  obtain ⟨rfl, hsz, hP, hK, hD0, hF, hZ⟩ := hv
  have hx := B.exec
  have hb := B.bytes
  have hr := B.returns
  have hts0 := atoms_spec (ws := (.code yJx4a65c_add_72be8 cJx4a65c_add_72be8 4 none :: wsL_law)) B.pre
  have hts : ∀ w ∈ wsL_law, w.before _ s = true := fun w h => hts0 w (List.mem_cons_of_mem _ h)
  have hown : s.vm.findClass RJx4a65c = some m.cls := findClass_of_methodNamed B.named
  have hlocks := B.notSynchronized
  have hin : meth.name = "add" := (name_of_methodNamed B.named B.method).1
  subst hsz
  have hD := hD0.self (sz := s.heap.size)
  generalize hAe : va_A [(h0, .inr (0, [.int 3, .ref a2, .int 2])), (a1, .inr (12, [.ref st_shelf, .ref st_first, .ref st_second, .ref st_third, .int st_at, .ref st_locks, .int st_mirrors, .int st_fetched, .ref st_wrong, .ref st_offered, .ref st_offeredSums])), (a2, .inl (cA, 10, .inr (.inr (.inr (.inr f)))))] s.heap.size = A at hD hZ ⊢
  have hA : ∀ q : Nat, s.heap.size ≤ q → A q := fun q h => by rw [← hAe]; exact Or.inr h
  have hS : va_S A s.heap s.heap [] := va_S.rf
  have hP : va_P (dC, dI) vwCl [(h0, .inr (0, [.int 3, .ref a2, .int 2])), (a1, .inr (12, [.ref st_shelf, .ref st_first, .ref st_second, .ref st_third, .int st_at, .ref st_locks, .int st_mirrors, .int st_fetched, .ref st_wrong, .ref st_offered, .ref st_offeredSums])), (a2, .inl (cA, 10, .inr (.inr (.inr (.inr f)))))] s.heap := hP
  have hl := lv_entry ([.ref h0, .ref a1, .ref a2, .int 2]) (n := 4) (Nat.le_of_ble_eq_true rfl)
  rw [lg_entry_eq]
  generalize (lg_sl ([.ref h0, .ref a1, .ref a2, .int 2]) ++ List.replicate (4 - (lg_sl ([.ref h0, .ref a1, .ref a2, .int 2])).length) Slot.unset).toArray = ls at hl ⊢
  have hl : lv_has ls 4 [(0, .ref h0), (1, .ref a1), (2, .ref a2), (3, .int 2)] := hl
  refine lv_iload_n hx hb dJx4a65c_add_72be8_0 rfl (lv_at hl 3 rfl) ?_
  refine lv_aload_n hx hb dJx4a65c_add_72be8_1 rfl (lv_at hl 2 rfl) ?_
  refine va_alen (D := (dC, dI)) (v := 10) hx hb hK hP 2 0 rfl rfl (show Int32.ofNat 10 = 10 from by decide) dJx4a65c_add_72be8_2 ?_
  refine lv_icmp_ne (tgt := 11) hx hb dJx4a65c_add_72be8_3 (by decide) (fun _ => ?_) (fun c1 => absurd c1 (by decide))
  refine lv_aload_n hx hb dJx4a65c_add_72be8_11 rfl (lv_at hl 2 rfl) ?_
  refine lv_iload_n hx hb dJx4a65c_add_72be8_12 rfl (lv_at hl 3 rfl) ?_
  refine lv_aload_n hx hb dJx4a65c_add_72be8_13 rfl (lv_at hl 1 rfl) ?_
  refine va_astqO (D := (dC, dI)) hx hb hK hP hD hS 2 0 1 12 rfl rfl (kw_C_X11 hF) rfl rfl (show vp_in _ _ from by unfold vp_in; decide) dJx4a65c_add_72be8_14 (fun H locs hP hD hS => ?_)
  rw [show (2 : Int32).toNatClampNeg = 2 from by decide] at hP hD
  have hP : va_P (dC, dI) vwCl [(h0, .inr (0, [.int 3, .ref a2, .int 2])), (a1, .inr (12, [.ref st_shelf, .ref st_first, .ref st_second, .ref st_third, .int st_at, .ref st_locks, .int st_mirrors, .int st_fetched, .ref st_wrong, .ref st_offered, .ref st_offeredSums])), (a2, .inl (cA, 10, .inr (.inr (.inr (.inr (va_up f 2 (some a1)))))))] H := hP
  have hD : va_D A [(h0, .inr (0, [.int 3, .ref a2, .int 2])), (a1, .inr (12, [.ref st_shelf, .ref st_first, .ref st_second, .ref st_third, .int st_at, .ref st_locks, .int st_mirrors, .int st_fetched, .ref st_wrong, .ref st_offered, .ref st_offeredSums])), (a2, .inl (cA, 10, .inr (.inr (.inr (.inr (va_up f 2 (some a1)))))))] := hD
  refine lv_aload_n hx hb dJx4a65c_add_72be8_15 rfl (lv_at hl 0 rfl) ?_
  refine lv_iload_n hx hb dJx4a65c_add_72be8_16 rfl (lv_at hl 3 rfl) ?_
  refine lv_iconst (v := 1) hx hb dJx4a65c_add_72be8_17 (by decide) ?_
  refine lv_iadd hx hb dJx4a65c_add_72be8_18 ?_
  refine lv_topi (fun x2 ex2 => ?_)
  obtain rfl : x2 = 3 := ex2.trans (by decide)
  refine va_put (D := (dC, dI)) (ci := 0) (v := .int 3) (ty := .int) (C := RJx4a65c) (T := TJx4a65c) (N := 3) hx hb hts inlJx4a65c tyJx4a65c tyJx4a65c_ok nmJx4a65c hown hK hP hD hS 0 rfl rfl 2 (by decide) (hts (.fieldLink RJx4a65c 48 "java/util/ArrayList" "size" "I") (inLU_10 (.fieldLink RJx4a65c 48 "java/util/ArrayList" "size" "I") (List.mem_of_getElem? (i := 19) rfl))) (fun _ h9 => h9) rfl (tyJx4a65c_ok 2 (by decide)) rfl rfl (Nat.le_of_ble_eq_true rfl) dJx4a65c_add_72be8_19 (fun H locs hP hD hS => ?_)
  have hP : va_P (dC, dI) vwCl [(h0, .inr (0, [.int 3, .ref a2, .int 3])), (a1, .inr (12, [.ref st_shelf, .ref st_first, .ref st_second, .ref st_third, .int st_at, .ref st_locks, .int st_mirrors, .int st_fetched, .ref st_wrong, .ref st_offered, .ref st_offeredSums])), (a2, .inl (cA, 10, .inr (.inr (.inr (.inr (va_up f 2 (some a1)))))))] H := hP
  have hD : va_D A [(h0, .inr (0, [.int 3, .ref a2, .int 3])), (a1, .inr (12, [.ref st_shelf, .ref st_first, .ref st_second, .ref st_third, .int st_at, .ref st_locks, .int st_mirrors, .int st_fetched, .ref st_wrong, .ref st_offered, .ref st_offeredSums])), (a2, .inl (cA, 10, .inr (.inr (.inr (.inr (va_up f 2 (some a1)))))))] := hD
  have hP9 := hP.sub (ws' := [(h0, .inr (0, [.int 3, .ref a2, .int 3])), (a1, .inr (12, [.ref st_shelf, .ref st_first, .ref st_second, .ref st_third, .int st_at, .ref st_locks, .int st_mirrors, .int st_fetched, .ref st_wrong, .ref st_offered, .ref st_offeredSums])), (a2, .inl (cA, 10, .inr (.inr (.inr (.inr (va_up f 2 (some a1)))))))]) [0, 1, 2] rfl
  have hD9 := hD.sub (ws' := [(h0, .inr (0, [.int 3, .ref a2, .int 3])), (a1, .inr (12, [.ref st_shelf, .ref st_first, .ref st_second, .ref st_third, .int st_at, .ref st_locks, .int st_mirrors, .int st_fetched, .ref st_wrong, .ref st_offered, .ref st_offeredSums])), (a2, .inl (cA, 10, .inr (.inr (.inr (.inr (va_up f 2 (some a1)))))))]) [0, 1, 2] (by decide) rfl
  have hK9 := hK.sub (tys' := []) [] rfl
  exact W.vret hx hb hr (fun t ht hW => ⟨⟨(), rfl, trivial, by rw [ht]; exact hP9, va_K.moved hW.alike hK9, hD9⟩, hS.F ht⟩) hS.2.2 dJx4a65c_add_72be8_22
set_option maxHeartbeats 4000000 in
set_option maxRecDepth 100000 in
/-- add(e), element 2 -/
theorem c_List_add2 (l : Launch) (dC : Nat → ClassId) (dI : Nat → Nat → Nat) (dA : Nat) (h0 : Nat) (a1 : Nat) (a2 : Nat) (cA : ClassId) (f : Nat → Option Nat) (st_shelf : Nat) (st_first : Nat) (st_second : Nat) (st_third : Nat) (st_at : Int32) (st_locks : Nat) (st_mirrors : Int32) (st_fetched : Int32) (st_wrong : Nat) (st_offered : Nat) (st_offeredSums : Nat) (sz : Nat) : Met l yJx4a65c_add_9ea2d (.code yJx4a65c_add_9ea2d cJx4a65c_add_9ea2d 2 (some .boolean) :: wsL_law) ({ frames := 1, cells := 0, slots := 0, locals := 23 }) (va_Pc [.ref h0, .ref a1] (fun U => U.heap.size = sz ∧ va_P (dC, dI) vwCl [(h0, .inr (0, [.int 2, .ref a2, .int 2])), (a1, .inr (12, [.ref st_shelf, .ref st_first, .ref st_second, .ref st_third, .int st_at, .ref st_locks, .int st_mirrors, .int st_fetched, .ref st_wrong, .ref st_offered, .ref st_offeredSums])), (a2, .inl (cA, 10, .inr (.inr (.inr (.inr f)))))] U.heap ∧ va_K (dC, dI) vwCl [(cA, .object "java/lang/Object")] U ∧ va_D (fun _ => True) [(h0, .inr (0, [.int 2, .ref a2, .int 2])), (a1, .inr (12, [.ref st_shelf, .ref st_first, .ref st_second, .ref st_third, .int st_at, .ref st_locks, .int st_mirrors, .int st_fetched, .ref st_wrong, .ref st_offered, .ref st_offeredSums])), (a2, .inl (cA, 10, .inr (.inr (.inr (.inr f)))))] ∧ kwF U ∧ kwH dA (va_A [(h0, .inr (0, [.int 2, .ref a2, .int 2])), (a1, .inr (12, [.ref st_shelf, .ref st_first, .ref st_second, .ref st_third, .int st_at, .ref st_locks, .int st_mirrors, .int st_fetched, .ref st_wrong, .ref st_offered, .ref st_offeredSums])), (a2, .inl (cA, 10, .inr (.inr (.inr (.inr f)))))] sz) U U.heap)) (va_Qi (fun (r : Int32) (_ : Unit) => r = 1) (fun _ t => va_P (dC, dI) vwCl [(h0, .inr (0, [.int 3, .ref a2, .int 3])), (a1, .inr (12, [.ref st_shelf, .ref st_first, .ref st_second, .ref st_third, .int st_at, .ref st_locks, .int st_mirrors, .int st_fetched, .ref st_wrong, .ref st_offered, .ref st_offeredSums])), (a2, .inl (cA, 10, .inr (.inr (.inr (.inr (va_up f 2 (some a1)))))))] t.heap ∧ va_K (dC, dI) vwCl [] t ∧ va_D (va_A [(h0, .inr (0, [.int 2, .ref a2, .int 2])), (a1, .inr (12, [.ref st_shelf, .ref st_first, .ref st_second, .ref st_third, .int st_at, .ref st_locks, .int st_mirrors, .int st_fetched, .ref st_wrong, .ref st_offered, .ref st_offeredSums])), (a2, .inl (cA, 10, .inr (.inr (.inr (.inr f)))))] sz) [(h0, .inr (0, [.int 3, .ref a2, .int 3])), (a1, .inr (12, [.ref st_shelf, .ref st_first, .ref st_second, .ref st_third, .int st_at, .ref st_locks, .int st_mirrors, .int st_fetched, .ref st_wrong, .ref st_offered, .ref st_offeredSums])), (a2, .inl (cA, 10, .inr (.inr (.inr (.inr (va_up f 2 (some a1)))))))]) (va_A [(h0, .inr (0, [.int 2, .ref a2, .int 2])), (a1, .inr (12, [.ref st_shelf, .ref st_first, .ref st_second, .ref st_third, .int st_at, .ref st_locks, .int st_mirrors, .int st_fetched, .ref st_wrong, .ref st_offered, .ref st_offeredSums])), (a2, .inl (cA, 10, .inr (.inr (.inr (.inr f)))))] sz)) 0 0 (va_A [(h0, .inr (0, [.int 2, .ref a2, .int 2])), (a1, .inr (12, [.ref st_shelf, .ref st_first, .ref st_second, .ref st_third, .int st_at, .ref st_locks, .int st_mirrors, .int st_fetched, .ref st_wrong, .ref st_offered, .ref st_offeredSums])), (a2, .inl (cA, 10, .inr (.inr (.inr (.inr f)))))] sz) := by
  refine Met.ofW (cc := cJx4a65c_add_9ea2d) (maxL := 2) (ret := (some .boolean)) (by decide) rfl ?_
  intro p e s m args below meth c s₁ B hml hv
  obtain ⟨rfl, hsz, hP, hK, hD0, hF, hZ⟩ := hv
  have hx := B.exec
  have hb := B.bytes
  have hr := B.returns
  have hts0 := atoms_spec (ws := (.code yJx4a65c_add_9ea2d cJx4a65c_add_9ea2d 2 (some .boolean) :: wsL_law)) B.pre
  have hts : ∀ w ∈ wsL_law, w.before _ s = true := fun w h => hts0 w (List.mem_cons_of_mem _ h)
  have hown : s.vm.findClass RJx4a65c = some m.cls := findClass_of_methodNamed B.named
  have hlocks := B.notSynchronized
  have hin : meth.name = "add" := (name_of_methodNamed B.named B.method).1
  subst hsz
  have hD := hD0.self (sz := s.heap.size)
  generalize hAe : va_A [(h0, .inr (0, [.int 2, .ref a2, .int 2])), (a1, .inr (12, [.ref st_shelf, .ref st_first, .ref st_second, .ref st_third, .int st_at, .ref st_locks, .int st_mirrors, .int st_fetched, .ref st_wrong, .ref st_offered, .ref st_offeredSums])), (a2, .inl (cA, 10, .inr (.inr (.inr (.inr f)))))] s.heap.size = A at hD hZ ⊢
  have hA : ∀ q : Nat, s.heap.size ≤ q → A q := fun q h => by rw [← hAe]; exact Or.inr h
  have hS : va_S A s.heap s.heap [] := va_S.rf
  have hP : va_P (dC, dI) vwCl [(h0, .inr (0, [.int 2, .ref a2, .int 2])), (a1, .inr (12, [.ref st_shelf, .ref st_first, .ref st_second, .ref st_third, .int st_at, .ref st_locks, .int st_mirrors, .int st_fetched, .ref st_wrong, .ref st_offered, .ref st_offeredSums])), (a2, .inl (cA, 10, .inr (.inr (.inr (.inr f)))))] s.heap := hP
  have hl := lv_entry ([.ref h0, .ref a1]) (n := 2) (Nat.le_of_ble_eq_true rfl)
  rw [lg_entry_eq]
  generalize (lg_sl ([.ref h0, .ref a1]) ++ List.replicate (2 - (lg_sl ([.ref h0, .ref a1])).length) Slot.unset).toArray = ls at hl ⊢
  have hl : lv_has ls 2 [(0, .ref h0), (1, .ref a1)] := hl
  refine lv_aload_n hx hb dJx4a65c_add_9ea2d_0 rfl (lv_at hl 0 rfl) ?_
  refine lv_dup hx hb dJx4a65c_add_9ea2d_1 rfl ?_
  refine va_get (D := (dC, dI)) (ci := 0) (v := .int 2) (C := RJx4a65c) (T := TJx4a65c) (N := 3) hx hb hts inlJx4a65c hown hK hP 0 rfl rfl 0 (by decide) (hts (.fieldLink RJx4a65c 63 "java/util/ArrayList" "modCount" "I") (inLU_10 (.fieldLink RJx4a65c 63 "java/util/ArrayList" "modCount" "I") (List.mem_of_getElem? (i := 17) rfl))) (fun x9 h9 => u_same (hts (.sameField "java/util/ArrayList" "java/util/AbstractList" "modCount" "I") (inLU_10 (.sameField "java/util/ArrayList" "java/util/AbstractList" "modCount" "I") (List.mem_of_getElem? (i := 18) rfl))) x9 h9) rfl dJx4a65c_add_9ea2d_2 ?_
  refine lv_iconst (v := 1) hx hb dJx4a65c_add_9ea2d_5 (by decide) ?_
  refine lv_iadd hx hb dJx4a65c_add_9ea2d_6 ?_
  refine lv_topi (fun x1 ex1 => ?_)
  obtain rfl : x1 = 3 := ex1.trans (by decide)
  refine va_put (D := (dC, dI)) (ci := 0) (v := .int 3) (ty := .int) (C := RJx4a65c) (T := TJx4a65c) (N := 3) hx hb hts inlJx4a65c tyJx4a65c tyJx4a65c_ok nmJx4a65c hown hK hP hD hS 0 rfl rfl 0 (by decide) (hts (.fieldLink RJx4a65c 63 "java/util/ArrayList" "modCount" "I") (inLU_10 (.fieldLink RJx4a65c 63 "java/util/ArrayList" "modCount" "I") (List.mem_of_getElem? (i := 17) rfl))) (fun x9 h9 => u_same (hts (.sameField "java/util/ArrayList" "java/util/AbstractList" "modCount" "I") (inLU_10 (.sameField "java/util/ArrayList" "java/util/AbstractList" "modCount" "I") (List.mem_of_getElem? (i := 18) rfl))) x9 h9) rfl (tyJx4a65c_ok 0 (by decide)) rfl rfl (Nat.le_of_ble_eq_true rfl) dJx4a65c_add_9ea2d_7 (fun H locs hP hD hS => ?_)
  have hP : va_P (dC, dI) vwCl [(h0, .inr (0, [.int 3, .ref a2, .int 2])), (a1, .inr (12, [.ref st_shelf, .ref st_first, .ref st_second, .ref st_third, .int st_at, .ref st_locks, .int st_mirrors, .int st_fetched, .ref st_wrong, .ref st_offered, .ref st_offeredSums])), (a2, .inl (cA, 10, .inr (.inr (.inr (.inr f)))))] H := hP
  have hD : va_D A [(h0, .inr (0, [.int 3, .ref a2, .int 2])), (a1, .inr (12, [.ref st_shelf, .ref st_first, .ref st_second, .ref st_third, .int st_at, .ref st_locks, .int st_mirrors, .int st_fetched, .ref st_wrong, .ref st_offered, .ref st_offeredSums])), (a2, .inl (cA, 10, .inr (.inr (.inr (.inr f)))))] := hD
  refine lv_aload_n hx hb dJx4a65c_add_9ea2d_10 rfl (lv_at hl 0 rfl) ?_
  refine lv_aload_n hx hb dJx4a65c_add_9ea2d_11 rfl (lv_at hl 1 rfl) ?_
  refine lv_aload_n hx hb dJx4a65c_add_9ea2d_12 rfl (lv_at hl 0 rfl) ?_
  refine va_get (D := (dC, dI)) (ci := 0) (v := .ref a2) (C := RJx4a65c) (T := TJx4a65c) (N := 3) hx hb hts inlJx4a65c hown hK hP 0 rfl rfl 1 (by decide) (hts (.fieldLink RJx4a65c 9 "java/util/ArrayList" "elementData" "[Ljava/lang/Object;") (inLU_6 (.fieldLink RJx4a65c 9 "java/util/ArrayList" "elementData" "[Ljava/lang/Object;") (List.mem_of_getElem? (i := 11) rfl))) (fun _ h9 => h9) rfl dJx4a65c_add_9ea2d_13 ?_
  refine lv_aload_n hx hb dJx4a65c_add_9ea2d_16 rfl (lv_at hl 0 rfl) ?_
  refine va_get (D := (dC, dI)) (ci := 0) (v := .int 2) (C := RJx4a65c) (T := TJx4a65c) (N := 3) hx hb hts inlJx4a65c hown hK hP 0 rfl rfl 2 (by decide) (hts (.fieldLink RJx4a65c 48 "java/util/ArrayList" "size" "I") (inLU_10 (.fieldLink RJx4a65c 48 "java/util/ArrayList" "size" "I") (List.mem_of_getElem? (i := 19) rfl))) (fun _ h9 => h9) rfl dJx4a65c_add_9ea2d_17 ?_
  have hPc := hP.sub (ws' := [(h0, .inr (0, [.int 3, .ref a2, .int 2])), (a1, .inr (12, [.ref st_shelf, .ref st_first, .ref st_second, .ref st_third, .int st_at, .ref st_locks, .int st_mirrors, .int st_fetched, .ref st_wrong, .ref st_offered, .ref st_offeredSums])), (a2, .inl (cA, 10, .inr (.inr (.inr (.inr f)))))]) [0, 1, 2] rfl
  have hDc := hD.sub (ws' := [(h0, .inr (0, [.int 3, .ref a2, .int 2])), (a1, .inr (12, [.ref st_shelf, .ref st_first, .ref st_second, .ref st_third, .int st_at, .ref st_locks, .int st_mirrors, .int st_fetched, .ref st_wrong, .ref st_offered, .ref st_offeredSums])), (a2, .inl (cA, 10, .inr (.inr (.inr (.inr f)))))]) [0, 1, 2] (by decide) rfl
  have hKc := hK.sub (tys' := [(cA, .object "java/lang/Object")]) [0] rfl
  have hFc := va_free (wc := [(h0, .inr (0, [.int 3, .ref a2, .int 2])), (a1, .inr (12, [.ref st_shelf, .ref st_first, .ref st_second, .ref st_third, .int st_at, .ref st_locks, .int st_mirrors, .int st_fetched, .ref st_wrong, .ref st_offered, .ref st_offeredSums])), (a2, .inl (cA, 10, .inr (.inr (.inr (.inr f)))))]) hD hS hA [0, 1, 2] rfl
  refine va_callv (va_runV (As := [.ref a1, .ref a2, .int 2]) (rest := []) ⟨hx, hb, hml, hown, hts⟩ (c_List_put2 l dC dI dA h0 a1 a2 cA f st_shelf st_first st_second st_third st_at st_locks st_mirrors st_fetched st_wrong st_offered st_offeredSums H.size) (cwV 3 hts (gLU_V (inLU_10 (.methodLink RJx4a65c 131 yJx4a65c_add_72be8) (List.mem_of_getElem? (i := 20) rfl)) (inLU_10 (.instanceMethod yJx4a65c_add_72be8) (List.mem_of_getElem? (i := 21) rfl)) (inLU_10 (.selects RJx4a65c yJx4a65c_add_72be8 yJx4a65c_add_72be8) (List.mem_of_getElem? (i := 22) rfl)) (inLU_1 (.initialized RJx4a65c) (List.mem_of_getElem? (i := 23) rfl)) (inLU_10 (.code yJx4a65c_add_72be8 cJx4a65c_add_72be8 4 none) (List.mem_of_getElem? (i := 23) rfl))) rfl rfl rfl (by decide +kernel) ⟨Nat.le_of_ble_eq_true rfl, Nat.le_of_ble_eq_true rfl⟩) ⟨fun a U g mk q => by obtain ⟨q0, q1, qP, qK, qD, qF, qZ⟩ := q; exact ⟨q0, q1, qP, va_K.moved (u := U) (U := U.calling g mk a) (Vm.Alike.refl U.vm) qK, qD, kwF.same (u := U) (U := U.calling g mk a) rfl qF, kwH.moved (u := U) (U := U.calling g mk a) (Vm.Alike.refl U.vm) qZ⟩, va_recv hKc hPc (ci := 0) (q0 := 0) rfl rfl, fun U hU hW => ⟨rfl, by rw [hU], by rw [hU]; exact hPc, va_K.moved hW.alike hKc, hDc.weaken (fun _ _ _ _ => trivial), kwF.warm hW hF, kwH.at hZ hS hFc hW.alike hU⟩⟩ rfl rfl hl.1 rfl (lv_room (Nat.le_of_ble_eq_true rfl)) dJx4a65c_add_9ea2d_20 ⟨Nat.le_of_ble_eq_true rfl, Nat.le_of_ble_eq_true rfl⟩) hS (fun q _ h => hFc q h) hFc (fun u t H1 locs ht hvm hw hB hz1 hk1 hS => ?_)
  obtain ⟨hP1, hK1, hD1⟩ := hB
  rw [ht] at hP1
  have hK1 := va_K.moved hvm.symm hK1
  obtain ⟨hP, hD⟩ := va_join (wr := []) (w1 := [(h0, .inr (0, [.int 3, .ref a2, .int 3])), (a1, .inr (12, [.ref st_shelf, .ref st_first, .ref st_second, .ref st_third, .int st_at, .ref st_locks, .int st_mirrors, .int st_fetched, .ref st_wrong, .ref st_offered, .ref st_offeredSums])), (a2, .inl (cA, 10, .inr (.inr (.inr (.inr (va_up f 2 (some a1)))))))]) hP hD [0, 1, 2] [] rfl rfl (by decide) (by decide) hk1 hFc hP1 hD1
  have hK := hK.app hK1
  generalize H1 = H at hP hS ⊢
  have hK : va_K (dC, dI) vwCl [(cA, .object "java/lang/Object")] s := hK
  have hP : va_P (dC, dI) vwCl [(h0, .inr (0, [.int 3, .ref a2, .int 3])), (a1, .inr (12, [.ref st_shelf, .ref st_first, .ref st_second, .ref st_third, .int st_at, .ref st_locks, .int st_mirrors, .int st_fetched, .ref st_wrong, .ref st_offered, .ref st_offeredSums])), (a2, .inl (cA, 10, .inr (.inr (.inr (.inr (va_up f 2 (some a1)))))))] H := hP
  have hD : va_D A [(h0, .inr (0, [.int 3, .ref a2, .int 3])), (a1, .inr (12, [.ref st_shelf, .ref st_first, .ref st_second, .ref st_third, .int st_at, .ref st_locks, .int st_mirrors, .int st_fetched, .ref st_wrong, .ref st_offered, .ref st_offeredSums])), (a2, .inl (cA, 10, .inr (.inr (.inr (.inr (va_up f 2 (some a1)))))))] := hD
  refine W.widen (k := 0) (n := 0) (Nat.le_of_ble_eq_true rfl) (Nat.le_of_ble_eq_true rfl) ?_
  refine lv_iconst (v := 1) hx hb dJx4a65c_add_9ea2d_23 (by decide) ?_
  have hP9 := hP.sub (ws' := [(h0, .inr (0, [.int 3, .ref a2, .int 3])), (a1, .inr (12, [.ref st_shelf, .ref st_first, .ref st_second, .ref st_third, .int st_at, .ref st_locks, .int st_mirrors, .int st_fetched, .ref st_wrong, .ref st_offered, .ref st_offeredSums])), (a2, .inl (cA, 10, .inr (.inr (.inr (.inr (va_up f 2 (some a1)))))))]) [0, 1, 2] rfl
  have hD9 := hD.sub (ws' := [(h0, .inr (0, [.int 3, .ref a2, .int 3])), (a1, .inr (12, [.ref st_shelf, .ref st_first, .ref st_second, .ref st_third, .int st_at, .ref st_locks, .int st_mirrors, .int st_fetched, .ref st_wrong, .ref st_offered, .ref st_offeredSums])), (a2, .inl (cA, 10, .inr (.inr (.inr (.inr (va_up f 2 (some a1)))))))]) [0, 1, 2] (by decide) rfl
  have hK9 := hK.sub (tys' := []) [] rfl
  exact W.zret (v := 1) hx hb hr rfl (fun t ht hW => ⟨⟨1, (), rfl, rfl, by rw [ht]; exact hP9, va_K.moved hW.alike hK9, hD9⟩, hS.F ht⟩) hS.2.2 dJx4a65c_add_9ea2d_24
set_option maxHeartbeats 4000000 in
set_option maxRecDepth 100000 in
/-- element 3 -/
theorem c_List_put3 (l : Launch) (dC : Nat → ClassId) (dI : Nat → Nat → Nat) (dA : Nat) (h0 : Nat) (a1 : Nat) (a2 : Nat) (cA : ClassId) (f : Nat → Option Nat) (st_shelf : Nat) (st_first : Nat) (st_second : Nat) (st_third : Nat) (st_at : Int32) (st_locks : Nat) (st_mirrors : Int32) (st_fetched : Int32) (st_wrong : Nat) (st_offered : Nat) (st_offeredSums : Nat) (sz : Nat) : Met l yJx4a65c_add_72be8 (.code yJx4a65c_add_72be8 cJx4a65c_add_72be8 4 none :: wsL_law) ({ frames := 0, cells := 0, slots := 0, locals := 0 }) (va_Pc [.ref h0, .ref a1, .ref a2, .int 3] (fun U => U.heap.size = sz ∧ va_P (dC, dI) vwCl [(h0, .inr (0, [.int 4, .ref a2, .int 3])), (a1, .inr (12, [.ref st_shelf, .ref st_first, .ref st_second, .ref st_third, .int st_at, .ref st_locks, .int st_mirrors, .int st_fetched, .ref st_wrong, .ref st_offered, .ref st_offeredSums])), (a2, .inl (cA, 10, .inr (.inr (.inr (.inr f)))))] U.heap ∧ va_K (dC, dI) vwCl [(cA, .object "java/lang/Object")] U ∧ va_D (fun _ => True) [(h0, .inr (0, [.int 4, .ref a2, .int 3])), (a1, .inr (12, [.ref st_shelf, .ref st_first, .ref st_second, .ref st_third, .int st_at, .ref st_locks, .int st_mirrors, .int st_fetched, .ref st_wrong, .ref st_offered, .ref st_offeredSums])), (a2, .inl (cA, 10, .inr (.inr (.inr (.inr f)))))] ∧ kwF U ∧ kwH dA (va_A [(h0, .inr (0, [.int 4, .ref a2, .int 3])), (a1, .inr (12, [.ref st_shelf, .ref st_first, .ref st_second, .ref st_third, .int st_at, .ref st_locks, .int st_mirrors, .int st_fetched, .ref st_wrong, .ref st_offered, .ref st_offeredSums])), (a2, .inl (cA, 10, .inr (.inr (.inr (.inr f)))))] sz) U U.heap)) (va_Qv (fun _ : Unit => True) (fun _ t => va_P (dC, dI) vwCl [(h0, .inr (0, [.int 4, .ref a2, .int 4])), (a1, .inr (12, [.ref st_shelf, .ref st_first, .ref st_second, .ref st_third, .int st_at, .ref st_locks, .int st_mirrors, .int st_fetched, .ref st_wrong, .ref st_offered, .ref st_offeredSums])), (a2, .inl (cA, 10, .inr (.inr (.inr (.inr (va_up f 3 (some a1)))))))] t.heap ∧ va_K (dC, dI) vwCl [] t ∧ va_D (va_A [(h0, .inr (0, [.int 4, .ref a2, .int 3])), (a1, .inr (12, [.ref st_shelf, .ref st_first, .ref st_second, .ref st_third, .int st_at, .ref st_locks, .int st_mirrors, .int st_fetched, .ref st_wrong, .ref st_offered, .ref st_offeredSums])), (a2, .inl (cA, 10, .inr (.inr (.inr (.inr f)))))] sz) [(h0, .inr (0, [.int 4, .ref a2, .int 4])), (a1, .inr (12, [.ref st_shelf, .ref st_first, .ref st_second, .ref st_third, .int st_at, .ref st_locks, .int st_mirrors, .int st_fetched, .ref st_wrong, .ref st_offered, .ref st_offeredSums])), (a2, .inl (cA, 10, .inr (.inr (.inr (.inr (va_up f 3 (some a1)))))))]) (va_A [(h0, .inr (0, [.int 4, .ref a2, .int 3])), (a1, .inr (12, [.ref st_shelf, .ref st_first, .ref st_second, .ref st_third, .int st_at, .ref st_locks, .int st_mirrors, .int st_fetched, .ref st_wrong, .ref st_offered, .ref st_offeredSums])), (a2, .inl (cA, 10, .inr (.inr (.inr (.inr f)))))] sz)) 0 0 (va_A [(h0, .inr (0, [.int 4, .ref a2, .int 3])), (a1, .inr (12, [.ref st_shelf, .ref st_first, .ref st_second, .ref st_third, .int st_at, .ref st_locks, .int st_mirrors, .int st_fetched, .ref st_wrong, .ref st_offered, .ref st_offeredSums])), (a2, .inl (cA, 10, .inr (.inr (.inr (.inr f)))))] sz) := by
  refine Met.ofW (cc := cJx4a65c_add_72be8) (maxL := 4) (ret := none) (by decide) rfl ?_
  intro p e s m args below meth c s₁ B hml hv
  obtain ⟨rfl, hsz, hP, hK, hD0, hF, hZ⟩ := hv
  have hx := B.exec
  have hb := B.bytes
  have hr := B.returns
  have hts0 := atoms_spec (ws := (.code yJx4a65c_add_72be8 cJx4a65c_add_72be8 4 none :: wsL_law)) B.pre
  have hts : ∀ w ∈ wsL_law, w.before _ s = true := fun w h => hts0 w (List.mem_cons_of_mem _ h)
  have hown : s.vm.findClass RJx4a65c = some m.cls := findClass_of_methodNamed B.named
  have hlocks := B.notSynchronized
  have hin : meth.name = "add" := (name_of_methodNamed B.named B.method).1
  subst hsz
  have hD := hD0.self (sz := s.heap.size)
  generalize hAe : va_A [(h0, .inr (0, [.int 4, .ref a2, .int 3])), (a1, .inr (12, [.ref st_shelf, .ref st_first, .ref st_second, .ref st_third, .int st_at, .ref st_locks, .int st_mirrors, .int st_fetched, .ref st_wrong, .ref st_offered, .ref st_offeredSums])), (a2, .inl (cA, 10, .inr (.inr (.inr (.inr f)))))] s.heap.size = A at hD hZ ⊢
  have hA : ∀ q : Nat, s.heap.size ≤ q → A q := fun q h => by rw [← hAe]; exact Or.inr h
  have hS : va_S A s.heap s.heap [] := va_S.rf
  have hP : va_P (dC, dI) vwCl [(h0, .inr (0, [.int 4, .ref a2, .int 3])), (a1, .inr (12, [.ref st_shelf, .ref st_first, .ref st_second, .ref st_third, .int st_at, .ref st_locks, .int st_mirrors, .int st_fetched, .ref st_wrong, .ref st_offered, .ref st_offeredSums])), (a2, .inl (cA, 10, .inr (.inr (.inr (.inr f)))))] s.heap := hP
  have hl := lv_entry ([.ref h0, .ref a1, .ref a2, .int 3]) (n := 4) (Nat.le_of_ble_eq_true rfl)
  rw [lg_entry_eq]
  generalize (lg_sl ([.ref h0, .ref a1, .ref a2, .int 3]) ++ List.replicate (4 - (lg_sl ([.ref h0, .ref a1, .ref a2, .int 3])).length) Slot.unset).toArray = ls at hl ⊢
  have hl : lv_has ls 4 [(0, .ref h0), (1, .ref a1), (2, .ref a2), (3, .int 3)] := hl
  refine lv_iload_n hx hb dJx4a65c_add_72be8_0 rfl (lv_at hl 3 rfl) ?_
  refine lv_aload_n hx hb dJx4a65c_add_72be8_1 rfl (lv_at hl 2 rfl) ?_
  refine va_alen (D := (dC, dI)) (v := 10) hx hb hK hP 2 0 rfl rfl (show Int32.ofNat 10 = 10 from by decide) dJx4a65c_add_72be8_2 ?_
  refine lv_icmp_ne (tgt := 11) hx hb dJx4a65c_add_72be8_3 (by decide) (fun _ => ?_) (fun c1 => absurd c1 (by decide))
  refine lv_aload_n hx hb dJx4a65c_add_72be8_11 rfl (lv_at hl 2 rfl) ?_
  refine lv_iload_n hx hb dJx4a65c_add_72be8_12 rfl (lv_at hl 3 rfl) ?_
  refine lv_aload_n hx hb dJx4a65c_add_72be8_13 rfl (lv_at hl 1 rfl) ?_
  refine va_astqO (D := (dC, dI)) hx hb hK hP hD hS 2 0 1 12 rfl rfl (kw_C_X11 hF) rfl rfl (show vp_in _ _ from by unfold vp_in; decide) dJx4a65c_add_72be8_14 (fun H locs hP hD hS => ?_)
  rw [show (3 : Int32).toNatClampNeg = 3 from by decide] at hP hD
  have hP : va_P (dC, dI) vwCl [(h0, .inr (0, [.int 4, .ref a2, .int 3])), (a1, .inr (12, [.ref st_shelf, .ref st_first, .ref st_second, .ref st_third, .int st_at, .ref st_locks, .int st_mirrors, .int st_fetched, .ref st_wrong, .ref st_offered, .ref st_offeredSums])), (a2, .inl (cA, 10, .inr (.inr (.inr (.inr (va_up f 3 (some a1)))))))] H := hP
  have hD : va_D A [(h0, .inr (0, [.int 4, .ref a2, .int 3])), (a1, .inr (12, [.ref st_shelf, .ref st_first, .ref st_second, .ref st_third, .int st_at, .ref st_locks, .int st_mirrors, .int st_fetched, .ref st_wrong, .ref st_offered, .ref st_offeredSums])), (a2, .inl (cA, 10, .inr (.inr (.inr (.inr (va_up f 3 (some a1)))))))] := hD
  refine lv_aload_n hx hb dJx4a65c_add_72be8_15 rfl (lv_at hl 0 rfl) ?_
  refine lv_iload_n hx hb dJx4a65c_add_72be8_16 rfl (lv_at hl 3 rfl) ?_
  refine lv_iconst (v := 1) hx hb dJx4a65c_add_72be8_17 (by decide) ?_
  refine lv_iadd hx hb dJx4a65c_add_72be8_18 ?_
  refine lv_topi (fun x2 ex2 => ?_)
  obtain rfl : x2 = 4 := ex2.trans (by decide)
  refine va_put (D := (dC, dI)) (ci := 0) (v := .int 4) (ty := .int) (C := RJx4a65c) (T := TJx4a65c) (N := 3) hx hb hts inlJx4a65c tyJx4a65c tyJx4a65c_ok nmJx4a65c hown hK hP hD hS 0 rfl rfl 2 (by decide) (hts (.fieldLink RJx4a65c 48 "java/util/ArrayList" "size" "I") (inLU_10 (.fieldLink RJx4a65c 48 "java/util/ArrayList" "size" "I") (List.mem_of_getElem? (i := 19) rfl))) (fun _ h9 => h9) rfl (tyJx4a65c_ok 2 (by decide)) rfl rfl (Nat.le_of_ble_eq_true rfl) dJx4a65c_add_72be8_19 (fun H locs hP hD hS => ?_)
  have hP : va_P (dC, dI) vwCl [(h0, .inr (0, [.int 4, .ref a2, .int 4])), (a1, .inr (12, [.ref st_shelf, .ref st_first, .ref st_second, .ref st_third, .int st_at, .ref st_locks, .int st_mirrors, .int st_fetched, .ref st_wrong, .ref st_offered, .ref st_offeredSums])), (a2, .inl (cA, 10, .inr (.inr (.inr (.inr (va_up f 3 (some a1)))))))] H := hP
  have hD : va_D A [(h0, .inr (0, [.int 4, .ref a2, .int 4])), (a1, .inr (12, [.ref st_shelf, .ref st_first, .ref st_second, .ref st_third, .int st_at, .ref st_locks, .int st_mirrors, .int st_fetched, .ref st_wrong, .ref st_offered, .ref st_offeredSums])), (a2, .inl (cA, 10, .inr (.inr (.inr (.inr (va_up f 3 (some a1)))))))] := hD
  have hP9 := hP.sub (ws' := [(h0, .inr (0, [.int 4, .ref a2, .int 4])), (a1, .inr (12, [.ref st_shelf, .ref st_first, .ref st_second, .ref st_third, .int st_at, .ref st_locks, .int st_mirrors, .int st_fetched, .ref st_wrong, .ref st_offered, .ref st_offeredSums])), (a2, .inl (cA, 10, .inr (.inr (.inr (.inr (va_up f 3 (some a1)))))))]) [0, 1, 2] rfl
  have hD9 := hD.sub (ws' := [(h0, .inr (0, [.int 4, .ref a2, .int 4])), (a1, .inr (12, [.ref st_shelf, .ref st_first, .ref st_second, .ref st_third, .int st_at, .ref st_locks, .int st_mirrors, .int st_fetched, .ref st_wrong, .ref st_offered, .ref st_offeredSums])), (a2, .inl (cA, 10, .inr (.inr (.inr (.inr (va_up f 3 (some a1)))))))]) [0, 1, 2] (by decide) rfl
  have hK9 := hK.sub (tys' := []) [] rfl
  exact W.vret hx hb hr (fun t ht hW => ⟨⟨(), rfl, trivial, by rw [ht]; exact hP9, va_K.moved hW.alike hK9, hD9⟩, hS.F ht⟩) hS.2.2 dJx4a65c_add_72be8_22
set_option maxHeartbeats 4000000 in
set_option maxRecDepth 100000 in
/-- add(e), element 3 -/
theorem c_List_add3 (l : Launch) (dC : Nat → ClassId) (dI : Nat → Nat → Nat) (dA : Nat) (h0 : Nat) (a1 : Nat) (a2 : Nat) (cA : ClassId) (f : Nat → Option Nat) (st_shelf : Nat) (st_first : Nat) (st_second : Nat) (st_third : Nat) (st_at : Int32) (st_locks : Nat) (st_mirrors : Int32) (st_fetched : Int32) (st_wrong : Nat) (st_offered : Nat) (st_offeredSums : Nat) (sz : Nat) : Met l yJx4a65c_add_9ea2d (.code yJx4a65c_add_9ea2d cJx4a65c_add_9ea2d 2 (some .boolean) :: wsL_law) ({ frames := 1, cells := 0, slots := 0, locals := 23 }) (va_Pc [.ref h0, .ref a1] (fun U => U.heap.size = sz ∧ va_P (dC, dI) vwCl [(h0, .inr (0, [.int 3, .ref a2, .int 3])), (a1, .inr (12, [.ref st_shelf, .ref st_first, .ref st_second, .ref st_third, .int st_at, .ref st_locks, .int st_mirrors, .int st_fetched, .ref st_wrong, .ref st_offered, .ref st_offeredSums])), (a2, .inl (cA, 10, .inr (.inr (.inr (.inr f)))))] U.heap ∧ va_K (dC, dI) vwCl [(cA, .object "java/lang/Object")] U ∧ va_D (fun _ => True) [(h0, .inr (0, [.int 3, .ref a2, .int 3])), (a1, .inr (12, [.ref st_shelf, .ref st_first, .ref st_second, .ref st_third, .int st_at, .ref st_locks, .int st_mirrors, .int st_fetched, .ref st_wrong, .ref st_offered, .ref st_offeredSums])), (a2, .inl (cA, 10, .inr (.inr (.inr (.inr f)))))] ∧ kwF U ∧ kwH dA (va_A [(h0, .inr (0, [.int 3, .ref a2, .int 3])), (a1, .inr (12, [.ref st_shelf, .ref st_first, .ref st_second, .ref st_third, .int st_at, .ref st_locks, .int st_mirrors, .int st_fetched, .ref st_wrong, .ref st_offered, .ref st_offeredSums])), (a2, .inl (cA, 10, .inr (.inr (.inr (.inr f)))))] sz) U U.heap)) (va_Qi (fun (r : Int32) (_ : Unit) => r = 1) (fun _ t => va_P (dC, dI) vwCl [(h0, .inr (0, [.int 4, .ref a2, .int 4])), (a1, .inr (12, [.ref st_shelf, .ref st_first, .ref st_second, .ref st_third, .int st_at, .ref st_locks, .int st_mirrors, .int st_fetched, .ref st_wrong, .ref st_offered, .ref st_offeredSums])), (a2, .inl (cA, 10, .inr (.inr (.inr (.inr (va_up f 3 (some a1)))))))] t.heap ∧ va_K (dC, dI) vwCl [] t ∧ va_D (va_A [(h0, .inr (0, [.int 3, .ref a2, .int 3])), (a1, .inr (12, [.ref st_shelf, .ref st_first, .ref st_second, .ref st_third, .int st_at, .ref st_locks, .int st_mirrors, .int st_fetched, .ref st_wrong, .ref st_offered, .ref st_offeredSums])), (a2, .inl (cA, 10, .inr (.inr (.inr (.inr f)))))] sz) [(h0, .inr (0, [.int 4, .ref a2, .int 4])), (a1, .inr (12, [.ref st_shelf, .ref st_first, .ref st_second, .ref st_third, .int st_at, .ref st_locks, .int st_mirrors, .int st_fetched, .ref st_wrong, .ref st_offered, .ref st_offeredSums])), (a2, .inl (cA, 10, .inr (.inr (.inr (.inr (va_up f 3 (some a1)))))))]) (va_A [(h0, .inr (0, [.int 3, .ref a2, .int 3])), (a1, .inr (12, [.ref st_shelf, .ref st_first, .ref st_second, .ref st_third, .int st_at, .ref st_locks, .int st_mirrors, .int st_fetched, .ref st_wrong, .ref st_offered, .ref st_offeredSums])), (a2, .inl (cA, 10, .inr (.inr (.inr (.inr f)))))] sz)) 0 0 (va_A [(h0, .inr (0, [.int 3, .ref a2, .int 3])), (a1, .inr (12, [.ref st_shelf, .ref st_first, .ref st_second, .ref st_third, .int st_at, .ref st_locks, .int st_mirrors, .int st_fetched, .ref st_wrong, .ref st_offered, .ref st_offeredSums])), (a2, .inl (cA, 10, .inr (.inr (.inr (.inr f)))))] sz) := by
  refine Met.ofW (cc := cJx4a65c_add_9ea2d) (maxL := 2) (ret := (some .boolean)) (by decide) rfl ?_
  intro p e s m args below meth c s₁ B hml hv
  obtain ⟨rfl, hsz, hP, hK, hD0, hF, hZ⟩ := hv
  have hx := B.exec
  have hb := B.bytes
  have hr := B.returns
  have hts0 := atoms_spec (ws := (.code yJx4a65c_add_9ea2d cJx4a65c_add_9ea2d 2 (some .boolean) :: wsL_law)) B.pre
  have hts : ∀ w ∈ wsL_law, w.before _ s = true := fun w h => hts0 w (List.mem_cons_of_mem _ h)
  have hown : s.vm.findClass RJx4a65c = some m.cls := findClass_of_methodNamed B.named
  have hlocks := B.notSynchronized
  have hin : meth.name = "add" := (name_of_methodNamed B.named B.method).1
  subst hsz
  have hD := hD0.self (sz := s.heap.size)
  generalize hAe : va_A [(h0, .inr (0, [.int 3, .ref a2, .int 3])), (a1, .inr (12, [.ref st_shelf, .ref st_first, .ref st_second, .ref st_third, .int st_at, .ref st_locks, .int st_mirrors, .int st_fetched, .ref st_wrong, .ref st_offered, .ref st_offeredSums])), (a2, .inl (cA, 10, .inr (.inr (.inr (.inr f)))))] s.heap.size = A at hD hZ ⊢
  have hA : ∀ q : Nat, s.heap.size ≤ q → A q := fun q h => by rw [← hAe]; exact Or.inr h
  have hS : va_S A s.heap s.heap [] := va_S.rf
  have hP : va_P (dC, dI) vwCl [(h0, .inr (0, [.int 3, .ref a2, .int 3])), (a1, .inr (12, [.ref st_shelf, .ref st_first, .ref st_second, .ref st_third, .int st_at, .ref st_locks, .int st_mirrors, .int st_fetched, .ref st_wrong, .ref st_offered, .ref st_offeredSums])), (a2, .inl (cA, 10, .inr (.inr (.inr (.inr f)))))] s.heap := hP
  have hl := lv_entry ([.ref h0, .ref a1]) (n := 2) (Nat.le_of_ble_eq_true rfl)
  rw [lg_entry_eq]
  generalize (lg_sl ([.ref h0, .ref a1]) ++ List.replicate (2 - (lg_sl ([.ref h0, .ref a1])).length) Slot.unset).toArray = ls at hl ⊢
  have hl : lv_has ls 2 [(0, .ref h0), (1, .ref a1)] := hl
  refine lv_aload_n hx hb dJx4a65c_add_9ea2d_0 rfl (lv_at hl 0 rfl) ?_
  refine lv_dup hx hb dJx4a65c_add_9ea2d_1 rfl ?_
  refine va_get (D := (dC, dI)) (ci := 0) (v := .int 3) (C := RJx4a65c) (T := TJx4a65c) (N := 3) hx hb hts inlJx4a65c hown hK hP 0 rfl rfl 0 (by decide) (hts (.fieldLink RJx4a65c 63 "java/util/ArrayList" "modCount" "I") (inLU_10 (.fieldLink RJx4a65c 63 "java/util/ArrayList" "modCount" "I") (List.mem_of_getElem? (i := 17) rfl))) (fun x9 h9 => u_same (hts (.sameField "java/util/ArrayList" "java/util/AbstractList" "modCount" "I") (inLU_10 (.sameField "java/util/ArrayList" "java/util/AbstractList" "modCount" "I") (List.mem_of_getElem? (i := 18) rfl))) x9 h9) rfl dJx4a65c_add_9ea2d_2 ?_
  refine lv_iconst (v := 1) hx hb dJx4a65c_add_9ea2d_5 (by decide) ?_
  refine lv_iadd hx hb dJx4a65c_add_9ea2d_6 ?_
  refine lv_topi (fun x1 ex1 => ?_)
  obtain rfl : x1 = 4 := ex1.trans (by decide)
  refine va_put (D := (dC, dI)) (ci := 0) (v := .int 4) (ty := .int) (C := RJx4a65c) (T := TJx4a65c) (N := 3) hx hb hts inlJx4a65c tyJx4a65c tyJx4a65c_ok nmJx4a65c hown hK hP hD hS 0 rfl rfl 0 (by decide) (hts (.fieldLink RJx4a65c 63 "java/util/ArrayList" "modCount" "I") (inLU_10 (.fieldLink RJx4a65c 63 "java/util/ArrayList" "modCount" "I") (List.mem_of_getElem? (i := 17) rfl))) (fun x9 h9 => u_same (hts (.sameField "java/util/ArrayList" "java/util/AbstractList" "modCount" "I") (inLU_10 (.sameField "java/util/ArrayList" "java/util/AbstractList" "modCount" "I") (List.mem_of_getElem? (i := 18) rfl))) x9 h9) rfl (tyJx4a65c_ok 0 (by decide)) rfl rfl (Nat.le_of_ble_eq_true rfl) dJx4a65c_add_9ea2d_7 (fun H locs hP hD hS => ?_)
  have hP : va_P (dC, dI) vwCl [(h0, .inr (0, [.int 4, .ref a2, .int 3])), (a1, .inr (12, [.ref st_shelf, .ref st_first, .ref st_second, .ref st_third, .int st_at, .ref st_locks, .int st_mirrors, .int st_fetched, .ref st_wrong, .ref st_offered, .ref st_offeredSums])), (a2, .inl (cA, 10, .inr (.inr (.inr (.inr f)))))] H := hP
  have hD : va_D A [(h0, .inr (0, [.int 4, .ref a2, .int 3])), (a1, .inr (12, [.ref st_shelf, .ref st_first, .ref st_second, .ref st_third, .int st_at, .ref st_locks, .int st_mirrors, .int st_fetched, .ref st_wrong, .ref st_offered, .ref st_offeredSums])), (a2, .inl (cA, 10, .inr (.inr (.inr (.inr f)))))] := hD
  refine lv_aload_n hx hb dJx4a65c_add_9ea2d_10 rfl (lv_at hl 0 rfl) ?_
  refine lv_aload_n hx hb dJx4a65c_add_9ea2d_11 rfl (lv_at hl 1 rfl) ?_
  refine lv_aload_n hx hb dJx4a65c_add_9ea2d_12 rfl (lv_at hl 0 rfl) ?_
  refine va_get (D := (dC, dI)) (ci := 0) (v := .ref a2) (C := RJx4a65c) (T := TJx4a65c) (N := 3) hx hb hts inlJx4a65c hown hK hP 0 rfl rfl 1 (by decide) (hts (.fieldLink RJx4a65c 9 "java/util/ArrayList" "elementData" "[Ljava/lang/Object;") (inLU_6 (.fieldLink RJx4a65c 9 "java/util/ArrayList" "elementData" "[Ljava/lang/Object;") (List.mem_of_getElem? (i := 11) rfl))) (fun _ h9 => h9) rfl dJx4a65c_add_9ea2d_13 ?_
  refine lv_aload_n hx hb dJx4a65c_add_9ea2d_16 rfl (lv_at hl 0 rfl) ?_
  refine va_get (D := (dC, dI)) (ci := 0) (v := .int 3) (C := RJx4a65c) (T := TJx4a65c) (N := 3) hx hb hts inlJx4a65c hown hK hP 0 rfl rfl 2 (by decide) (hts (.fieldLink RJx4a65c 48 "java/util/ArrayList" "size" "I") (inLU_10 (.fieldLink RJx4a65c 48 "java/util/ArrayList" "size" "I") (List.mem_of_getElem? (i := 19) rfl))) (fun _ h9 => h9) rfl dJx4a65c_add_9ea2d_17 ?_
  have hPc := hP.sub (ws' := [(h0, .inr (0, [.int 4, .ref a2, .int 3])), (a1, .inr (12, [.ref st_shelf, .ref st_first, .ref st_second, .ref st_third, .int st_at, .ref st_locks, .int st_mirrors, .int st_fetched, .ref st_wrong, .ref st_offered, .ref st_offeredSums])), (a2, .inl (cA, 10, .inr (.inr (.inr (.inr f)))))]) [0, 1, 2] rfl
  have hDc := hD.sub (ws' := [(h0, .inr (0, [.int 4, .ref a2, .int 3])), (a1, .inr (12, [.ref st_shelf, .ref st_first, .ref st_second, .ref st_third, .int st_at, .ref st_locks, .int st_mirrors, .int st_fetched, .ref st_wrong, .ref st_offered, .ref st_offeredSums])), (a2, .inl (cA, 10, .inr (.inr (.inr (.inr f)))))]) [0, 1, 2] (by decide) rfl
  have hKc := hK.sub (tys' := [(cA, .object "java/lang/Object")]) [0] rfl
  have hFc := va_free (wc := [(h0, .inr (0, [.int 4, .ref a2, .int 3])), (a1, .inr (12, [.ref st_shelf, .ref st_first, .ref st_second, .ref st_third, .int st_at, .ref st_locks, .int st_mirrors, .int st_fetched, .ref st_wrong, .ref st_offered, .ref st_offeredSums])), (a2, .inl (cA, 10, .inr (.inr (.inr (.inr f)))))]) hD hS hA [0, 1, 2] rfl
  refine va_callv (va_runV (As := [.ref a1, .ref a2, .int 3]) (rest := []) ⟨hx, hb, hml, hown, hts⟩ (c_List_put3 l dC dI dA h0 a1 a2 cA f st_shelf st_first st_second st_third st_at st_locks st_mirrors st_fetched st_wrong st_offered st_offeredSums H.size) (cwV 3 hts (gLU_V (inLU_10 (.methodLink RJx4a65c 131 yJx4a65c_add_72be8) (List.mem_of_getElem? (i := 20) rfl)) (inLU_10 (.instanceMethod yJx4a65c_add_72be8) (List.mem_of_getElem? (i := 21) rfl)) (inLU_10 (.selects RJx4a65c yJx4a65c_add_72be8 yJx4a65c_add_72be8) (List.mem_of_getElem? (i := 22) rfl)) (inLU_1 (.initialized RJx4a65c) (List.mem_of_getElem? (i := 23) rfl)) (inLU_10 (.code yJx4a65c_add_72be8 cJx4a65c_add_72be8 4 none) (List.mem_of_getElem? (i := 23) rfl))) rfl rfl rfl (by decide +kernel) ⟨Nat.le_of_ble_eq_true rfl, Nat.le_of_ble_eq_true rfl⟩) ⟨fun a U g mk q => by obtain ⟨q0, q1, qP, qK, qD, qF, qZ⟩ := q; exact ⟨q0, q1, qP, va_K.moved (u := U) (U := U.calling g mk a) (Vm.Alike.refl U.vm) qK, qD, kwF.same (u := U) (U := U.calling g mk a) rfl qF, kwH.moved (u := U) (U := U.calling g mk a) (Vm.Alike.refl U.vm) qZ⟩, va_recv hKc hPc (ci := 0) (q0 := 0) rfl rfl, fun U hU hW => ⟨rfl, by rw [hU], by rw [hU]; exact hPc, va_K.moved hW.alike hKc, hDc.weaken (fun _ _ _ _ => trivial), kwF.warm hW hF, kwH.at hZ hS hFc hW.alike hU⟩⟩ rfl rfl hl.1 rfl (lv_room (Nat.le_of_ble_eq_true rfl)) dJx4a65c_add_9ea2d_20 ⟨Nat.le_of_ble_eq_true rfl, Nat.le_of_ble_eq_true rfl⟩) hS (fun q _ h => hFc q h) hFc (fun u t H1 locs ht hvm hw hB hz1 hk1 hS => ?_)
  obtain ⟨hP1, hK1, hD1⟩ := hB
  rw [ht] at hP1
  have hK1 := va_K.moved hvm.symm hK1
  obtain ⟨hP, hD⟩ := va_join (wr := []) (w1 := [(h0, .inr (0, [.int 4, .ref a2, .int 4])), (a1, .inr (12, [.ref st_shelf, .ref st_first, .ref st_second, .ref st_third, .int st_at, .ref st_locks, .int st_mirrors, .int st_fetched, .ref st_wrong, .ref st_offered, .ref st_offeredSums])), (a2, .inl (cA, 10, .inr (.inr (.inr (.inr (va_up f 3 (some a1)))))))]) hP hD [0, 1, 2] [] rfl rfl (by decide) (by decide) hk1 hFc hP1 hD1
  have hK := hK.app hK1
  generalize H1 = H at hP hS ⊢
  have hK : va_K (dC, dI) vwCl [(cA, .object "java/lang/Object")] s := hK
  have hP : va_P (dC, dI) vwCl [(h0, .inr (0, [.int 4, .ref a2, .int 4])), (a1, .inr (12, [.ref st_shelf, .ref st_first, .ref st_second, .ref st_third, .int st_at, .ref st_locks, .int st_mirrors, .int st_fetched, .ref st_wrong, .ref st_offered, .ref st_offeredSums])), (a2, .inl (cA, 10, .inr (.inr (.inr (.inr (va_up f 3 (some a1)))))))] H := hP
  have hD : va_D A [(h0, .inr (0, [.int 4, .ref a2, .int 4])), (a1, .inr (12, [.ref st_shelf, .ref st_first, .ref st_second, .ref st_third, .int st_at, .ref st_locks, .int st_mirrors, .int st_fetched, .ref st_wrong, .ref st_offered, .ref st_offeredSums])), (a2, .inl (cA, 10, .inr (.inr (.inr (.inr (va_up f 3 (some a1)))))))] := hD
  refine W.widen (k := 0) (n := 0) (Nat.le_of_ble_eq_true rfl) (Nat.le_of_ble_eq_true rfl) ?_
  refine lv_iconst (v := 1) hx hb dJx4a65c_add_9ea2d_23 (by decide) ?_
  have hP9 := hP.sub (ws' := [(h0, .inr (0, [.int 4, .ref a2, .int 4])), (a1, .inr (12, [.ref st_shelf, .ref st_first, .ref st_second, .ref st_third, .int st_at, .ref st_locks, .int st_mirrors, .int st_fetched, .ref st_wrong, .ref st_offered, .ref st_offeredSums])), (a2, .inl (cA, 10, .inr (.inr (.inr (.inr (va_up f 3 (some a1)))))))]) [0, 1, 2] rfl
  have hD9 := hD.sub (ws' := [(h0, .inr (0, [.int 4, .ref a2, .int 4])), (a1, .inr (12, [.ref st_shelf, .ref st_first, .ref st_second, .ref st_third, .int st_at, .ref st_locks, .int st_mirrors, .int st_fetched, .ref st_wrong, .ref st_offered, .ref st_offeredSums])), (a2, .inl (cA, 10, .inr (.inr (.inr (.inr (va_up f 3 (some a1)))))))]) [0, 1, 2] (by decide) rfl
  have hK9 := hK.sub (tys' := []) [] rfl
  exact W.zret (v := 1) hx hb hr rfl (fun t ht hW => ⟨⟨1, (), rfl, rfl, by rw [ht]; exact hP9, va_K.moved hW.alike hK9, hD9⟩, hS.F ht⟩) hS.2.2 dJx4a65c_add_9ea2d_24
set_option maxHeartbeats 4000000 in
set_option maxRecDepth 100000 in
/-- element 4 -/
theorem c_List_put4 (l : Launch) (dC : Nat → ClassId) (dI : Nat → Nat → Nat) (dA : Nat) (h0 : Nat) (a1 : Nat) (a2 : Nat) (cA : ClassId) (f : Nat → Option Nat) (st_shelf : Nat) (st_first : Nat) (st_second : Nat) (st_third : Nat) (st_at : Int32) (st_locks : Nat) (st_mirrors : Int32) (st_fetched : Int32) (st_wrong : Nat) (st_offered : Nat) (st_offeredSums : Nat) (sz : Nat) : Met l yJx4a65c_add_72be8 (.code yJx4a65c_add_72be8 cJx4a65c_add_72be8 4 none :: wsL_law) ({ frames := 0, cells := 0, slots := 0, locals := 0 }) (va_Pc [.ref h0, .ref a1, .ref a2, .int 4] (fun U => U.heap.size = sz ∧ va_P (dC, dI) vwCl [(h0, .inr (0, [.int 5, .ref a2, .int 4])), (a1, .inr (12, [.ref st_shelf, .ref st_first, .ref st_second, .ref st_third, .int st_at, .ref st_locks, .int st_mirrors, .int st_fetched, .ref st_wrong, .ref st_offered, .ref st_offeredSums])), (a2, .inl (cA, 10, .inr (.inr (.inr (.inr f)))))] U.heap ∧ va_K (dC, dI) vwCl [(cA, .object "java/lang/Object")] U ∧ va_D (fun _ => True) [(h0, .inr (0, [.int 5, .ref a2, .int 4])), (a1, .inr (12, [.ref st_shelf, .ref st_first, .ref st_second, .ref st_third, .int st_at, .ref st_locks, .int st_mirrors, .int st_fetched, .ref st_wrong, .ref st_offered, .ref st_offeredSums])), (a2, .inl (cA, 10, .inr (.inr (.inr (.inr f)))))] ∧ kwF U ∧ kwH dA (va_A [(h0, .inr (0, [.int 5, .ref a2, .int 4])), (a1, .inr (12, [.ref st_shelf, .ref st_first, .ref st_second, .ref st_third, .int st_at, .ref st_locks, .int st_mirrors, .int st_fetched, .ref st_wrong, .ref st_offered, .ref st_offeredSums])), (a2, .inl (cA, 10, .inr (.inr (.inr (.inr f)))))] sz) U U.heap)) (va_Qv (fun _ : Unit => True) (fun _ t => va_P (dC, dI) vwCl [(h0, .inr (0, [.int 5, .ref a2, .int 5])), (a1, .inr (12, [.ref st_shelf, .ref st_first, .ref st_second, .ref st_third, .int st_at, .ref st_locks, .int st_mirrors, .int st_fetched, .ref st_wrong, .ref st_offered, .ref st_offeredSums])), (a2, .inl (cA, 10, .inr (.inr (.inr (.inr (va_up f 4 (some a1)))))))] t.heap ∧ va_K (dC, dI) vwCl [] t ∧ va_D (va_A [(h0, .inr (0, [.int 5, .ref a2, .int 4])), (a1, .inr (12, [.ref st_shelf, .ref st_first, .ref st_second, .ref st_third, .int st_at, .ref st_locks, .int st_mirrors, .int st_fetched, .ref st_wrong, .ref st_offered, .ref st_offeredSums])), (a2, .inl (cA, 10, .inr (.inr (.inr (.inr f)))))] sz) [(h0, .inr (0, [.int 5, .ref a2, .int 5])), (a1, .inr (12, [.ref st_shelf, .ref st_first, .ref st_second, .ref st_third, .int st_at, .ref st_locks, .int st_mirrors, .int st_fetched, .ref st_wrong, .ref st_offered, .ref st_offeredSums])), (a2, .inl (cA, 10, .inr (.inr (.inr (.inr (va_up f 4 (some a1)))))))]) (va_A [(h0, .inr (0, [.int 5, .ref a2, .int 4])), (a1, .inr (12, [.ref st_shelf, .ref st_first, .ref st_second, .ref st_third, .int st_at, .ref st_locks, .int st_mirrors, .int st_fetched, .ref st_wrong, .ref st_offered, .ref st_offeredSums])), (a2, .inl (cA, 10, .inr (.inr (.inr (.inr f)))))] sz)) 0 0 (va_A [(h0, .inr (0, [.int 5, .ref a2, .int 4])), (a1, .inr (12, [.ref st_shelf, .ref st_first, .ref st_second, .ref st_third, .int st_at, .ref st_locks, .int st_mirrors, .int st_fetched, .ref st_wrong, .ref st_offered, .ref st_offeredSums])), (a2, .inl (cA, 10, .inr (.inr (.inr (.inr f)))))] sz) := by
  refine Met.ofW (cc := cJx4a65c_add_72be8) (maxL := 4) (ret := none) (by decide) rfl ?_
  intro p e s m args below meth c s₁ B hml hv
  obtain ⟨rfl, hsz, hP, hK, hD0, hF, hZ⟩ := hv
  have hx := B.exec
  have hb := B.bytes
  have hr := B.returns
  have hts0 := atoms_spec (ws := (.code yJx4a65c_add_72be8 cJx4a65c_add_72be8 4 none :: wsL_law)) B.pre
  have hts : ∀ w ∈ wsL_law, w.before _ s = true := fun w h => hts0 w (List.mem_cons_of_mem _ h)
  have hown : s.vm.findClass RJx4a65c = some m.cls := findClass_of_methodNamed B.named
  have hlocks := B.notSynchronized
  have hin : meth.name = "add" := (name_of_methodNamed B.named B.method).1
  subst hsz
  have hD := hD0.self (sz := s.heap.size)
  generalize hAe : va_A [(h0, .inr (0, [.int 5, .ref a2, .int 4])), (a1, .inr (12, [.ref st_shelf, .ref st_first, .ref st_second, .ref st_third, .int st_at, .ref st_locks, .int st_mirrors, .int st_fetched, .ref st_wrong, .ref st_offered, .ref st_offeredSums])), (a2, .inl (cA, 10, .inr (.inr (.inr (.inr f)))))] s.heap.size = A at hD hZ ⊢
  have hA : ∀ q : Nat, s.heap.size ≤ q → A q := fun q h => by rw [← hAe]; exact Or.inr h
  have hS : va_S A s.heap s.heap [] := va_S.rf
  have hP : va_P (dC, dI) vwCl [(h0, .inr (0, [.int 5, .ref a2, .int 4])), (a1, .inr (12, [.ref st_shelf, .ref st_first, .ref st_second, .ref st_third, .int st_at, .ref st_locks, .int st_mirrors, .int st_fetched, .ref st_wrong, .ref st_offered, .ref st_offeredSums])), (a2, .inl (cA, 10, .inr (.inr (.inr (.inr f)))))] s.heap := hP
  have hl := lv_entry ([.ref h0, .ref a1, .ref a2, .int 4]) (n := 4) (Nat.le_of_ble_eq_true rfl)
  rw [lg_entry_eq]
  generalize (lg_sl ([.ref h0, .ref a1, .ref a2, .int 4]) ++ List.replicate (4 - (lg_sl ([.ref h0, .ref a1, .ref a2, .int 4])).length) Slot.unset).toArray = ls at hl ⊢
  have hl : lv_has ls 4 [(0, .ref h0), (1, .ref a1), (2, .ref a2), (3, .int 4)] := hl
  refine lv_iload_n hx hb dJx4a65c_add_72be8_0 rfl (lv_at hl 3 rfl) ?_
  refine lv_aload_n hx hb dJx4a65c_add_72be8_1 rfl (lv_at hl 2 rfl) ?_
  refine va_alen (D := (dC, dI)) (v := 10) hx hb hK hP 2 0 rfl rfl (show Int32.ofNat 10 = 10 from by decide) dJx4a65c_add_72be8_2 ?_
  refine lv_icmp_ne (tgt := 11) hx hb dJx4a65c_add_72be8_3 (by decide) (fun _ => ?_) (fun c1 => absurd c1 (by decide))
  refine lv_aload_n hx hb dJx4a65c_add_72be8_11 rfl (lv_at hl 2 rfl) ?_
  refine lv_iload_n hx hb dJx4a65c_add_72be8_12 rfl (lv_at hl 3 rfl) ?_
  refine lv_aload_n hx hb dJx4a65c_add_72be8_13 rfl (lv_at hl 1 rfl) ?_
  refine va_astqO (D := (dC, dI)) hx hb hK hP hD hS 2 0 1 12 rfl rfl (kw_C_X11 hF) rfl rfl (show vp_in _ _ from by unfold vp_in; decide) dJx4a65c_add_72be8_14 (fun H locs hP hD hS => ?_)
  rw [show (4 : Int32).toNatClampNeg = 4 from by decide] at hP hD
  have hP : va_P (dC, dI) vwCl [(h0, .inr (0, [.int 5, .ref a2, .int 4])), (a1, .inr (12, [.ref st_shelf, .ref st_first, .ref st_second, .ref st_third, .int st_at, .ref st_locks, .int st_mirrors, .int st_fetched, .ref st_wrong, .ref st_offered, .ref st_offeredSums])), (a2, .inl (cA, 10, .inr (.inr (.inr (.inr (va_up f 4 (some a1)))))))] H := hP
  have hD : va_D A [(h0, .inr (0, [.int 5, .ref a2, .int 4])), (a1, .inr (12, [.ref st_shelf, .ref st_first, .ref st_second, .ref st_third, .int st_at, .ref st_locks, .int st_mirrors, .int st_fetched, .ref st_wrong, .ref st_offered, .ref st_offeredSums])), (a2, .inl (cA, 10, .inr (.inr (.inr (.inr (va_up f 4 (some a1)))))))] := hD
  refine lv_aload_n hx hb dJx4a65c_add_72be8_15 rfl (lv_at hl 0 rfl) ?_
  refine lv_iload_n hx hb dJx4a65c_add_72be8_16 rfl (lv_at hl 3 rfl) ?_
  refine lv_iconst (v := 1) hx hb dJx4a65c_add_72be8_17 (by decide) ?_
  refine lv_iadd hx hb dJx4a65c_add_72be8_18 ?_
  refine lv_topi (fun x2 ex2 => ?_)
  obtain rfl : x2 = 5 := ex2.trans (by decide)
  refine va_put (D := (dC, dI)) (ci := 0) (v := .int 5) (ty := .int) (C := RJx4a65c) (T := TJx4a65c) (N := 3) hx hb hts inlJx4a65c tyJx4a65c tyJx4a65c_ok nmJx4a65c hown hK hP hD hS 0 rfl rfl 2 (by decide) (hts (.fieldLink RJx4a65c 48 "java/util/ArrayList" "size" "I") (inLU_10 (.fieldLink RJx4a65c 48 "java/util/ArrayList" "size" "I") (List.mem_of_getElem? (i := 19) rfl))) (fun _ h9 => h9) rfl (tyJx4a65c_ok 2 (by decide)) rfl rfl (Nat.le_of_ble_eq_true rfl) dJx4a65c_add_72be8_19 (fun H locs hP hD hS => ?_)
  have hP : va_P (dC, dI) vwCl [(h0, .inr (0, [.int 5, .ref a2, .int 5])), (a1, .inr (12, [.ref st_shelf, .ref st_first, .ref st_second, .ref st_third, .int st_at, .ref st_locks, .int st_mirrors, .int st_fetched, .ref st_wrong, .ref st_offered, .ref st_offeredSums])), (a2, .inl (cA, 10, .inr (.inr (.inr (.inr (va_up f 4 (some a1)))))))] H := hP
  have hD : va_D A [(h0, .inr (0, [.int 5, .ref a2, .int 5])), (a1, .inr (12, [.ref st_shelf, .ref st_first, .ref st_second, .ref st_third, .int st_at, .ref st_locks, .int st_mirrors, .int st_fetched, .ref st_wrong, .ref st_offered, .ref st_offeredSums])), (a2, .inl (cA, 10, .inr (.inr (.inr (.inr (va_up f 4 (some a1)))))))] := hD
  have hP9 := hP.sub (ws' := [(h0, .inr (0, [.int 5, .ref a2, .int 5])), (a1, .inr (12, [.ref st_shelf, .ref st_first, .ref st_second, .ref st_third, .int st_at, .ref st_locks, .int st_mirrors, .int st_fetched, .ref st_wrong, .ref st_offered, .ref st_offeredSums])), (a2, .inl (cA, 10, .inr (.inr (.inr (.inr (va_up f 4 (some a1)))))))]) [0, 1, 2] rfl
  have hD9 := hD.sub (ws' := [(h0, .inr (0, [.int 5, .ref a2, .int 5])), (a1, .inr (12, [.ref st_shelf, .ref st_first, .ref st_second, .ref st_third, .int st_at, .ref st_locks, .int st_mirrors, .int st_fetched, .ref st_wrong, .ref st_offered, .ref st_offeredSums])), (a2, .inl (cA, 10, .inr (.inr (.inr (.inr (va_up f 4 (some a1)))))))]) [0, 1, 2] (by decide) rfl
  have hK9 := hK.sub (tys' := []) [] rfl
  exact W.vret hx hb hr (fun t ht hW => ⟨⟨(), rfl, trivial, by rw [ht]; exact hP9, va_K.moved hW.alike hK9, hD9⟩, hS.F ht⟩) hS.2.2 dJx4a65c_add_72be8_22
set_option maxHeartbeats 4000000 in
set_option maxRecDepth 100000 in
/-- add(e), element 4 -/
theorem c_List_add4 (l : Launch) (dC : Nat → ClassId) (dI : Nat → Nat → Nat) (dA : Nat) (h0 : Nat) (a1 : Nat) (a2 : Nat) (cA : ClassId) (f : Nat → Option Nat) (st_shelf : Nat) (st_first : Nat) (st_second : Nat) (st_third : Nat) (st_at : Int32) (st_locks : Nat) (st_mirrors : Int32) (st_fetched : Int32) (st_wrong : Nat) (st_offered : Nat) (st_offeredSums : Nat) (sz : Nat) : Met l yJx4a65c_add_9ea2d (.code yJx4a65c_add_9ea2d cJx4a65c_add_9ea2d 2 (some .boolean) :: wsL_law) ({ frames := 1, cells := 0, slots := 0, locals := 23 }) (va_Pc [.ref h0, .ref a1] (fun U => U.heap.size = sz ∧ va_P (dC, dI) vwCl [(h0, .inr (0, [.int 4, .ref a2, .int 4])), (a1, .inr (12, [.ref st_shelf, .ref st_first, .ref st_second, .ref st_third, .int st_at, .ref st_locks, .int st_mirrors, .int st_fetched, .ref st_wrong, .ref st_offered, .ref st_offeredSums])), (a2, .inl (cA, 10, .inr (.inr (.inr (.inr f)))))] U.heap ∧ va_K (dC, dI) vwCl [(cA, .object "java/lang/Object")] U ∧ va_D (fun _ => True) [(h0, .inr (0, [.int 4, .ref a2, .int 4])), (a1, .inr (12, [.ref st_shelf, .ref st_first, .ref st_second, .ref st_third, .int st_at, .ref st_locks, .int st_mirrors, .int st_fetched, .ref st_wrong, .ref st_offered, .ref st_offeredSums])), (a2, .inl (cA, 10, .inr (.inr (.inr (.inr f)))))] ∧ kwF U ∧ kwH dA (va_A [(h0, .inr (0, [.int 4, .ref a2, .int 4])), (a1, .inr (12, [.ref st_shelf, .ref st_first, .ref st_second, .ref st_third, .int st_at, .ref st_locks, .int st_mirrors, .int st_fetched, .ref st_wrong, .ref st_offered, .ref st_offeredSums])), (a2, .inl (cA, 10, .inr (.inr (.inr (.inr f)))))] sz) U U.heap)) (va_Qi (fun (r : Int32) (_ : Unit) => r = 1) (fun _ t => va_P (dC, dI) vwCl [(h0, .inr (0, [.int 5, .ref a2, .int 5])), (a1, .inr (12, [.ref st_shelf, .ref st_first, .ref st_second, .ref st_third, .int st_at, .ref st_locks, .int st_mirrors, .int st_fetched, .ref st_wrong, .ref st_offered, .ref st_offeredSums])), (a2, .inl (cA, 10, .inr (.inr (.inr (.inr (va_up f 4 (some a1)))))))] t.heap ∧ va_K (dC, dI) vwCl [] t ∧ va_D (va_A [(h0, .inr (0, [.int 4, .ref a2, .int 4])), (a1, .inr (12, [.ref st_shelf, .ref st_first, .ref st_second, .ref st_third, .int st_at, .ref st_locks, .int st_mirrors, .int st_fetched, .ref st_wrong, .ref st_offered, .ref st_offeredSums])), (a2, .inl (cA, 10, .inr (.inr (.inr (.inr f)))))] sz) [(h0, .inr (0, [.int 5, .ref a2, .int 5])), (a1, .inr (12, [.ref st_shelf, .ref st_first, .ref st_second, .ref st_third, .int st_at, .ref st_locks, .int st_mirrors, .int st_fetched, .ref st_wrong, .ref st_offered, .ref st_offeredSums])), (a2, .inl (cA, 10, .inr (.inr (.inr (.inr (va_up f 4 (some a1)))))))]) (va_A [(h0, .inr (0, [.int 4, .ref a2, .int 4])), (a1, .inr (12, [.ref st_shelf, .ref st_first, .ref st_second, .ref st_third, .int st_at, .ref st_locks, .int st_mirrors, .int st_fetched, .ref st_wrong, .ref st_offered, .ref st_offeredSums])), (a2, .inl (cA, 10, .inr (.inr (.inr (.inr f)))))] sz)) 0 0 (va_A [(h0, .inr (0, [.int 4, .ref a2, .int 4])), (a1, .inr (12, [.ref st_shelf, .ref st_first, .ref st_second, .ref st_third, .int st_at, .ref st_locks, .int st_mirrors, .int st_fetched, .ref st_wrong, .ref st_offered, .ref st_offeredSums])), (a2, .inl (cA, 10, .inr (.inr (.inr (.inr f)))))] sz) := by
  refine Met.ofW (cc := cJx4a65c_add_9ea2d) (maxL := 2) (ret := (some .boolean)) (by decide) rfl ?_
  intro p e s m args below meth c s₁ B hml hv
  obtain ⟨rfl, hsz, hP, hK, hD0, hF, hZ⟩ := hv
  have hx := B.exec
  have hb := B.bytes
  have hr := B.returns
  have hts0 := atoms_spec (ws := (.code yJx4a65c_add_9ea2d cJx4a65c_add_9ea2d 2 (some .boolean) :: wsL_law)) B.pre
  have hts : ∀ w ∈ wsL_law, w.before _ s = true := fun w h => hts0 w (List.mem_cons_of_mem _ h)
  have hown : s.vm.findClass RJx4a65c = some m.cls := findClass_of_methodNamed B.named
  have hlocks := B.notSynchronized
  have hin : meth.name = "add" := (name_of_methodNamed B.named B.method).1
  subst hsz
  have hD := hD0.self (sz := s.heap.size)
  generalize hAe : va_A [(h0, .inr (0, [.int 4, .ref a2, .int 4])), (a1, .inr (12, [.ref st_shelf, .ref st_first, .ref st_second, .ref st_third, .int st_at, .ref st_locks, .int st_mirrors, .int st_fetched, .ref st_wrong, .ref st_offered, .ref st_offeredSums])), (a2, .inl (cA, 10, .inr (.inr (.inr (.inr f)))))] s.heap.size = A at hD hZ ⊢
  have hA : ∀ q : Nat, s.heap.size ≤ q → A q := fun q h => by rw [← hAe]; exact Or.inr h
  have hS : va_S A s.heap s.heap [] := va_S.rf
  have hP : va_P (dC, dI) vwCl [(h0, .inr (0, [.int 4, .ref a2, .int 4])), (a1, .inr (12, [.ref st_shelf, .ref st_first, .ref st_second, .ref st_third, .int st_at, .ref st_locks, .int st_mirrors, .int st_fetched, .ref st_wrong, .ref st_offered, .ref st_offeredSums])), (a2, .inl (cA, 10, .inr (.inr (.inr (.inr f)))))] s.heap := hP
  have hl := lv_entry ([.ref h0, .ref a1]) (n := 2) (Nat.le_of_ble_eq_true rfl)
  rw [lg_entry_eq]
  generalize (lg_sl ([.ref h0, .ref a1]) ++ List.replicate (2 - (lg_sl ([.ref h0, .ref a1])).length) Slot.unset).toArray = ls at hl ⊢
  have hl : lv_has ls 2 [(0, .ref h0), (1, .ref a1)] := hl
  refine lv_aload_n hx hb dJx4a65c_add_9ea2d_0 rfl (lv_at hl 0 rfl) ?_
  refine lv_dup hx hb dJx4a65c_add_9ea2d_1 rfl ?_
  refine va_get (D := (dC, dI)) (ci := 0) (v := .int 4) (C := RJx4a65c) (T := TJx4a65c) (N := 3) hx hb hts inlJx4a65c hown hK hP 0 rfl rfl 0 (by decide) (hts (.fieldLink RJx4a65c 63 "java/util/ArrayList" "modCount" "I") (inLU_10 (.fieldLink RJx4a65c 63 "java/util/ArrayList" "modCount" "I") (List.mem_of_getElem? (i := 17) rfl))) (fun x9 h9 => u_same (hts (.sameField "java/util/ArrayList" "java/util/AbstractList" "modCount" "I") (inLU_10 (.sameField "java/util/ArrayList" "java/util/AbstractList" "modCount" "I") (List.mem_of_getElem? (i := 18) rfl))) x9 h9) rfl dJx4a65c_add_9ea2d_2 ?_
  refine lv_iconst (v := 1) hx hb dJx4a65c_add_9ea2d_5 (by decide) ?_
  refine lv_iadd hx hb dJx4a65c_add_9ea2d_6 ?_
  refine lv_topi (fun x1 ex1 => ?_)
  obtain rfl : x1 = 5 := ex1.trans (by decide)
  refine va_put (D := (dC, dI)) (ci := 0) (v := .int 5) (ty := .int) (C := RJx4a65c) (T := TJx4a65c) (N := 3) hx hb hts inlJx4a65c tyJx4a65c tyJx4a65c_ok nmJx4a65c hown hK hP hD hS 0 rfl rfl 0 (by decide) (hts (.fieldLink RJx4a65c 63 "java/util/ArrayList" "modCount" "I") (inLU_10 (.fieldLink RJx4a65c 63 "java/util/ArrayList" "modCount" "I") (List.mem_of_getElem? (i := 17) rfl))) (fun x9 h9 => u_same (hts (.sameField "java/util/ArrayList" "java/util/AbstractList" "modCount" "I") (inLU_10 (.sameField "java/util/ArrayList" "java/util/AbstractList" "modCount" "I") (List.mem_of_getElem? (i := 18) rfl))) x9 h9) rfl (tyJx4a65c_ok 0 (by decide)) rfl rfl (Nat.le_of_ble_eq_true rfl) dJx4a65c_add_9ea2d_7 (fun H locs hP hD hS => ?_)
  have hP : va_P (dC, dI) vwCl [(h0, .inr (0, [.int 5, .ref a2, .int 4])), (a1, .inr (12, [.ref st_shelf, .ref st_first, .ref st_second, .ref st_third, .int st_at, .ref st_locks, .int st_mirrors, .int st_fetched, .ref st_wrong, .ref st_offered, .ref st_offeredSums])), (a2, .inl (cA, 10, .inr (.inr (.inr (.inr f)))))] H := hP
  have hD : va_D A [(h0, .inr (0, [.int 5, .ref a2, .int 4])), (a1, .inr (12, [.ref st_shelf, .ref st_first, .ref st_second, .ref st_third, .int st_at, .ref st_locks, .int st_mirrors, .int st_fetched, .ref st_wrong, .ref st_offered, .ref st_offeredSums])), (a2, .inl (cA, 10, .inr (.inr (.inr (.inr f)))))] := hD
  refine lv_aload_n hx hb dJx4a65c_add_9ea2d_10 rfl (lv_at hl 0 rfl) ?_
  refine lv_aload_n hx hb dJx4a65c_add_9ea2d_11 rfl (lv_at hl 1 rfl) ?_
  refine lv_aload_n hx hb dJx4a65c_add_9ea2d_12 rfl (lv_at hl 0 rfl) ?_
  refine va_get (D := (dC, dI)) (ci := 0) (v := .ref a2) (C := RJx4a65c) (T := TJx4a65c) (N := 3) hx hb hts inlJx4a65c hown hK hP 0 rfl rfl 1 (by decide) (hts (.fieldLink RJx4a65c 9 "java/util/ArrayList" "elementData" "[Ljava/lang/Object;") (inLU_6 (.fieldLink RJx4a65c 9 "java/util/ArrayList" "elementData" "[Ljava/lang/Object;") (List.mem_of_getElem? (i := 11) rfl))) (fun _ h9 => h9) rfl dJx4a65c_add_9ea2d_13 ?_
  refine lv_aload_n hx hb dJx4a65c_add_9ea2d_16 rfl (lv_at hl 0 rfl) ?_
  refine va_get (D := (dC, dI)) (ci := 0) (v := .int 4) (C := RJx4a65c) (T := TJx4a65c) (N := 3) hx hb hts inlJx4a65c hown hK hP 0 rfl rfl 2 (by decide) (hts (.fieldLink RJx4a65c 48 "java/util/ArrayList" "size" "I") (inLU_10 (.fieldLink RJx4a65c 48 "java/util/ArrayList" "size" "I") (List.mem_of_getElem? (i := 19) rfl))) (fun _ h9 => h9) rfl dJx4a65c_add_9ea2d_17 ?_
  have hPc := hP.sub (ws' := [(h0, .inr (0, [.int 5, .ref a2, .int 4])), (a1, .inr (12, [.ref st_shelf, .ref st_first, .ref st_second, .ref st_third, .int st_at, .ref st_locks, .int st_mirrors, .int st_fetched, .ref st_wrong, .ref st_offered, .ref st_offeredSums])), (a2, .inl (cA, 10, .inr (.inr (.inr (.inr f)))))]) [0, 1, 2] rfl
  have hDc := hD.sub (ws' := [(h0, .inr (0, [.int 5, .ref a2, .int 4])), (a1, .inr (12, [.ref st_shelf, .ref st_first, .ref st_second, .ref st_third, .int st_at, .ref st_locks, .int st_mirrors, .int st_fetched, .ref st_wrong, .ref st_offered, .ref st_offeredSums])), (a2, .inl (cA, 10, .inr (.inr (.inr (.inr f)))))]) [0, 1, 2] (by decide) rfl
  have hKc := hK.sub (tys' := [(cA, .object "java/lang/Object")]) [0] rfl
  have hFc := va_free (wc := [(h0, .inr (0, [.int 5, .ref a2, .int 4])), (a1, .inr (12, [.ref st_shelf, .ref st_first, .ref st_second, .ref st_third, .int st_at, .ref st_locks, .int st_mirrors, .int st_fetched, .ref st_wrong, .ref st_offered, .ref st_offeredSums])), (a2, .inl (cA, 10, .inr (.inr (.inr (.inr f)))))]) hD hS hA [0, 1, 2] rfl
  refine va_callv (va_runV (As := [.ref a1, .ref a2, .int 4]) (rest := []) ⟨hx, hb, hml, hown, hts⟩ (c_List_put4 l dC dI dA h0 a1 a2 cA f st_shelf st_first st_second st_third st_at st_locks st_mirrors st_fetched st_wrong st_offered st_offeredSums H.size) (cwV 3 hts (gLU_V (inLU_10 (.methodLink RJx4a65c 131 yJx4a65c_add_72be8) (List.mem_of_getElem? (i := 20) rfl)) (inLU_10 (.instanceMethod yJx4a65c_add_72be8) (List.mem_of_getElem? (i := 21) rfl)) (inLU_10 (.selects RJx4a65c yJx4a65c_add_72be8 yJx4a65c_add_72be8) (List.mem_of_getElem? (i := 22) rfl)) (inLU_1 (.initialized RJx4a65c) (List.mem_of_getElem? (i := 23) rfl)) (inLU_10 (.code yJx4a65c_add_72be8 cJx4a65c_add_72be8 4 none) (List.mem_of_getElem? (i := 23) rfl))) rfl rfl rfl (by decide +kernel) ⟨Nat.le_of_ble_eq_true rfl, Nat.le_of_ble_eq_true rfl⟩) ⟨fun a U g mk q => by obtain ⟨q0, q1, qP, qK, qD, qF, qZ⟩ := q; exact ⟨q0, q1, qP, va_K.moved (u := U) (U := U.calling g mk a) (Vm.Alike.refl U.vm) qK, qD, kwF.same (u := U) (U := U.calling g mk a) rfl qF, kwH.moved (u := U) (U := U.calling g mk a) (Vm.Alike.refl U.vm) qZ⟩, va_recv hKc hPc (ci := 0) (q0 := 0) rfl rfl, fun U hU hW => ⟨rfl, by rw [hU], by rw [hU]; exact hPc, va_K.moved hW.alike hKc, hDc.weaken (fun _ _ _ _ => trivial), kwF.warm hW hF, kwH.at hZ hS hFc hW.alike hU⟩⟩ rfl rfl hl.1 rfl (lv_room (Nat.le_of_ble_eq_true rfl)) dJx4a65c_add_9ea2d_20 ⟨Nat.le_of_ble_eq_true rfl, Nat.le_of_ble_eq_true rfl⟩) hS (fun q _ h => hFc q h) hFc (fun u t H1 locs ht hvm hw hB hz1 hk1 hS => ?_)
  obtain ⟨hP1, hK1, hD1⟩ := hB
  rw [ht] at hP1
  have hK1 := va_K.moved hvm.symm hK1
  obtain ⟨hP, hD⟩ := va_join (wr := []) (w1 := [(h0, .inr (0, [.int 5, .ref a2, .int 5])), (a1, .inr (12, [.ref st_shelf, .ref st_first, .ref st_second, .ref st_third, .int st_at, .ref st_locks, .int st_mirrors, .int st_fetched, .ref st_wrong, .ref st_offered, .ref st_offeredSums])), (a2, .inl (cA, 10, .inr (.inr (.inr (.inr (va_up f 4 (some a1)))))))]) hP hD [0, 1, 2] [] rfl rfl (by decide) (by decide) hk1 hFc hP1 hD1
  have hK := hK.app hK1
  generalize H1 = H at hP hS ⊢
  have hK : va_K (dC, dI) vwCl [(cA, .object "java/lang/Object")] s := hK
  have hP : va_P (dC, dI) vwCl [(h0, .inr (0, [.int 5, .ref a2, .int 5])), (a1, .inr (12, [.ref st_shelf, .ref st_first, .ref st_second, .ref st_third, .int st_at, .ref st_locks, .int st_mirrors, .int st_fetched, .ref st_wrong, .ref st_offered, .ref st_offeredSums])), (a2, .inl (cA, 10, .inr (.inr (.inr (.inr (va_up f 4 (some a1)))))))] H := hP
  have hD : va_D A [(h0, .inr (0, [.int 5, .ref a2, .int 5])), (a1, .inr (12, [.ref st_shelf, .ref st_first, .ref st_second, .ref st_third, .int st_at, .ref st_locks, .int st_mirrors, .int st_fetched, .ref st_wrong, .ref st_offered, .ref st_offeredSums])), (a2, .inl (cA, 10, .inr (.inr (.inr (.inr (va_up f 4 (some a1)))))))] := hD
  refine W.widen (k := 0) (n := 0) (Nat.le_of_ble_eq_true rfl) (Nat.le_of_ble_eq_true rfl) ?_
  refine lv_iconst (v := 1) hx hb dJx4a65c_add_9ea2d_23 (by decide) ?_
  have hP9 := hP.sub (ws' := [(h0, .inr (0, [.int 5, .ref a2, .int 5])), (a1, .inr (12, [.ref st_shelf, .ref st_first, .ref st_second, .ref st_third, .int st_at, .ref st_locks, .int st_mirrors, .int st_fetched, .ref st_wrong, .ref st_offered, .ref st_offeredSums])), (a2, .inl (cA, 10, .inr (.inr (.inr (.inr (va_up f 4 (some a1)))))))]) [0, 1, 2] rfl
  have hD9 := hD.sub (ws' := [(h0, .inr (0, [.int 5, .ref a2, .int 5])), (a1, .inr (12, [.ref st_shelf, .ref st_first, .ref st_second, .ref st_third, .int st_at, .ref st_locks, .int st_mirrors, .int st_fetched, .ref st_wrong, .ref st_offered, .ref st_offeredSums])), (a2, .inl (cA, 10, .inr (.inr (.inr (.inr (va_up f 4 (some a1)))))))]) [0, 1, 2] (by decide) rfl
  have hK9 := hK.sub (tys' := []) [] rfl
  exact W.zret (v := 1) hx hb hr rfl (fun t ht hW => ⟨⟨1, (), rfl, rfl, by rw [ht]; exact hP9, va_K.moved hW.alike hK9, hD9⟩, hS.F ht⟩) hS.2.2 dJx4a65c_add_9ea2d_24
set_option maxHeartbeats 4000000 in
set_option maxRecDepth 100000 in
/-- element 5 -/
theorem c_List_put5 (l : Launch) (dC : Nat → ClassId) (dI : Nat → Nat → Nat) (dA : Nat) (h0 : Nat) (a1 : Nat) (a2 : Nat) (cA : ClassId) (f : Nat → Option Nat) (st_shelf : Nat) (st_first : Nat) (st_second : Nat) (st_third : Nat) (st_at : Int32) (st_locks : Nat) (st_mirrors : Int32) (st_fetched : Int32) (st_wrong : Nat) (st_offered : Nat) (st_offeredSums : Nat) (sz : Nat) : Met l yJx4a65c_add_72be8 (.code yJx4a65c_add_72be8 cJx4a65c_add_72be8 4 none :: wsL_law) ({ frames := 0, cells := 0, slots := 0, locals := 0 }) (va_Pc [.ref h0, .ref a1, .ref a2, .int 5] (fun U => U.heap.size = sz ∧ va_P (dC, dI) vwCl [(h0, .inr (0, [.int 6, .ref a2, .int 5])), (a1, .inr (12, [.ref st_shelf, .ref st_first, .ref st_second, .ref st_third, .int st_at, .ref st_locks, .int st_mirrors, .int st_fetched, .ref st_wrong, .ref st_offered, .ref st_offeredSums])), (a2, .inl (cA, 10, .inr (.inr (.inr (.inr f)))))] U.heap ∧ va_K (dC, dI) vwCl [(cA, .object "java/lang/Object")] U ∧ va_D (fun _ => True) [(h0, .inr (0, [.int 6, .ref a2, .int 5])), (a1, .inr (12, [.ref st_shelf, .ref st_first, .ref st_second, .ref st_third, .int st_at, .ref st_locks, .int st_mirrors, .int st_fetched, .ref st_wrong, .ref st_offered, .ref st_offeredSums])), (a2, .inl (cA, 10, .inr (.inr (.inr (.inr f)))))] ∧ kwF U ∧ kwH dA (va_A [(h0, .inr (0, [.int 6, .ref a2, .int 5])), (a1, .inr (12, [.ref st_shelf, .ref st_first, .ref st_second, .ref st_third, .int st_at, .ref st_locks, .int st_mirrors, .int st_fetched, .ref st_wrong, .ref st_offered, .ref st_offeredSums])), (a2, .inl (cA, 10, .inr (.inr (.inr (.inr f)))))] sz) U U.heap)) (va_Qv (fun _ : Unit => True) (fun _ t => va_P (dC, dI) vwCl [(h0, .inr (0, [.int 6, .ref a2, .int 6])), (a1, .inr (12, [.ref st_shelf, .ref st_first, .ref st_second, .ref st_third, .int st_at, .ref st_locks, .int st_mirrors, .int st_fetched, .ref st_wrong, .ref st_offered, .ref st_offeredSums])), (a2, .inl (cA, 10, .inr (.inr (.inr (.inr (va_up f 5 (some a1)))))))] t.heap ∧ va_K (dC, dI) vwCl [] t ∧ va_D (va_A [(h0, .inr (0, [.int 6, .ref a2, .int 5])), (a1, .inr (12, [.ref st_shelf, .ref st_first, .ref st_second, .ref st_third, .int st_at, .ref st_locks, .int st_mirrors, .int st_fetched, .ref st_wrong, .ref st_offered, .ref st_offeredSums])), (a2, .inl (cA, 10, .inr (.inr (.inr (.inr f)))))] sz) [(h0, .inr (0, [.int 6, .ref a2, .int 6])), (a1, .inr (12, [.ref st_shelf, .ref st_first, .ref st_second, .ref st_third, .int st_at, .ref st_locks, .int st_mirrors, .int st_fetched, .ref st_wrong, .ref st_offered, .ref st_offeredSums])), (a2, .inl (cA, 10, .inr (.inr (.inr (.inr (va_up f 5 (some a1)))))))]) (va_A [(h0, .inr (0, [.int 6, .ref a2, .int 5])), (a1, .inr (12, [.ref st_shelf, .ref st_first, .ref st_second, .ref st_third, .int st_at, .ref st_locks, .int st_mirrors, .int st_fetched, .ref st_wrong, .ref st_offered, .ref st_offeredSums])), (a2, .inl (cA, 10, .inr (.inr (.inr (.inr f)))))] sz)) 0 0 (va_A [(h0, .inr (0, [.int 6, .ref a2, .int 5])), (a1, .inr (12, [.ref st_shelf, .ref st_first, .ref st_second, .ref st_third, .int st_at, .ref st_locks, .int st_mirrors, .int st_fetched, .ref st_wrong, .ref st_offered, .ref st_offeredSums])), (a2, .inl (cA, 10, .inr (.inr (.inr (.inr f)))))] sz) := by
  refine Met.ofW (cc := cJx4a65c_add_72be8) (maxL := 4) (ret := none) (by decide) rfl ?_
  intro p e s m args below meth c s₁ B hml hv
  obtain ⟨rfl, hsz, hP, hK, hD0, hF, hZ⟩ := hv
  have hx := B.exec
  have hb := B.bytes
  have hr := B.returns
  have hts0 := atoms_spec (ws := (.code yJx4a65c_add_72be8 cJx4a65c_add_72be8 4 none :: wsL_law)) B.pre
  have hts : ∀ w ∈ wsL_law, w.before _ s = true := fun w h => hts0 w (List.mem_cons_of_mem _ h)
  have hown : s.vm.findClass RJx4a65c = some m.cls := findClass_of_methodNamed B.named
  have hlocks := B.notSynchronized
  have hin : meth.name = "add" := (name_of_methodNamed B.named B.method).1
  subst hsz
  have hD := hD0.self (sz := s.heap.size)
  generalize hAe : va_A [(h0, .inr (0, [.int 6, .ref a2, .int 5])), (a1, .inr (12, [.ref st_shelf, .ref st_first, .ref st_second, .ref st_third, .int st_at, .ref st_locks, .int st_mirrors, .int st_fetched, .ref st_wrong, .ref st_offered, .ref st_offeredSums])), (a2, .inl (cA, 10, .inr (.inr (.inr (.inr f)))))] s.heap.size = A at hD hZ ⊢
  have hA : ∀ q : Nat, s.heap.size ≤ q → A q := fun q h => by rw [← hAe]; exact Or.inr h
  have hS : va_S A s.heap s.heap [] := va_S.rf
  have hP : va_P (dC, dI) vwCl [(h0, .inr (0, [.int 6, .ref a2, .int 5])), (a1, .inr (12, [.ref st_shelf, .ref st_first, .ref st_second, .ref st_third, .int st_at, .ref st_locks, .int st_mirrors, .int st_fetched, .ref st_wrong, .ref st_offered, .ref st_offeredSums])), (a2, .inl (cA, 10, .inr (.inr (.inr (.inr f)))))] s.heap := hP
  have hl := lv_entry ([.ref h0, .ref a1, .ref a2, .int 5]) (n := 4) (Nat.le_of_ble_eq_true rfl)
  rw [lg_entry_eq]
  generalize (lg_sl ([.ref h0, .ref a1, .ref a2, .int 5]) ++ List.replicate (4 - (lg_sl ([.ref h0, .ref a1, .ref a2, .int 5])).length) Slot.unset).toArray = ls at hl ⊢
  have hl : lv_has ls 4 [(0, .ref h0), (1, .ref a1), (2, .ref a2), (3, .int 5)] := hl
  refine lv_iload_n hx hb dJx4a65c_add_72be8_0 rfl (lv_at hl 3 rfl) ?_
  refine lv_aload_n hx hb dJx4a65c_add_72be8_1 rfl (lv_at hl 2 rfl) ?_
  refine va_alen (D := (dC, dI)) (v := 10) hx hb hK hP 2 0 rfl rfl (show Int32.ofNat 10 = 10 from by decide) dJx4a65c_add_72be8_2 ?_
  refine lv_icmp_ne (tgt := 11) hx hb dJx4a65c_add_72be8_3 (by decide) (fun _ => ?_) (fun c1 => absurd c1 (by decide))
  refine lv_aload_n hx hb dJx4a65c_add_72be8_11 rfl (lv_at hl 2 rfl) ?_
  refine lv_iload_n hx hb dJx4a65c_add_72be8_12 rfl (lv_at hl 3 rfl) ?_
  refine lv_aload_n hx hb dJx4a65c_add_72be8_13 rfl (lv_at hl 1 rfl) ?_
  refine va_astqO (D := (dC, dI)) hx hb hK hP hD hS 2 0 1 12 rfl rfl (kw_C_X11 hF) rfl rfl (show vp_in _ _ from by unfold vp_in; decide) dJx4a65c_add_72be8_14 (fun H locs hP hD hS => ?_)
  rw [show (5 : Int32).toNatClampNeg = 5 from by decide] at hP hD
  have hP : va_P (dC, dI) vwCl [(h0, .inr (0, [.int 6, .ref a2, .int 5])), (a1, .inr (12, [.ref st_shelf, .ref st_first, .ref st_second, .ref st_third, .int st_at, .ref st_locks, .int st_mirrors, .int st_fetched, .ref st_wrong, .ref st_offered, .ref st_offeredSums])), (a2, .inl (cA, 10, .inr (.inr (.inr (.inr (va_up f 5 (some a1)))))))] H := hP
  have hD : va_D A [(h0, .inr (0, [.int 6, .ref a2, .int 5])), (a1, .inr (12, [.ref st_shelf, .ref st_first, .ref st_second, .ref st_third, .int st_at, .ref st_locks, .int st_mirrors, .int st_fetched, .ref st_wrong, .ref st_offered, .ref st_offeredSums])), (a2, .inl (cA, 10, .inr (.inr (.inr (.inr (va_up f 5 (some a1)))))))] := hD
  refine lv_aload_n hx hb dJx4a65c_add_72be8_15 rfl (lv_at hl 0 rfl) ?_
  refine lv_iload_n hx hb dJx4a65c_add_72be8_16 rfl (lv_at hl 3 rfl) ?_
  refine lv_iconst (v := 1) hx hb dJx4a65c_add_72be8_17 (by decide) ?_
  refine lv_iadd hx hb dJx4a65c_add_72be8_18 ?_
  refine lv_topi (fun x2 ex2 => ?_)
  obtain rfl : x2 = 6 := ex2.trans (by decide)
  refine va_put (D := (dC, dI)) (ci := 0) (v := .int 6) (ty := .int) (C := RJx4a65c) (T := TJx4a65c) (N := 3) hx hb hts inlJx4a65c tyJx4a65c tyJx4a65c_ok nmJx4a65c hown hK hP hD hS 0 rfl rfl 2 (by decide) (hts (.fieldLink RJx4a65c 48 "java/util/ArrayList" "size" "I") (inLU_10 (.fieldLink RJx4a65c 48 "java/util/ArrayList" "size" "I") (List.mem_of_getElem? (i := 19) rfl))) (fun _ h9 => h9) rfl (tyJx4a65c_ok 2 (by decide)) rfl rfl (Nat.le_of_ble_eq_true rfl) dJx4a65c_add_72be8_19 (fun H locs hP hD hS => ?_)
  have hP : va_P (dC, dI) vwCl [(h0, .inr (0, [.int 6, .ref a2, .int 6])), (a1, .inr (12, [.ref st_shelf, .ref st_first, .ref st_second, .ref st_third, .int st_at, .ref st_locks, .int st_mirrors, .int st_fetched, .ref st_wrong, .ref st_offered, .ref st_offeredSums])), (a2, .inl (cA, 10, .inr (.inr (.inr (.inr (va_up f 5 (some a1)))))))] H := hP
  have hD : va_D A [(h0, .inr (0, [.int 6, .ref a2, .int 6])), (a1, .inr (12, [.ref st_shelf, .ref st_first, .ref st_second, .ref st_third, .int st_at, .ref st_locks, .int st_mirrors, .int st_fetched, .ref st_wrong, .ref st_offered, .ref st_offeredSums])), (a2, .inl (cA, 10, .inr (.inr (.inr (.inr (va_up f 5 (some a1)))))))] := hD
  have hP9 := hP.sub (ws' := [(h0, .inr (0, [.int 6, .ref a2, .int 6])), (a1, .inr (12, [.ref st_shelf, .ref st_first, .ref st_second, .ref st_third, .int st_at, .ref st_locks, .int st_mirrors, .int st_fetched, .ref st_wrong, .ref st_offered, .ref st_offeredSums])), (a2, .inl (cA, 10, .inr (.inr (.inr (.inr (va_up f 5 (some a1)))))))]) [0, 1, 2] rfl
  have hD9 := hD.sub (ws' := [(h0, .inr (0, [.int 6, .ref a2, .int 6])), (a1, .inr (12, [.ref st_shelf, .ref st_first, .ref st_second, .ref st_third, .int st_at, .ref st_locks, .int st_mirrors, .int st_fetched, .ref st_wrong, .ref st_offered, .ref st_offeredSums])), (a2, .inl (cA, 10, .inr (.inr (.inr (.inr (va_up f 5 (some a1)))))))]) [0, 1, 2] (by decide) rfl
  have hK9 := hK.sub (tys' := []) [] rfl
  exact W.vret hx hb hr (fun t ht hW => ⟨⟨(), rfl, trivial, by rw [ht]; exact hP9, va_K.moved hW.alike hK9, hD9⟩, hS.F ht⟩) hS.2.2 dJx4a65c_add_72be8_22
set_option maxHeartbeats 4000000 in
set_option maxRecDepth 100000 in
/-- add(e), element 5 -/
theorem c_List_add5 (l : Launch) (dC : Nat → ClassId) (dI : Nat → Nat → Nat) (dA : Nat) (h0 : Nat) (a1 : Nat) (a2 : Nat) (cA : ClassId) (f : Nat → Option Nat) (st_shelf : Nat) (st_first : Nat) (st_second : Nat) (st_third : Nat) (st_at : Int32) (st_locks : Nat) (st_mirrors : Int32) (st_fetched : Int32) (st_wrong : Nat) (st_offered : Nat) (st_offeredSums : Nat) (sz : Nat) : Met l yJx4a65c_add_9ea2d (.code yJx4a65c_add_9ea2d cJx4a65c_add_9ea2d 2 (some .boolean) :: wsL_law) ({ frames := 1, cells := 0, slots := 0, locals := 23 }) (va_Pc [.ref h0, .ref a1] (fun U => U.heap.size = sz ∧ va_P (dC, dI) vwCl [(h0, .inr (0, [.int 5, .ref a2, .int 5])), (a1, .inr (12, [.ref st_shelf, .ref st_first, .ref st_second, .ref st_third, .int st_at, .ref st_locks, .int st_mirrors, .int st_fetched, .ref st_wrong, .ref st_offered, .ref st_offeredSums])), (a2, .inl (cA, 10, .inr (.inr (.inr (.inr f)))))] U.heap ∧ va_K (dC, dI) vwCl [(cA, .object "java/lang/Object")] U ∧ va_D (fun _ => True) [(h0, .inr (0, [.int 5, .ref a2, .int 5])), (a1, .inr (12, [.ref st_shelf, .ref st_first, .ref st_second, .ref st_third, .int st_at, .ref st_locks, .int st_mirrors, .int st_fetched, .ref st_wrong, .ref st_offered, .ref st_offeredSums])), (a2, .inl (cA, 10, .inr (.inr (.inr (.inr f)))))] ∧ kwF U ∧ kwH dA (va_A [(h0, .inr (0, [.int 5, .ref a2, .int 5])), (a1, .inr (12, [.ref st_shelf, .ref st_first, .ref st_second, .ref st_third, .int st_at, .ref st_locks, .int st_mirrors, .int st_fetched, .ref st_wrong, .ref st_offered, .ref st_offeredSums])), (a2, .inl (cA, 10, .inr (.inr (.inr (.inr f)))))] sz) U U.heap)) (va_Qi (fun (r : Int32) (_ : Unit) => r = 1) (fun _ t => va_P (dC, dI) vwCl [(h0, .inr (0, [.int 6, .ref a2, .int 6])), (a1, .inr (12, [.ref st_shelf, .ref st_first, .ref st_second, .ref st_third, .int st_at, .ref st_locks, .int st_mirrors, .int st_fetched, .ref st_wrong, .ref st_offered, .ref st_offeredSums])), (a2, .inl (cA, 10, .inr (.inr (.inr (.inr (va_up f 5 (some a1)))))))] t.heap ∧ va_K (dC, dI) vwCl [] t ∧ va_D (va_A [(h0, .inr (0, [.int 5, .ref a2, .int 5])), (a1, .inr (12, [.ref st_shelf, .ref st_first, .ref st_second, .ref st_third, .int st_at, .ref st_locks, .int st_mirrors, .int st_fetched, .ref st_wrong, .ref st_offered, .ref st_offeredSums])), (a2, .inl (cA, 10, .inr (.inr (.inr (.inr f)))))] sz) [(h0, .inr (0, [.int 6, .ref a2, .int 6])), (a1, .inr (12, [.ref st_shelf, .ref st_first, .ref st_second, .ref st_third, .int st_at, .ref st_locks, .int st_mirrors, .int st_fetched, .ref st_wrong, .ref st_offered, .ref st_offeredSums])), (a2, .inl (cA, 10, .inr (.inr (.inr (.inr (va_up f 5 (some a1)))))))]) (va_A [(h0, .inr (0, [.int 5, .ref a2, .int 5])), (a1, .inr (12, [.ref st_shelf, .ref st_first, .ref st_second, .ref st_third, .int st_at, .ref st_locks, .int st_mirrors, .int st_fetched, .ref st_wrong, .ref st_offered, .ref st_offeredSums])), (a2, .inl (cA, 10, .inr (.inr (.inr (.inr f)))))] sz)) 0 0 (va_A [(h0, .inr (0, [.int 5, .ref a2, .int 5])), (a1, .inr (12, [.ref st_shelf, .ref st_first, .ref st_second, .ref st_third, .int st_at, .ref st_locks, .int st_mirrors, .int st_fetched, .ref st_wrong, .ref st_offered, .ref st_offeredSums])), (a2, .inl (cA, 10, .inr (.inr (.inr (.inr f)))))] sz) := by
  refine Met.ofW (cc := cJx4a65c_add_9ea2d) (maxL := 2) (ret := (some .boolean)) (by decide) rfl ?_
  intro p e s m args below meth c s₁ B hml hv
  obtain ⟨rfl, hsz, hP, hK, hD0, hF, hZ⟩ := hv
  have hx := B.exec
  have hb := B.bytes
  have hr := B.returns
  have hts0 := atoms_spec (ws := (.code yJx4a65c_add_9ea2d cJx4a65c_add_9ea2d 2 (some .boolean) :: wsL_law)) B.pre
  have hts : ∀ w ∈ wsL_law, w.before _ s = true := fun w h => hts0 w (List.mem_cons_of_mem _ h)
  have hown : s.vm.findClass RJx4a65c = some m.cls := findClass_of_methodNamed B.named
  have hlocks := B.notSynchronized
  have hin : meth.name = "add" := (name_of_methodNamed B.named B.method).1
  subst hsz
  have hD := hD0.self (sz := s.heap.size)
  generalize hAe : va_A [(h0, .inr (0, [.int 5, .ref a2, .int 5])), (a1, .inr (12, [.ref st_shelf, .ref st_first, .ref st_second, .ref st_third, .int st_at, .ref st_locks, .int st_mirrors, .int st_fetched, .ref st_wrong, .ref st_offered, .ref st_offeredSums])), (a2, .inl (cA, 10, .inr (.inr (.inr (.inr f)))))] s.heap.size = A at hD hZ ⊢
  have hA : ∀ q : Nat, s.heap.size ≤ q → A q := fun q h => by rw [← hAe]; exact Or.inr h
  have hS : va_S A s.heap s.heap [] := va_S.rf
  have hP : va_P (dC, dI) vwCl [(h0, .inr (0, [.int 5, .ref a2, .int 5])), (a1, .inr (12, [.ref st_shelf, .ref st_first, .ref st_second, .ref st_third, .int st_at, .ref st_locks, .int st_mirrors, .int st_fetched, .ref st_wrong, .ref st_offered, .ref st_offeredSums])), (a2, .inl (cA, 10, .inr (.inr (.inr (.inr f)))))] s.heap := hP
  have hl := lv_entry ([.ref h0, .ref a1]) (n := 2) (Nat.le_of_ble_eq_true rfl)
  rw [lg_entry_eq]
  generalize (lg_sl ([.ref h0, .ref a1]) ++ List.replicate (2 - (lg_sl ([.ref h0, .ref a1])).length) Slot.unset).toArray = ls at hl ⊢
  have hl : lv_has ls 2 [(0, .ref h0), (1, .ref a1)] := hl
  refine lv_aload_n hx hb dJx4a65c_add_9ea2d_0 rfl (lv_at hl 0 rfl) ?_
  refine lv_dup hx hb dJx4a65c_add_9ea2d_1 rfl ?_
  refine va_get (D := (dC, dI)) (ci := 0) (v := .int 5) (C := RJx4a65c) (T := TJx4a65c) (N := 3) hx hb hts inlJx4a65c hown hK hP 0 rfl rfl 0 (by decide) (hts (.fieldLink RJx4a65c 63 "java/util/ArrayList" "modCount" "I") (inLU_10 (.fieldLink RJx4a65c 63 "java/util/ArrayList" "modCount" "I") (List.mem_of_getElem? (i := 17) rfl))) (fun x9 h9 => u_same (hts (.sameField "java/util/ArrayList" "java/util/AbstractList" "modCount" "I") (inLU_10 (.sameField "java/util/ArrayList" "java/util/AbstractList" "modCount" "I") (List.mem_of_getElem? (i := 18) rfl))) x9 h9) rfl dJx4a65c_add_9ea2d_2 ?_
  refine lv_iconst (v := 1) hx hb dJx4a65c_add_9ea2d_5 (by decide) ?_
  refine lv_iadd hx hb dJx4a65c_add_9ea2d_6 ?_
  refine lv_topi (fun x1 ex1 => ?_)
  obtain rfl : x1 = 6 := ex1.trans (by decide)
  refine va_put (D := (dC, dI)) (ci := 0) (v := .int 6) (ty := .int) (C := RJx4a65c) (T := TJx4a65c) (N := 3) hx hb hts inlJx4a65c tyJx4a65c tyJx4a65c_ok nmJx4a65c hown hK hP hD hS 0 rfl rfl 0 (by decide) (hts (.fieldLink RJx4a65c 63 "java/util/ArrayList" "modCount" "I") (inLU_10 (.fieldLink RJx4a65c 63 "java/util/ArrayList" "modCount" "I") (List.mem_of_getElem? (i := 17) rfl))) (fun x9 h9 => u_same (hts (.sameField "java/util/ArrayList" "java/util/AbstractList" "modCount" "I") (inLU_10 (.sameField "java/util/ArrayList" "java/util/AbstractList" "modCount" "I") (List.mem_of_getElem? (i := 18) rfl))) x9 h9) rfl (tyJx4a65c_ok 0 (by decide)) rfl rfl (Nat.le_of_ble_eq_true rfl) dJx4a65c_add_9ea2d_7 (fun H locs hP hD hS => ?_)
  have hP : va_P (dC, dI) vwCl [(h0, .inr (0, [.int 6, .ref a2, .int 5])), (a1, .inr (12, [.ref st_shelf, .ref st_first, .ref st_second, .ref st_third, .int st_at, .ref st_locks, .int st_mirrors, .int st_fetched, .ref st_wrong, .ref st_offered, .ref st_offeredSums])), (a2, .inl (cA, 10, .inr (.inr (.inr (.inr f)))))] H := hP
  have hD : va_D A [(h0, .inr (0, [.int 6, .ref a2, .int 5])), (a1, .inr (12, [.ref st_shelf, .ref st_first, .ref st_second, .ref st_third, .int st_at, .ref st_locks, .int st_mirrors, .int st_fetched, .ref st_wrong, .ref st_offered, .ref st_offeredSums])), (a2, .inl (cA, 10, .inr (.inr (.inr (.inr f)))))] := hD
  refine lv_aload_n hx hb dJx4a65c_add_9ea2d_10 rfl (lv_at hl 0 rfl) ?_
  refine lv_aload_n hx hb dJx4a65c_add_9ea2d_11 rfl (lv_at hl 1 rfl) ?_
  refine lv_aload_n hx hb dJx4a65c_add_9ea2d_12 rfl (lv_at hl 0 rfl) ?_
  refine va_get (D := (dC, dI)) (ci := 0) (v := .ref a2) (C := RJx4a65c) (T := TJx4a65c) (N := 3) hx hb hts inlJx4a65c hown hK hP 0 rfl rfl 1 (by decide) (hts (.fieldLink RJx4a65c 9 "java/util/ArrayList" "elementData" "[Ljava/lang/Object;") (inLU_6 (.fieldLink RJx4a65c 9 "java/util/ArrayList" "elementData" "[Ljava/lang/Object;") (List.mem_of_getElem? (i := 11) rfl))) (fun _ h9 => h9) rfl dJx4a65c_add_9ea2d_13 ?_
  refine lv_aload_n hx hb dJx4a65c_add_9ea2d_16 rfl (lv_at hl 0 rfl) ?_
  refine va_get (D := (dC, dI)) (ci := 0) (v := .int 5) (C := RJx4a65c) (T := TJx4a65c) (N := 3) hx hb hts inlJx4a65c hown hK hP 0 rfl rfl 2 (by decide) (hts (.fieldLink RJx4a65c 48 "java/util/ArrayList" "size" "I") (inLU_10 (.fieldLink RJx4a65c 48 "java/util/ArrayList" "size" "I") (List.mem_of_getElem? (i := 19) rfl))) (fun _ h9 => h9) rfl dJx4a65c_add_9ea2d_17 ?_
  have hPc := hP.sub (ws' := [(h0, .inr (0, [.int 6, .ref a2, .int 5])), (a1, .inr (12, [.ref st_shelf, .ref st_first, .ref st_second, .ref st_third, .int st_at, .ref st_locks, .int st_mirrors, .int st_fetched, .ref st_wrong, .ref st_offered, .ref st_offeredSums])), (a2, .inl (cA, 10, .inr (.inr (.inr (.inr f)))))]) [0, 1, 2] rfl
  have hDc := hD.sub (ws' := [(h0, .inr (0, [.int 6, .ref a2, .int 5])), (a1, .inr (12, [.ref st_shelf, .ref st_first, .ref st_second, .ref st_third, .int st_at, .ref st_locks, .int st_mirrors, .int st_fetched, .ref st_wrong, .ref st_offered, .ref st_offeredSums])), (a2, .inl (cA, 10, .inr (.inr (.inr (.inr f)))))]) [0, 1, 2] (by decide) rfl
  have hKc := hK.sub (tys' := [(cA, .object "java/lang/Object")]) [0] rfl
  have hFc := va_free (wc := [(h0, .inr (0, [.int 6, .ref a2, .int 5])), (a1, .inr (12, [.ref st_shelf, .ref st_first, .ref st_second, .ref st_third, .int st_at, .ref st_locks, .int st_mirrors, .int st_fetched, .ref st_wrong, .ref st_offered, .ref st_offeredSums])), (a2, .inl (cA, 10, .inr (.inr (.inr (.inr f)))))]) hD hS hA [0, 1, 2] rfl
  refine va_callv (va_runV (As := [.ref a1, .ref a2, .int 5]) (rest := []) ⟨hx, hb, hml, hown, hts⟩ (c_List_put5 l dC dI dA h0 a1 a2 cA f st_shelf st_first st_second st_third st_at st_locks st_mirrors st_fetched st_wrong st_offered st_offeredSums H.size) (cwV 3 hts (gLU_V (inLU_10 (.methodLink RJx4a65c 131 yJx4a65c_add_72be8) (List.mem_of_getElem? (i := 20) rfl)) (inLU_10 (.instanceMethod yJx4a65c_add_72be8) (List.mem_of_getElem? (i := 21) rfl)) (inLU_10 (.selects RJx4a65c yJx4a65c_add_72be8 yJx4a65c_add_72be8) (List.mem_of_getElem? (i := 22) rfl)) (inLU_1 (.initialized RJx4a65c) (List.mem_of_getElem? (i := 23) rfl)) (inLU_10 (.code yJx4a65c_add_72be8 cJx4a65c_add_72be8 4 none) (List.mem_of_getElem? (i := 23) rfl))) rfl rfl rfl (by decide +kernel) ⟨Nat.le_of_ble_eq_true rfl, Nat.le_of_ble_eq_true rfl⟩) ⟨fun a U g mk q => by obtain ⟨q0, q1, qP, qK, qD, qF, qZ⟩ := q; exact ⟨q0, q1, qP, va_K.moved (u := U) (U := U.calling g mk a) (Vm.Alike.refl U.vm) qK, qD, kwF.same (u := U) (U := U.calling g mk a) rfl qF, kwH.moved (u := U) (U := U.calling g mk a) (Vm.Alike.refl U.vm) qZ⟩, va_recv hKc hPc (ci := 0) (q0 := 0) rfl rfl, fun U hU hW => ⟨rfl, by rw [hU], by rw [hU]; exact hPc, va_K.moved hW.alike hKc, hDc.weaken (fun _ _ _ _ => trivial), kwF.warm hW hF, kwH.at hZ hS hFc hW.alike hU⟩⟩ rfl rfl hl.1 rfl (lv_room (Nat.le_of_ble_eq_true rfl)) dJx4a65c_add_9ea2d_20 ⟨Nat.le_of_ble_eq_true rfl, Nat.le_of_ble_eq_true rfl⟩) hS (fun q _ h => hFc q h) hFc (fun u t H1 locs ht hvm hw hB hz1 hk1 hS => ?_)
  obtain ⟨hP1, hK1, hD1⟩ := hB
  rw [ht] at hP1
  have hK1 := va_K.moved hvm.symm hK1
  obtain ⟨hP, hD⟩ := va_join (wr := []) (w1 := [(h0, .inr (0, [.int 6, .ref a2, .int 6])), (a1, .inr (12, [.ref st_shelf, .ref st_first, .ref st_second, .ref st_third, .int st_at, .ref st_locks, .int st_mirrors, .int st_fetched, .ref st_wrong, .ref st_offered, .ref st_offeredSums])), (a2, .inl (cA, 10, .inr (.inr (.inr (.inr (va_up f 5 (some a1)))))))]) hP hD [0, 1, 2] [] rfl rfl (by decide) (by decide) hk1 hFc hP1 hD1
  have hK := hK.app hK1
  generalize H1 = H at hP hS ⊢
  have hK : va_K (dC, dI) vwCl [(cA, .object "java/lang/Object")] s := hK
  have hP : va_P (dC, dI) vwCl [(h0, .inr (0, [.int 6, .ref a2, .int 6])), (a1, .inr (12, [.ref st_shelf, .ref st_first, .ref st_second, .ref st_third, .int st_at, .ref st_locks, .int st_mirrors, .int st_fetched, .ref st_wrong, .ref st_offered, .ref st_offeredSums])), (a2, .inl (cA, 10, .inr (.inr (.inr (.inr (va_up f 5 (some a1)))))))] H := hP
  have hD : va_D A [(h0, .inr (0, [.int 6, .ref a2, .int 6])), (a1, .inr (12, [.ref st_shelf, .ref st_first, .ref st_second, .ref st_third, .int st_at, .ref st_locks, .int st_mirrors, .int st_fetched, .ref st_wrong, .ref st_offered, .ref st_offeredSums])), (a2, .inl (cA, 10, .inr (.inr (.inr (.inr (va_up f 5 (some a1)))))))] := hD
  refine W.widen (k := 0) (n := 0) (Nat.le_of_ble_eq_true rfl) (Nat.le_of_ble_eq_true rfl) ?_
  refine lv_iconst (v := 1) hx hb dJx4a65c_add_9ea2d_23 (by decide) ?_
  have hP9 := hP.sub (ws' := [(h0, .inr (0, [.int 6, .ref a2, .int 6])), (a1, .inr (12, [.ref st_shelf, .ref st_first, .ref st_second, .ref st_third, .int st_at, .ref st_locks, .int st_mirrors, .int st_fetched, .ref st_wrong, .ref st_offered, .ref st_offeredSums])), (a2, .inl (cA, 10, .inr (.inr (.inr (.inr (va_up f 5 (some a1)))))))]) [0, 1, 2] rfl
  have hD9 := hD.sub (ws' := [(h0, .inr (0, [.int 6, .ref a2, .int 6])), (a1, .inr (12, [.ref st_shelf, .ref st_first, .ref st_second, .ref st_third, .int st_at, .ref st_locks, .int st_mirrors, .int st_fetched, .ref st_wrong, .ref st_offered, .ref st_offeredSums])), (a2, .inl (cA, 10, .inr (.inr (.inr (.inr (va_up f 5 (some a1)))))))]) [0, 1, 2] (by decide) rfl
  have hK9 := hK.sub (tys' := []) [] rfl
  exact W.zret (v := 1) hx hb hr rfl (fun t ht hW => ⟨⟨1, (), rfl, rfl, by rw [ht]; exact hP9, va_K.moved hW.alike hK9, hD9⟩, hS.F ht⟩) hS.2.2 dJx4a65c_add_9ea2d_24
set_option maxHeartbeats 4000000 in
set_option maxRecDepth 100000 in
/-- element 6 -/
theorem c_List_put6 (l : Launch) (dC : Nat → ClassId) (dI : Nat → Nat → Nat) (dA : Nat) (h0 : Nat) (a1 : Nat) (a2 : Nat) (cA : ClassId) (f : Nat → Option Nat) (st_shelf : Nat) (st_first : Nat) (st_second : Nat) (st_third : Nat) (st_at : Int32) (st_locks : Nat) (st_mirrors : Int32) (st_fetched : Int32) (st_wrong : Nat) (st_offered : Nat) (st_offeredSums : Nat) (sz : Nat) : Met l yJx4a65c_add_72be8 (.code yJx4a65c_add_72be8 cJx4a65c_add_72be8 4 none :: wsL_law) ({ frames := 0, cells := 0, slots := 0, locals := 0 }) (va_Pc [.ref h0, .ref a1, .ref a2, .int 6] (fun U => U.heap.size = sz ∧ va_P (dC, dI) vwCl [(h0, .inr (0, [.int 7, .ref a2, .int 6])), (a1, .inr (12, [.ref st_shelf, .ref st_first, .ref st_second, .ref st_third, .int st_at, .ref st_locks, .int st_mirrors, .int st_fetched, .ref st_wrong, .ref st_offered, .ref st_offeredSums])), (a2, .inl (cA, 10, .inr (.inr (.inr (.inr f)))))] U.heap ∧ va_K (dC, dI) vwCl [(cA, .object "java/lang/Object")] U ∧ va_D (fun _ => True) [(h0, .inr (0, [.int 7, .ref a2, .int 6])), (a1, .inr (12, [.ref st_shelf, .ref st_first, .ref st_second, .ref st_third, .int st_at, .ref st_locks, .int st_mirrors, .int st_fetched, .ref st_wrong, .ref st_offered, .ref st_offeredSums])), (a2, .inl (cA, 10, .inr (.inr (.inr (.inr f)))))] ∧ kwF U ∧ kwH dA (va_A [(h0, .inr (0, [.int 7, .ref a2, .int 6])), (a1, .inr (12, [.ref st_shelf, .ref st_first, .ref st_second, .ref st_third, .int st_at, .ref st_locks, .int st_mirrors, .int st_fetched, .ref st_wrong, .ref st_offered, .ref st_offeredSums])), (a2, .inl (cA, 10, .inr (.inr (.inr (.inr f)))))] sz) U U.heap)) (va_Qv (fun _ : Unit => True) (fun _ t => va_P (dC, dI) vwCl [(h0, .inr (0, [.int 7, .ref a2, .int 7])), (a1, .inr (12, [.ref st_shelf, .ref st_first, .ref st_second, .ref st_third, .int st_at, .ref st_locks, .int st_mirrors, .int st_fetched, .ref st_wrong, .ref st_offered, .ref st_offeredSums])), (a2, .inl (cA, 10, .inr (.inr (.inr (.inr (va_up f 6 (some a1)))))))] t.heap ∧ va_K (dC, dI) vwCl [] t ∧ va_D (va_A [(h0, .inr (0, [.int 7, .ref a2, .int 6])), (a1, .inr (12, [.ref st_shelf, .ref st_first, .ref st_second, .ref st_third, .int st_at, .ref st_locks, .int st_mirrors, .int st_fetched, .ref st_wrong, .ref st_offered, .ref st_offeredSums])), (a2, .inl (cA, 10, .inr (.inr (.inr (.inr f)))))] sz) [(h0, .inr (0, [.int 7, .ref a2, .int 7])), (a1, .inr (12, [.ref st_shelf, .ref st_first, .ref st_second, .ref st_third, .int st_at, .ref st_locks, .int st_mirrors, .int st_fetched, .ref st_wrong, .ref st_offered, .ref st_offeredSums])), (a2, .inl (cA, 10, .inr (.inr (.inr (.inr (va_up f 6 (some a1)))))))]) (va_A [(h0, .inr (0, [.int 7, .ref a2, .int 6])), (a1, .inr (12, [.ref st_shelf, .ref st_first, .ref st_second, .ref st_third, .int st_at, .ref st_locks, .int st_mirrors, .int st_fetched, .ref st_wrong, .ref st_offered, .ref st_offeredSums])), (a2, .inl (cA, 10, .inr (.inr (.inr (.inr f)))))] sz)) 0 0 (va_A [(h0, .inr (0, [.int 7, .ref a2, .int 6])), (a1, .inr (12, [.ref st_shelf, .ref st_first, .ref st_second, .ref st_third, .int st_at, .ref st_locks, .int st_mirrors, .int st_fetched, .ref st_wrong, .ref st_offered, .ref st_offeredSums])), (a2, .inl (cA, 10, .inr (.inr (.inr (.inr f)))))] sz) := by
  refine Met.ofW (cc := cJx4a65c_add_72be8) (maxL := 4) (ret := none) (by decide) rfl ?_
  intro p e s m args below meth c s₁ B hml hv
  obtain ⟨rfl, hsz, hP, hK, hD0, hF, hZ⟩ := hv
  have hx := B.exec
  have hb := B.bytes
  have hr := B.returns
  have hts0 := atoms_spec (ws := (.code yJx4a65c_add_72be8 cJx4a65c_add_72be8 4 none :: wsL_law)) B.pre
  have hts : ∀ w ∈ wsL_law, w.before _ s = true := fun w h => hts0 w (List.mem_cons_of_mem _ h)
  have hown : s.vm.findClass RJx4a65c = some m.cls := findClass_of_methodNamed B.named
  have hlocks := B.notSynchronized
  have hin : meth.name = "add" := (name_of_methodNamed B.named B.method).1
  subst hsz
  have hD := hD0.self (sz := s.heap.size)
  generalize hAe : va_A [(h0, .inr (0, [.int 7, .ref a2, .int 6])), (a1, .inr (12, [.ref st_shelf, .ref st_first, .ref st_second, .ref st_third, .int st_at, .ref st_locks, .int st_mirrors, .int st_fetched, .ref st_wrong, .ref st_offered, .ref st_offeredSums])), (a2, .inl (cA, 10, .inr (.inr (.inr (.inr f)))))] s.heap.size = A at hD hZ ⊢
  have hA : ∀ q : Nat, s.heap.size ≤ q → A q := fun q h => by rw [← hAe]; exact Or.inr h
  have hS : va_S A s.heap s.heap [] := va_S.rf
  have hP : va_P (dC, dI) vwCl [(h0, .inr (0, [.int 7, .ref a2, .int 6])), (a1, .inr (12, [.ref st_shelf, .ref st_first, .ref st_second, .ref st_third, .int st_at, .ref st_locks, .int st_mirrors, .int st_fetched, .ref st_wrong, .ref st_offered, .ref st_offeredSums])), (a2, .inl (cA, 10, .inr (.inr (.inr (.inr f)))))] s.heap := hP
  have hl := lv_entry ([.ref h0, .ref a1, .ref a2, .int 6]) (n := 4) (Nat.le_of_ble_eq_true rfl)
  rw [lg_entry_eq]
  generalize (lg_sl ([.ref h0, .ref a1, .ref a2, .int 6]) ++ List.replicate (4 - (lg_sl ([.ref h0, .ref a1, .ref a2, .int 6])).length) Slot.unset).toArray = ls at hl ⊢
  have hl : lv_has ls 4 [(0, .ref h0), (1, .ref a1), (2, .ref a2), (3, .int 6)] := hl
  refine lv_iload_n hx hb dJx4a65c_add_72be8_0 rfl (lv_at hl 3 rfl) ?_
  refine lv_aload_n hx hb dJx4a65c_add_72be8_1 rfl (lv_at hl 2 rfl) ?_
  refine va_alen (D := (dC, dI)) (v := 10) hx hb hK hP 2 0 rfl rfl (show Int32.ofNat 10 = 10 from by decide) dJx4a65c_add_72be8_2 ?_
  refine lv_icmp_ne (tgt := 11) hx hb dJx4a65c_add_72be8_3 (by decide) (fun _ => ?_) (fun c1 => absurd c1 (by decide))
  refine lv_aload_n hx hb dJx4a65c_add_72be8_11 rfl (lv_at hl 2 rfl) ?_
  refine lv_iload_n hx hb dJx4a65c_add_72be8_12 rfl (lv_at hl 3 rfl) ?_
  refine lv_aload_n hx hb dJx4a65c_add_72be8_13 rfl (lv_at hl 1 rfl) ?_
  refine va_astqO (D := (dC, dI)) hx hb hK hP hD hS 2 0 1 12 rfl rfl (kw_C_X11 hF) rfl rfl (show vp_in _ _ from by unfold vp_in; decide) dJx4a65c_add_72be8_14 (fun H locs hP hD hS => ?_)
  rw [show (6 : Int32).toNatClampNeg = 6 from by decide] at hP hD
  have hP : va_P (dC, dI) vwCl [(h0, .inr (0, [.int 7, .ref a2, .int 6])), (a1, .inr (12, [.ref st_shelf, .ref st_first, .ref st_second, .ref st_third, .int st_at, .ref st_locks, .int st_mirrors, .int st_fetched, .ref st_wrong, .ref st_offered, .ref st_offeredSums])), (a2, .inl (cA, 10, .inr (.inr (.inr (.inr (va_up f 6 (some a1)))))))] H := hP
  have hD : va_D A [(h0, .inr (0, [.int 7, .ref a2, .int 6])), (a1, .inr (12, [.ref st_shelf, .ref st_first, .ref st_second, .ref st_third, .int st_at, .ref st_locks, .int st_mirrors, .int st_fetched, .ref st_wrong, .ref st_offered, .ref st_offeredSums])), (a2, .inl (cA, 10, .inr (.inr (.inr (.inr (va_up f 6 (some a1)))))))] := hD
  refine lv_aload_n hx hb dJx4a65c_add_72be8_15 rfl (lv_at hl 0 rfl) ?_
  refine lv_iload_n hx hb dJx4a65c_add_72be8_16 rfl (lv_at hl 3 rfl) ?_
  refine lv_iconst (v := 1) hx hb dJx4a65c_add_72be8_17 (by decide) ?_
  refine lv_iadd hx hb dJx4a65c_add_72be8_18 ?_
  refine lv_topi (fun x2 ex2 => ?_)
  obtain rfl : x2 = 7 := ex2.trans (by decide)
  refine va_put (D := (dC, dI)) (ci := 0) (v := .int 7) (ty := .int) (C := RJx4a65c) (T := TJx4a65c) (N := 3) hx hb hts inlJx4a65c tyJx4a65c tyJx4a65c_ok nmJx4a65c hown hK hP hD hS 0 rfl rfl 2 (by decide) (hts (.fieldLink RJx4a65c 48 "java/util/ArrayList" "size" "I") (inLU_10 (.fieldLink RJx4a65c 48 "java/util/ArrayList" "size" "I") (List.mem_of_getElem? (i := 19) rfl))) (fun _ h9 => h9) rfl (tyJx4a65c_ok 2 (by decide)) rfl rfl (Nat.le_of_ble_eq_true rfl) dJx4a65c_add_72be8_19 (fun H locs hP hD hS => ?_)
  have hP : va_P (dC, dI) vwCl [(h0, .inr (0, [.int 7, .ref a2, .int 7])), (a1, .inr (12, [.ref st_shelf, .ref st_first, .ref st_second, .ref st_third, .int st_at, .ref st_locks, .int st_mirrors, .int st_fetched, .ref st_wrong, .ref st_offered, .ref st_offeredSums])), (a2, .inl (cA, 10, .inr (.inr (.inr (.inr (va_up f 6 (some a1)))))))] H := hP
  have hD : va_D A [(h0, .inr (0, [.int 7, .ref a2, .int 7])), (a1, .inr (12, [.ref st_shelf, .ref st_first, .ref st_second, .ref st_third, .int st_at, .ref st_locks, .int st_mirrors, .int st_fetched, .ref st_wrong, .ref st_offered, .ref st_offeredSums])), (a2, .inl (cA, 10, .inr (.inr (.inr (.inr (va_up f 6 (some a1)))))))] := hD
  have hP9 := hP.sub (ws' := [(h0, .inr (0, [.int 7, .ref a2, .int 7])), (a1, .inr (12, [.ref st_shelf, .ref st_first, .ref st_second, .ref st_third, .int st_at, .ref st_locks, .int st_mirrors, .int st_fetched, .ref st_wrong, .ref st_offered, .ref st_offeredSums])), (a2, .inl (cA, 10, .inr (.inr (.inr (.inr (va_up f 6 (some a1)))))))]) [0, 1, 2] rfl
  have hD9 := hD.sub (ws' := [(h0, .inr (0, [.int 7, .ref a2, .int 7])), (a1, .inr (12, [.ref st_shelf, .ref st_first, .ref st_second, .ref st_third, .int st_at, .ref st_locks, .int st_mirrors, .int st_fetched, .ref st_wrong, .ref st_offered, .ref st_offeredSums])), (a2, .inl (cA, 10, .inr (.inr (.inr (.inr (va_up f 6 (some a1)))))))]) [0, 1, 2] (by decide) rfl
  have hK9 := hK.sub (tys' := []) [] rfl
  exact W.vret hx hb hr (fun t ht hW => ⟨⟨(), rfl, trivial, by rw [ht]; exact hP9, va_K.moved hW.alike hK9, hD9⟩, hS.F ht⟩) hS.2.2 dJx4a65c_add_72be8_22
set_option maxHeartbeats 4000000 in
set_option maxRecDepth 100000 in
/-- add(e), element 6 -/
theorem c_List_add6 (l : Launch) (dC : Nat → ClassId) (dI : Nat → Nat → Nat) (dA : Nat) (h0 : Nat) (a1 : Nat) (a2 : Nat) (cA : ClassId) (f : Nat → Option Nat) (st_shelf : Nat) (st_first : Nat) (st_second : Nat) (st_third : Nat) (st_at : Int32) (st_locks : Nat) (st_mirrors : Int32) (st_fetched : Int32) (st_wrong : Nat) (st_offered : Nat) (st_offeredSums : Nat) (sz : Nat) : Met l yJx4a65c_add_9ea2d (.code yJx4a65c_add_9ea2d cJx4a65c_add_9ea2d 2 (some .boolean) :: wsL_law) ({ frames := 1, cells := 0, slots := 0, locals := 23 }) (va_Pc [.ref h0, .ref a1] (fun U => U.heap.size = sz ∧ va_P (dC, dI) vwCl [(h0, .inr (0, [.int 6, .ref a2, .int 6])), (a1, .inr (12, [.ref st_shelf, .ref st_first, .ref st_second, .ref st_third, .int st_at, .ref st_locks, .int st_mirrors, .int st_fetched, .ref st_wrong, .ref st_offered, .ref st_offeredSums])), (a2, .inl (cA, 10, .inr (.inr (.inr (.inr f)))))] U.heap ∧ va_K (dC, dI) vwCl [(cA, .object "java/lang/Object")] U ∧ va_D (fun _ => True) [(h0, .inr (0, [.int 6, .ref a2, .int 6])), (a1, .inr (12, [.ref st_shelf, .ref st_first, .ref st_second, .ref st_third, .int st_at, .ref st_locks, .int st_mirrors, .int st_fetched, .ref st_wrong, .ref st_offered, .ref st_offeredSums])), (a2, .inl (cA, 10, .inr (.inr (.inr (.inr f)))))] ∧ kwF U ∧ kwH dA (va_A [(h0, .inr (0, [.int 6, .ref a2, .int 6])), (a1, .inr (12, [.ref st_shelf, .ref st_first, .ref st_second, .ref st_third, .int st_at, .ref st_locks, .int st_mirrors, .int st_fetched, .ref st_wrong, .ref st_offered, .ref st_offeredSums])), (a2, .inl (cA, 10, .inr (.inr (.inr (.inr f)))))] sz) U U.heap)) (va_Qi (fun (r : Int32) (_ : Unit) => r = 1) (fun _ t => va_P (dC, dI) vwCl [(h0, .inr (0, [.int 7, .ref a2, .int 7])), (a1, .inr (12, [.ref st_shelf, .ref st_first, .ref st_second, .ref st_third, .int st_at, .ref st_locks, .int st_mirrors, .int st_fetched, .ref st_wrong, .ref st_offered, .ref st_offeredSums])), (a2, .inl (cA, 10, .inr (.inr (.inr (.inr (va_up f 6 (some a1)))))))] t.heap ∧ va_K (dC, dI) vwCl [] t ∧ va_D (va_A [(h0, .inr (0, [.int 6, .ref a2, .int 6])), (a1, .inr (12, [.ref st_shelf, .ref st_first, .ref st_second, .ref st_third, .int st_at, .ref st_locks, .int st_mirrors, .int st_fetched, .ref st_wrong, .ref st_offered, .ref st_offeredSums])), (a2, .inl (cA, 10, .inr (.inr (.inr (.inr f)))))] sz) [(h0, .inr (0, [.int 7, .ref a2, .int 7])), (a1, .inr (12, [.ref st_shelf, .ref st_first, .ref st_second, .ref st_third, .int st_at, .ref st_locks, .int st_mirrors, .int st_fetched, .ref st_wrong, .ref st_offered, .ref st_offeredSums])), (a2, .inl (cA, 10, .inr (.inr (.inr (.inr (va_up f 6 (some a1)))))))]) (va_A [(h0, .inr (0, [.int 6, .ref a2, .int 6])), (a1, .inr (12, [.ref st_shelf, .ref st_first, .ref st_second, .ref st_third, .int st_at, .ref st_locks, .int st_mirrors, .int st_fetched, .ref st_wrong, .ref st_offered, .ref st_offeredSums])), (a2, .inl (cA, 10, .inr (.inr (.inr (.inr f)))))] sz)) 0 0 (va_A [(h0, .inr (0, [.int 6, .ref a2, .int 6])), (a1, .inr (12, [.ref st_shelf, .ref st_first, .ref st_second, .ref st_third, .int st_at, .ref st_locks, .int st_mirrors, .int st_fetched, .ref st_wrong, .ref st_offered, .ref st_offeredSums])), (a2, .inl (cA, 10, .inr (.inr (.inr (.inr f)))))] sz) := by
  refine Met.ofW (cc := cJx4a65c_add_9ea2d) (maxL := 2) (ret := (some .boolean)) (by decide) rfl ?_
  intro p e s m args below meth c s₁ B hml hv
  obtain ⟨rfl, hsz, hP, hK, hD0, hF, hZ⟩ := hv
  have hx := B.exec
  have hb := B.bytes
  have hr := B.returns
  have hts0 := atoms_spec (ws := (.code yJx4a65c_add_9ea2d cJx4a65c_add_9ea2d 2 (some .boolean) :: wsL_law)) B.pre
  have hts : ∀ w ∈ wsL_law, w.before _ s = true := fun w h => hts0 w (List.mem_cons_of_mem _ h)
  have hown : s.vm.findClass RJx4a65c = some m.cls := findClass_of_methodNamed B.named
  have hlocks := B.notSynchronized
  have hin : meth.name = "add" := (name_of_methodNamed B.named B.method).1
  subst hsz
  have hD := hD0.self (sz := s.heap.size)
  generalize hAe : va_A [(h0, .inr (0, [.int 6, .ref a2, .int 6])), (a1, .inr (12, [.ref st_shelf, .ref st_first, .ref st_second, .ref st_third, .int st_at, .ref st_locks, .int st_mirrors, .int st_fetched, .ref st_wrong, .ref st_offered, .ref st_offeredSums])), (a2, .inl (cA, 10, .inr (.inr (.inr (.inr f)))))] s.heap.size = A at hD hZ ⊢
  have hA : ∀ q : Nat, s.heap.size ≤ q → A q := fun q h => by rw [← hAe]; exact Or.inr h
  have hS : va_S A s.heap s.heap [] := va_S.rf
  have hP : va_P (dC, dI) vwCl [(h0, .inr (0, [.int 6, .ref a2, .int 6])), (a1, .inr (12, [.ref st_shelf, .ref st_first, .ref st_second, .ref st_third, .int st_at, .ref st_locks, .int st_mirrors, .int st_fetched, .ref st_wrong, .ref st_offered, .ref st_offeredSums])), (a2, .inl (cA, 10, .inr (.inr (.inr (.inr f)))))] s.heap := hP
  have hl := lv_entry ([.ref h0, .ref a1]) (n := 2) (Nat.le_of_ble_eq_true rfl)
  rw [lg_entry_eq]
  generalize (lg_sl ([.ref h0, .ref a1]) ++ List.replicate (2 - (lg_sl ([.ref h0, .ref a1])).length) Slot.unset).toArray = ls at hl ⊢
  have hl : lv_has ls 2 [(0, .ref h0), (1, .ref a1)] := hl
  refine lv_aload_n hx hb dJx4a65c_add_9ea2d_0 rfl (lv_at hl 0 rfl) ?_
  refine lv_dup hx hb dJx4a65c_add_9ea2d_1 rfl ?_
  refine va_get (D := (dC, dI)) (ci := 0) (v := .int 6) (C := RJx4a65c) (T := TJx4a65c) (N := 3) hx hb hts inlJx4a65c hown hK hP 0 rfl rfl 0 (by decide) (hts (.fieldLink RJx4a65c 63 "java/util/ArrayList" "modCount" "I") (inLU_10 (.fieldLink RJx4a65c 63 "java/util/ArrayList" "modCount" "I") (List.mem_of_getElem? (i := 17) rfl))) (fun x9 h9 => u_same (hts (.sameField "java/util/ArrayList" "java/util/AbstractList" "modCount" "I") (inLU_10 (.sameField "java/util/ArrayList" "java/util/AbstractList" "modCount" "I") (List.mem_of_getElem? (i := 18) rfl))) x9 h9) rfl dJx4a65c_add_9ea2d_2 ?_
  refine lv_iconst (v := 1) hx hb dJx4a65c_add_9ea2d_5 (by decide) ?_
  refine lv_iadd hx hb dJx4a65c_add_9ea2d_6 ?_
  refine lv_topi (fun x1 ex1 => ?_)
  obtain rfl : x1 = 7 := ex1.trans (by decide)
  refine va_put (D := (dC, dI)) (ci := 0) (v := .int 7) (ty := .int) (C := RJx4a65c) (T := TJx4a65c) (N := 3) hx hb hts inlJx4a65c tyJx4a65c tyJx4a65c_ok nmJx4a65c hown hK hP hD hS 0 rfl rfl 0 (by decide) (hts (.fieldLink RJx4a65c 63 "java/util/ArrayList" "modCount" "I") (inLU_10 (.fieldLink RJx4a65c 63 "java/util/ArrayList" "modCount" "I") (List.mem_of_getElem? (i := 17) rfl))) (fun x9 h9 => u_same (hts (.sameField "java/util/ArrayList" "java/util/AbstractList" "modCount" "I") (inLU_10 (.sameField "java/util/ArrayList" "java/util/AbstractList" "modCount" "I") (List.mem_of_getElem? (i := 18) rfl))) x9 h9) rfl (tyJx4a65c_ok 0 (by decide)) rfl rfl (Nat.le_of_ble_eq_true rfl) dJx4a65c_add_9ea2d_7 (fun H locs hP hD hS => ?_)
  have hP : va_P (dC, dI) vwCl [(h0, .inr (0, [.int 7, .ref a2, .int 6])), (a1, .inr (12, [.ref st_shelf, .ref st_first, .ref st_second, .ref st_third, .int st_at, .ref st_locks, .int st_mirrors, .int st_fetched, .ref st_wrong, .ref st_offered, .ref st_offeredSums])), (a2, .inl (cA, 10, .inr (.inr (.inr (.inr f)))))] H := hP
  have hD : va_D A [(h0, .inr (0, [.int 7, .ref a2, .int 6])), (a1, .inr (12, [.ref st_shelf, .ref st_first, .ref st_second, .ref st_third, .int st_at, .ref st_locks, .int st_mirrors, .int st_fetched, .ref st_wrong, .ref st_offered, .ref st_offeredSums])), (a2, .inl (cA, 10, .inr (.inr (.inr (.inr f)))))] := hD
  refine lv_aload_n hx hb dJx4a65c_add_9ea2d_10 rfl (lv_at hl 0 rfl) ?_
  refine lv_aload_n hx hb dJx4a65c_add_9ea2d_11 rfl (lv_at hl 1 rfl) ?_
  refine lv_aload_n hx hb dJx4a65c_add_9ea2d_12 rfl (lv_at hl 0 rfl) ?_
  refine va_get (D := (dC, dI)) (ci := 0) (v := .ref a2) (C := RJx4a65c) (T := TJx4a65c) (N := 3) hx hb hts inlJx4a65c hown hK hP 0 rfl rfl 1 (by decide) (hts (.fieldLink RJx4a65c 9 "java/util/ArrayList" "elementData" "[Ljava/lang/Object;") (inLU_6 (.fieldLink RJx4a65c 9 "java/util/ArrayList" "elementData" "[Ljava/lang/Object;") (List.mem_of_getElem? (i := 11) rfl))) (fun _ h9 => h9) rfl dJx4a65c_add_9ea2d_13 ?_
  refine lv_aload_n hx hb dJx4a65c_add_9ea2d_16 rfl (lv_at hl 0 rfl) ?_
  refine va_get (D := (dC, dI)) (ci := 0) (v := .int 6) (C := RJx4a65c) (T := TJx4a65c) (N := 3) hx hb hts inlJx4a65c hown hK hP 0 rfl rfl 2 (by decide) (hts (.fieldLink RJx4a65c 48 "java/util/ArrayList" "size" "I") (inLU_10 (.fieldLink RJx4a65c 48 "java/util/ArrayList" "size" "I") (List.mem_of_getElem? (i := 19) rfl))) (fun _ h9 => h9) rfl dJx4a65c_add_9ea2d_17 ?_
  have hPc := hP.sub (ws' := [(h0, .inr (0, [.int 7, .ref a2, .int 6])), (a1, .inr (12, [.ref st_shelf, .ref st_first, .ref st_second, .ref st_third, .int st_at, .ref st_locks, .int st_mirrors, .int st_fetched, .ref st_wrong, .ref st_offered, .ref st_offeredSums])), (a2, .inl (cA, 10, .inr (.inr (.inr (.inr f)))))]) [0, 1, 2] rfl
  have hDc := hD.sub (ws' := [(h0, .inr (0, [.int 7, .ref a2, .int 6])), (a1, .inr (12, [.ref st_shelf, .ref st_first, .ref st_second, .ref st_third, .int st_at, .ref st_locks, .int st_mirrors, .int st_fetched, .ref st_wrong, .ref st_offered, .ref st_offeredSums])), (a2, .inl (cA, 10, .inr (.inr (.inr (.inr f)))))]) [0, 1, 2] (by decide) rfl
  have hKc := hK.sub (tys' := [(cA, .object "java/lang/Object")]) [0] rfl
  have hFc := va_free (wc := [(h0, .inr (0, [.int 7, .ref a2, .int 6])), (a1, .inr (12, [.ref st_shelf, .ref st_first, .ref st_second, .ref st_third, .int st_at, .ref st_locks, .int st_mirrors, .int st_fetched, .ref st_wrong, .ref st_offered, .ref st_offeredSums])), (a2, .inl (cA, 10, .inr (.inr (.inr (.inr f)))))]) hD hS hA [0, 1, 2] rfl
  refine va_callv (va_runV (As := [.ref a1, .ref a2, .int 6]) (rest := []) ⟨hx, hb, hml, hown, hts⟩ (c_List_put6 l dC dI dA h0 a1 a2 cA f st_shelf st_first st_second st_third st_at st_locks st_mirrors st_fetched st_wrong st_offered st_offeredSums H.size) (cwV 3 hts (gLU_V (inLU_10 (.methodLink RJx4a65c 131 yJx4a65c_add_72be8) (List.mem_of_getElem? (i := 20) rfl)) (inLU_10 (.instanceMethod yJx4a65c_add_72be8) (List.mem_of_getElem? (i := 21) rfl)) (inLU_10 (.selects RJx4a65c yJx4a65c_add_72be8 yJx4a65c_add_72be8) (List.mem_of_getElem? (i := 22) rfl)) (inLU_1 (.initialized RJx4a65c) (List.mem_of_getElem? (i := 23) rfl)) (inLU_10 (.code yJx4a65c_add_72be8 cJx4a65c_add_72be8 4 none) (List.mem_of_getElem? (i := 23) rfl))) rfl rfl rfl (by decide +kernel) ⟨Nat.le_of_ble_eq_true rfl, Nat.le_of_ble_eq_true rfl⟩) ⟨fun a U g mk q => by obtain ⟨q0, q1, qP, qK, qD, qF, qZ⟩ := q; exact ⟨q0, q1, qP, va_K.moved (u := U) (U := U.calling g mk a) (Vm.Alike.refl U.vm) qK, qD, kwF.same (u := U) (U := U.calling g mk a) rfl qF, kwH.moved (u := U) (U := U.calling g mk a) (Vm.Alike.refl U.vm) qZ⟩, va_recv hKc hPc (ci := 0) (q0 := 0) rfl rfl, fun U hU hW => ⟨rfl, by rw [hU], by rw [hU]; exact hPc, va_K.moved hW.alike hKc, hDc.weaken (fun _ _ _ _ => trivial), kwF.warm hW hF, kwH.at hZ hS hFc hW.alike hU⟩⟩ rfl rfl hl.1 rfl (lv_room (Nat.le_of_ble_eq_true rfl)) dJx4a65c_add_9ea2d_20 ⟨Nat.le_of_ble_eq_true rfl, Nat.le_of_ble_eq_true rfl⟩) hS (fun q _ h => hFc q h) hFc (fun u t H1 locs ht hvm hw hB hz1 hk1 hS => ?_)
  obtain ⟨hP1, hK1, hD1⟩ := hB
  rw [ht] at hP1
  have hK1 := va_K.moved hvm.symm hK1
  obtain ⟨hP, hD⟩ := va_join (wr := []) (w1 := [(h0, .inr (0, [.int 7, .ref a2, .int 7])), (a1, .inr (12, [.ref st_shelf, .ref st_first, .ref st_second, .ref st_third, .int st_at, .ref st_locks, .int st_mirrors, .int st_fetched, .ref st_wrong, .ref st_offered, .ref st_offeredSums])), (a2, .inl (cA, 10, .inr (.inr (.inr (.inr (va_up f 6 (some a1)))))))]) hP hD [0, 1, 2] [] rfl rfl (by decide) (by decide) hk1 hFc hP1 hD1
  have hK := hK.app hK1
  generalize H1 = H at hP hS ⊢
  have hK : va_K (dC, dI) vwCl [(cA, .object "java/lang/Object")] s := hK
  have hP : va_P (dC, dI) vwCl [(h0, .inr (0, [.int 7, .ref a2, .int 7])), (a1, .inr (12, [.ref st_shelf, .ref st_first, .ref st_second, .ref st_third, .int st_at, .ref st_locks, .int st_mirrors, .int st_fetched, .ref st_wrong, .ref st_offered, .ref st_offeredSums])), (a2, .inl (cA, 10, .inr (.inr (.inr (.inr (va_up f 6 (some a1)))))))] H := hP
  have hD : va_D A [(h0, .inr (0, [.int 7, .ref a2, .int 7])), (a1, .inr (12, [.ref st_shelf, .ref st_first, .ref st_second, .ref st_third, .int st_at, .ref st_locks, .int st_mirrors, .int st_fetched, .ref st_wrong, .ref st_offered, .ref st_offeredSums])), (a2, .inl (cA, 10, .inr (.inr (.inr (.inr (va_up f 6 (some a1)))))))] := hD
  refine W.widen (k := 0) (n := 0) (Nat.le_of_ble_eq_true rfl) (Nat.le_of_ble_eq_true rfl) ?_
  refine lv_iconst (v := 1) hx hb dJx4a65c_add_9ea2d_23 (by decide) ?_
  have hP9 := hP.sub (ws' := [(h0, .inr (0, [.int 7, .ref a2, .int 7])), (a1, .inr (12, [.ref st_shelf, .ref st_first, .ref st_second, .ref st_third, .int st_at, .ref st_locks, .int st_mirrors, .int st_fetched, .ref st_wrong, .ref st_offered, .ref st_offeredSums])), (a2, .inl (cA, 10, .inr (.inr (.inr (.inr (va_up f 6 (some a1)))))))]) [0, 1, 2] rfl
  have hD9 := hD.sub (ws' := [(h0, .inr (0, [.int 7, .ref a2, .int 7])), (a1, .inr (12, [.ref st_shelf, .ref st_first, .ref st_second, .ref st_third, .int st_at, .ref st_locks, .int st_mirrors, .int st_fetched, .ref st_wrong, .ref st_offered, .ref st_offeredSums])), (a2, .inl (cA, 10, .inr (.inr (.inr (.inr (va_up f 6 (some a1)))))))]) [0, 1, 2] (by decide) rfl
  have hK9 := hK.sub (tys' := []) [] rfl
  exact W.zret (v := 1) hx hb hr rfl (fun t ht hW => ⟨⟨1, (), rfl, rfl, by rw [ht]; exact hP9, va_K.moved hW.alike hK9, hD9⟩, hS.F ht⟩) hS.2.2 dJx4a65c_add_9ea2d_24
set_option maxHeartbeats 4000000 in
set_option maxRecDepth 100000 in
/-- element 7 -/
theorem c_List_put7 (l : Launch) (dC : Nat → ClassId) (dI : Nat → Nat → Nat) (dA : Nat) (h0 : Nat) (a1 : Nat) (a2 : Nat) (cA : ClassId) (f : Nat → Option Nat) (st_shelf : Nat) (st_first : Nat) (st_second : Nat) (st_third : Nat) (st_at : Int32) (st_locks : Nat) (st_mirrors : Int32) (st_fetched : Int32) (st_wrong : Nat) (st_offered : Nat) (st_offeredSums : Nat) (sz : Nat) : Met l yJx4a65c_add_72be8 (.code yJx4a65c_add_72be8 cJx4a65c_add_72be8 4 none :: wsL_law) ({ frames := 0, cells := 0, slots := 0, locals := 0 }) (va_Pc [.ref h0, .ref a1, .ref a2, .int 7] (fun U => U.heap.size = sz ∧ va_P (dC, dI) vwCl [(h0, .inr (0, [.int 8, .ref a2, .int 7])), (a1, .inr (12, [.ref st_shelf, .ref st_first, .ref st_second, .ref st_third, .int st_at, .ref st_locks, .int st_mirrors, .int st_fetched, .ref st_wrong, .ref st_offered, .ref st_offeredSums])), (a2, .inl (cA, 10, .inr (.inr (.inr (.inr f)))))] U.heap ∧ va_K (dC, dI) vwCl [(cA, .object "java/lang/Object")] U ∧ va_D (fun _ => True) [(h0, .inr (0, [.int 8, .ref a2, .int 7])), (a1, .inr (12, [.ref st_shelf, .ref st_first, .ref st_second, .ref st_third, .int st_at, .ref st_locks, .int st_mirrors, .int st_fetched, .ref st_wrong, .ref st_offered, .ref st_offeredSums])), (a2, .inl (cA, 10, .inr (.inr (.inr (.inr f)))))] ∧ kwF U ∧ kwH dA (va_A [(h0, .inr (0, [.int 8, .ref a2, .int 7])), (a1, .inr (12, [.ref st_shelf, .ref st_first, .ref st_second, .ref st_third, .int st_at, .ref st_locks, .int st_mirrors, .int st_fetched, .ref st_wrong, .ref st_offered, .ref st_offeredSums])), (a2, .inl (cA, 10, .inr (.inr (.inr (.inr f)))))] sz) U U.heap)) (va_Qv (fun _ : Unit => True) (fun _ t => va_P (dC, dI) vwCl [(h0, .inr (0, [.int 8, .ref a2, .int 8])), (a1, .inr (12, [.ref st_shelf, .ref st_first, .ref st_second, .ref st_third, .int st_at, .ref st_locks, .int st_mirrors, .int st_fetched, .ref st_wrong, .ref st_offered, .ref st_offeredSums])), (a2, .inl (cA, 10, .inr (.inr (.inr (.inr (va_up f 7 (some a1)))))))] t.heap ∧ va_K (dC, dI) vwCl [] t ∧ va_D (va_A [(h0, .inr (0, [.int 8, .ref a2, .int 7])), (a1, .inr (12, [.ref st_shelf, .ref st_first, .ref st_second, .ref st_third, .int st_at, .ref st_locks, .int st_mirrors, .int st_fetched, .ref st_wrong, .ref st_offered, .ref st_offeredSums])), (a2, .inl (cA, 10, .inr (.inr (.inr (.inr f)))))] sz) [(h0, .inr (0, [.int 8, .ref a2, .int 8])), (a1, .inr (12, [.ref st_shelf, .ref st_first, .ref st_second, .ref st_third, .int st_at, .ref st_locks, .int st_mirrors, .int st_fetched, .ref st_wrong, .ref st_offered, .ref st_offeredSums])), (a2, .inl (cA, 10, .inr (.inr (.inr (.inr (va_up f 7 (some a1)))))))]) (va_A [(h0, .inr (0, [.int 8, .ref a2, .int 7])), (a1, .inr (12, [.ref st_shelf, .ref st_first, .ref st_second, .ref st_third, .int st_at, .ref st_locks, .int st_mirrors, .int st_fetched, .ref st_wrong, .ref st_offered, .ref st_offeredSums])), (a2, .inl (cA, 10, .inr (.inr (.inr (.inr f)))))] sz)) 0 0 (va_A [(h0, .inr (0, [.int 8, .ref a2, .int 7])), (a1, .inr (12, [.ref st_shelf, .ref st_first, .ref st_second, .ref st_third, .int st_at, .ref st_locks, .int st_mirrors, .int st_fetched, .ref st_wrong, .ref st_offered, .ref st_offeredSums])), (a2, .inl (cA, 10, .inr (.inr (.inr (.inr f)))))] sz) := by
  refine Met.ofW (cc := cJx4a65c_add_72be8) (maxL := 4) (ret := none) (by decide) rfl ?_
  intro p e s m args below meth c s₁ B hml hv
  obtain ⟨rfl, hsz, hP, hK, hD0, hF, hZ⟩ := hv
  have hx := B.exec
  have hb := B.bytes
  have hr := B.returns
  have hts0 := atoms_spec (ws := (.code yJx4a65c_add_72be8 cJx4a65c_add_72be8 4 none :: wsL_law)) B.pre
  have hts : ∀ w ∈ wsL_law, w.before _ s = true := fun w h => hts0 w (List.mem_cons_of_mem _ h)
  have hown : s.vm.findClass RJx4a65c = some m.cls := findClass_of_methodNamed B.named
  have hlocks := B.notSynchronized
  have hin : meth.name = "add" := (name_of_methodNamed B.named B.method).1
  subst hsz
  have hD := hD0.self (sz := s.heap.size)
  generalize hAe : va_A [(h0, .inr (0, [.int 8, .ref a2, .int 7])), (a1, .inr (12, [.ref st_shelf, .ref st_first, .ref st_second, .ref st_third, .int st_at, .ref st_locks, .int st_mirrors, .int st_fetched, .ref st_wrong, .ref st_offered, .ref st_offeredSums])), (a2, .inl (cA, 10, .inr (.inr (.inr (.inr f)))))] s.heap.size = A at hD hZ ⊢
  have hA : ∀ q : Nat, s.heap.size ≤ q → A q := fun q h => by rw [← hAe]; exact Or.inr h
  have hS : va_S A s.heap s.heap [] := va_S.rf
  have hP : va_P (dC, dI) vwCl [(h0, .inr (0, [.int 8, .ref a2, .int 7])), (a1, .inr (12, [.ref st_shelf, .ref st_first, .ref st_second, .ref st_third, .int st_at, .ref st_locks, .int st_mirrors, .int st_fetched, .ref st_wrong, .ref st_offered, .ref st_offeredSums])), (a2, .inl (cA, 10, .inr (.inr (.inr (.inr f)))))] s.heap := hP
  have hl := lv_entry ([.ref h0, .ref a1, .ref a2, .int 7]) (n := 4) (Nat.le_of_ble_eq_true rfl)
  rw [lg_entry_eq]
  generalize (lg_sl ([.ref h0, .ref a1, .ref a2, .int 7]) ++ List.replicate (4 - (lg_sl ([.ref h0, .ref a1, .ref a2, .int 7])).length) Slot.unset).toArray = ls at hl ⊢
  have hl : lv_has ls 4 [(0, .ref h0), (1, .ref a1), (2, .ref a2), (3, .int 7)] := hl
  refine lv_iload_n hx hb dJx4a65c_add_72be8_0 rfl (lv_at hl 3 rfl) ?_
  refine lv_aload_n hx hb dJx4a65c_add_72be8_1 rfl (lv_at hl 2 rfl) ?_
  refine va_alen (D := (dC, dI)) (v := 10) hx hb hK hP 2 0 rfl rfl (show Int32.ofNat 10 = 10 from by decide) dJx4a65c_add_72be8_2 ?_
  refine lv_icmp_ne (tgt := 11) hx hb dJx4a65c_add_72be8_3 (by decide) (fun _ => ?_) (fun c1 => absurd c1 (by decide))
  refine lv_aload_n hx hb dJx4a65c_add_72be8_11 rfl (lv_at hl 2 rfl) ?_
  refine lv_iload_n hx hb dJx4a65c_add_72be8_12 rfl (lv_at hl 3 rfl) ?_
  refine lv_aload_n hx hb dJx4a65c_add_72be8_13 rfl (lv_at hl 1 rfl) ?_
  refine va_astqO (D := (dC, dI)) hx hb hK hP hD hS 2 0 1 12 rfl rfl (kw_C_X11 hF) rfl rfl (show vp_in _ _ from by unfold vp_in; decide) dJx4a65c_add_72be8_14 (fun H locs hP hD hS => ?_)
  rw [show (7 : Int32).toNatClampNeg = 7 from by decide] at hP hD
  have hP : va_P (dC, dI) vwCl [(h0, .inr (0, [.int 8, .ref a2, .int 7])), (a1, .inr (12, [.ref st_shelf, .ref st_first, .ref st_second, .ref st_third, .int st_at, .ref st_locks, .int st_mirrors, .int st_fetched, .ref st_wrong, .ref st_offered, .ref st_offeredSums])), (a2, .inl (cA, 10, .inr (.inr (.inr (.inr (va_up f 7 (some a1)))))))] H := hP
  have hD : va_D A [(h0, .inr (0, [.int 8, .ref a2, .int 7])), (a1, .inr (12, [.ref st_shelf, .ref st_first, .ref st_second, .ref st_third, .int st_at, .ref st_locks, .int st_mirrors, .int st_fetched, .ref st_wrong, .ref st_offered, .ref st_offeredSums])), (a2, .inl (cA, 10, .inr (.inr (.inr (.inr (va_up f 7 (some a1)))))))] := hD
  refine lv_aload_n hx hb dJx4a65c_add_72be8_15 rfl (lv_at hl 0 rfl) ?_
  refine lv_iload_n hx hb dJx4a65c_add_72be8_16 rfl (lv_at hl 3 rfl) ?_
  refine lv_iconst (v := 1) hx hb dJx4a65c_add_72be8_17 (by decide) ?_
  refine lv_iadd hx hb dJx4a65c_add_72be8_18 ?_
  refine lv_topi (fun x2 ex2 => ?_)
  obtain rfl : x2 = 8 := ex2.trans (by decide)
  refine va_put (D := (dC, dI)) (ci := 0) (v := .int 8) (ty := .int) (C := RJx4a65c) (T := TJx4a65c) (N := 3) hx hb hts inlJx4a65c tyJx4a65c tyJx4a65c_ok nmJx4a65c hown hK hP hD hS 0 rfl rfl 2 (by decide) (hts (.fieldLink RJx4a65c 48 "java/util/ArrayList" "size" "I") (inLU_10 (.fieldLink RJx4a65c 48 "java/util/ArrayList" "size" "I") (List.mem_of_getElem? (i := 19) rfl))) (fun _ h9 => h9) rfl (tyJx4a65c_ok 2 (by decide)) rfl rfl (Nat.le_of_ble_eq_true rfl) dJx4a65c_add_72be8_19 (fun H locs hP hD hS => ?_)
  have hP : va_P (dC, dI) vwCl [(h0, .inr (0, [.int 8, .ref a2, .int 8])), (a1, .inr (12, [.ref st_shelf, .ref st_first, .ref st_second, .ref st_third, .int st_at, .ref st_locks, .int st_mirrors, .int st_fetched, .ref st_wrong, .ref st_offered, .ref st_offeredSums])), (a2, .inl (cA, 10, .inr (.inr (.inr (.inr (va_up f 7 (some a1)))))))] H := hP
  have hD : va_D A [(h0, .inr (0, [.int 8, .ref a2, .int 8])), (a1, .inr (12, [.ref st_shelf, .ref st_first, .ref st_second, .ref st_third, .int st_at, .ref st_locks, .int st_mirrors, .int st_fetched, .ref st_wrong, .ref st_offered, .ref st_offeredSums])), (a2, .inl (cA, 10, .inr (.inr (.inr (.inr (va_up f 7 (some a1)))))))] := hD
  have hP9 := hP.sub (ws' := [(h0, .inr (0, [.int 8, .ref a2, .int 8])), (a1, .inr (12, [.ref st_shelf, .ref st_first, .ref st_second, .ref st_third, .int st_at, .ref st_locks, .int st_mirrors, .int st_fetched, .ref st_wrong, .ref st_offered, .ref st_offeredSums])), (a2, .inl (cA, 10, .inr (.inr (.inr (.inr (va_up f 7 (some a1)))))))]) [0, 1, 2] rfl
  have hD9 := hD.sub (ws' := [(h0, .inr (0, [.int 8, .ref a2, .int 8])), (a1, .inr (12, [.ref st_shelf, .ref st_first, .ref st_second, .ref st_third, .int st_at, .ref st_locks, .int st_mirrors, .int st_fetched, .ref st_wrong, .ref st_offered, .ref st_offeredSums])), (a2, .inl (cA, 10, .inr (.inr (.inr (.inr (va_up f 7 (some a1)))))))]) [0, 1, 2] (by decide) rfl
  have hK9 := hK.sub (tys' := []) [] rfl
  exact W.vret hx hb hr (fun t ht hW => ⟨⟨(), rfl, trivial, by rw [ht]; exact hP9, va_K.moved hW.alike hK9, hD9⟩, hS.F ht⟩) hS.2.2 dJx4a65c_add_72be8_22
set_option maxHeartbeats 4000000 in
set_option maxRecDepth 100000 in
/-- add(e), element 7 -/
theorem c_List_add7 (l : Launch) (dC : Nat → ClassId) (dI : Nat → Nat → Nat) (dA : Nat) (h0 : Nat) (a1 : Nat) (a2 : Nat) (cA : ClassId) (f : Nat → Option Nat) (st_shelf : Nat) (st_first : Nat) (st_second : Nat) (st_third : Nat) (st_at : Int32) (st_locks : Nat) (st_mirrors : Int32) (st_fetched : Int32) (st_wrong : Nat) (st_offered : Nat) (st_offeredSums : Nat) (sz : Nat) : Met l yJx4a65c_add_9ea2d (.code yJx4a65c_add_9ea2d cJx4a65c_add_9ea2d 2 (some .boolean) :: wsL_law) ({ frames := 1, cells := 0, slots := 0, locals := 23 }) (va_Pc [.ref h0, .ref a1] (fun U => U.heap.size = sz ∧ va_P (dC, dI) vwCl [(h0, .inr (0, [.int 7, .ref a2, .int 7])), (a1, .inr (12, [.ref st_shelf, .ref st_first, .ref st_second, .ref st_third, .int st_at, .ref st_locks, .int st_mirrors, .int st_fetched, .ref st_wrong, .ref st_offered, .ref st_offeredSums])), (a2, .inl (cA, 10, .inr (.inr (.inr (.inr f)))))] U.heap ∧ va_K (dC, dI) vwCl [(cA, .object "java/lang/Object")] U ∧ va_D (fun _ => True) [(h0, .inr (0, [.int 7, .ref a2, .int 7])), (a1, .inr (12, [.ref st_shelf, .ref st_first, .ref st_second, .ref st_third, .int st_at, .ref st_locks, .int st_mirrors, .int st_fetched, .ref st_wrong, .ref st_offered, .ref st_offeredSums])), (a2, .inl (cA, 10, .inr (.inr (.inr (.inr f)))))] ∧ kwF U ∧ kwH dA (va_A [(h0, .inr (0, [.int 7, .ref a2, .int 7])), (a1, .inr (12, [.ref st_shelf, .ref st_first, .ref st_second, .ref st_third, .int st_at, .ref st_locks, .int st_mirrors, .int st_fetched, .ref st_wrong, .ref st_offered, .ref st_offeredSums])), (a2, .inl (cA, 10, .inr (.inr (.inr (.inr f)))))] sz) U U.heap)) (va_Qi (fun (r : Int32) (_ : Unit) => r = 1) (fun _ t => va_P (dC, dI) vwCl [(h0, .inr (0, [.int 8, .ref a2, .int 8])), (a1, .inr (12, [.ref st_shelf, .ref st_first, .ref st_second, .ref st_third, .int st_at, .ref st_locks, .int st_mirrors, .int st_fetched, .ref st_wrong, .ref st_offered, .ref st_offeredSums])), (a2, .inl (cA, 10, .inr (.inr (.inr (.inr (va_up f 7 (some a1)))))))] t.heap ∧ va_K (dC, dI) vwCl [] t ∧ va_D (va_A [(h0, .inr (0, [.int 7, .ref a2, .int 7])), (a1, .inr (12, [.ref st_shelf, .ref st_first, .ref st_second, .ref st_third, .int st_at, .ref st_locks, .int st_mirrors, .int st_fetched, .ref st_wrong, .ref st_offered, .ref st_offeredSums])), (a2, .inl (cA, 10, .inr (.inr (.inr (.inr f)))))] sz) [(h0, .inr (0, [.int 8, .ref a2, .int 8])), (a1, .inr (12, [.ref st_shelf, .ref st_first, .ref st_second, .ref st_third, .int st_at, .ref st_locks, .int st_mirrors, .int st_fetched, .ref st_wrong, .ref st_offered, .ref st_offeredSums])), (a2, .inl (cA, 10, .inr (.inr (.inr (.inr (va_up f 7 (some a1)))))))]) (va_A [(h0, .inr (0, [.int 7, .ref a2, .int 7])), (a1, .inr (12, [.ref st_shelf, .ref st_first, .ref st_second, .ref st_third, .int st_at, .ref st_locks, .int st_mirrors, .int st_fetched, .ref st_wrong, .ref st_offered, .ref st_offeredSums])), (a2, .inl (cA, 10, .inr (.inr (.inr (.inr f)))))] sz)) 0 0 (va_A [(h0, .inr (0, [.int 7, .ref a2, .int 7])), (a1, .inr (12, [.ref st_shelf, .ref st_first, .ref st_second, .ref st_third, .int st_at, .ref st_locks, .int st_mirrors, .int st_fetched, .ref st_wrong, .ref st_offered, .ref st_offeredSums])), (a2, .inl (cA, 10, .inr (.inr (.inr (.inr f)))))] sz) := by
  refine Met.ofW (cc := cJx4a65c_add_9ea2d) (maxL := 2) (ret := (some .boolean)) (by decide) rfl ?_
  intro p e s m args below meth c s₁ B hml hv
  obtain ⟨rfl, hsz, hP, hK, hD0, hF, hZ⟩ := hv
  have hx := B.exec
  have hb := B.bytes
  have hr := B.returns
  have hts0 := atoms_spec (ws := (.code yJx4a65c_add_9ea2d cJx4a65c_add_9ea2d 2 (some .boolean) :: wsL_law)) B.pre
  have hts : ∀ w ∈ wsL_law, w.before _ s = true := fun w h => hts0 w (List.mem_cons_of_mem _ h)
  have hown : s.vm.findClass RJx4a65c = some m.cls := findClass_of_methodNamed B.named
  have hlocks := B.notSynchronized
  have hin : meth.name = "add" := (name_of_methodNamed B.named B.method).1
  subst hsz
  have hD := hD0.self (sz := s.heap.size)
  generalize hAe : va_A [(h0, .inr (0, [.int 7, .ref a2, .int 7])), (a1, .inr (12, [.ref st_shelf, .ref st_first, .ref st_second, .ref st_third, .int st_at, .ref st_locks, .int st_mirrors, .int st_fetched, .ref st_wrong, .ref st_offered, .ref st_offeredSums])), (a2, .inl (cA, 10, .inr (.inr (.inr (.inr f)))))] s.heap.size = A at hD hZ ⊢
  have hA : ∀ q : Nat, s.heap.size ≤ q → A q := fun q h => by rw [← hAe]; exact Or.inr h
  have hS : va_S A s.heap s.heap [] := va_S.rf
  have hP : va_P (dC, dI) vwCl [(h0, .inr (0, [.int 7, .ref a2, .int 7])), (a1, .inr (12, [.ref st_shelf, .ref st_first, .ref st_second, .ref st_third, .int st_at, .ref st_locks, .int st_mirrors, .int st_fetched, .ref st_wrong, .ref st_offered, .ref st_offeredSums])), (a2, .inl (cA, 10, .inr (.inr (.inr (.inr f)))))] s.heap := hP
  have hl := lv_entry ([.ref h0, .ref a1]) (n := 2) (Nat.le_of_ble_eq_true rfl)
  rw [lg_entry_eq]
  generalize (lg_sl ([.ref h0, .ref a1]) ++ List.replicate (2 - (lg_sl ([.ref h0, .ref a1])).length) Slot.unset).toArray = ls at hl ⊢
  have hl : lv_has ls 2 [(0, .ref h0), (1, .ref a1)] := hl
  refine lv_aload_n hx hb dJx4a65c_add_9ea2d_0 rfl (lv_at hl 0 rfl) ?_
  refine lv_dup hx hb dJx4a65c_add_9ea2d_1 rfl ?_
  refine va_get (D := (dC, dI)) (ci := 0) (v := .int 7) (C := RJx4a65c) (T := TJx4a65c) (N := 3) hx hb hts inlJx4a65c hown hK hP 0 rfl rfl 0 (by decide) (hts (.fieldLink RJx4a65c 63 "java/util/ArrayList" "modCount" "I") (inLU_10 (.fieldLink RJx4a65c 63 "java/util/ArrayList" "modCount" "I") (List.mem_of_getElem? (i := 17) rfl))) (fun x9 h9 => u_same (hts (.sameField "java/util/ArrayList" "java/util/AbstractList" "modCount" "I") (inLU_10 (.sameField "java/util/ArrayList" "java/util/AbstractList" "modCount" "I") (List.mem_of_getElem? (i := 18) rfl))) x9 h9) rfl dJx4a65c_add_9ea2d_2 ?_
  refine lv_iconst (v := 1) hx hb dJx4a65c_add_9ea2d_5 (by decide) ?_
  refine lv_iadd hx hb dJx4a65c_add_9ea2d_6 ?_
  refine lv_topi (fun x1 ex1 => ?_)
  obtain rfl : x1 = 8 := ex1.trans (by decide)
  refine va_put (D := (dC, dI)) (ci := 0) (v := .int 8) (ty := .int) (C := RJx4a65c) (T := TJx4a65c) (N := 3) hx hb hts inlJx4a65c tyJx4a65c tyJx4a65c_ok nmJx4a65c hown hK hP hD hS 0 rfl rfl 0 (by decide) (hts (.fieldLink RJx4a65c 63 "java/util/ArrayList" "modCount" "I") (inLU_10 (.fieldLink RJx4a65c 63 "java/util/ArrayList" "modCount" "I") (List.mem_of_getElem? (i := 17) rfl))) (fun x9 h9 => u_same (hts (.sameField "java/util/ArrayList" "java/util/AbstractList" "modCount" "I") (inLU_10 (.sameField "java/util/ArrayList" "java/util/AbstractList" "modCount" "I") (List.mem_of_getElem? (i := 18) rfl))) x9 h9) rfl (tyJx4a65c_ok 0 (by decide)) rfl rfl (Nat.le_of_ble_eq_true rfl) dJx4a65c_add_9ea2d_7 (fun H locs hP hD hS => ?_)
  have hP : va_P (dC, dI) vwCl [(h0, .inr (0, [.int 8, .ref a2, .int 7])), (a1, .inr (12, [.ref st_shelf, .ref st_first, .ref st_second, .ref st_third, .int st_at, .ref st_locks, .int st_mirrors, .int st_fetched, .ref st_wrong, .ref st_offered, .ref st_offeredSums])), (a2, .inl (cA, 10, .inr (.inr (.inr (.inr f)))))] H := hP
  have hD : va_D A [(h0, .inr (0, [.int 8, .ref a2, .int 7])), (a1, .inr (12, [.ref st_shelf, .ref st_first, .ref st_second, .ref st_third, .int st_at, .ref st_locks, .int st_mirrors, .int st_fetched, .ref st_wrong, .ref st_offered, .ref st_offeredSums])), (a2, .inl (cA, 10, .inr (.inr (.inr (.inr f)))))] := hD
  refine lv_aload_n hx hb dJx4a65c_add_9ea2d_10 rfl (lv_at hl 0 rfl) ?_
  refine lv_aload_n hx hb dJx4a65c_add_9ea2d_11 rfl (lv_at hl 1 rfl) ?_
  refine lv_aload_n hx hb dJx4a65c_add_9ea2d_12 rfl (lv_at hl 0 rfl) ?_
  refine va_get (D := (dC, dI)) (ci := 0) (v := .ref a2) (C := RJx4a65c) (T := TJx4a65c) (N := 3) hx hb hts inlJx4a65c hown hK hP 0 rfl rfl 1 (by decide) (hts (.fieldLink RJx4a65c 9 "java/util/ArrayList" "elementData" "[Ljava/lang/Object;") (inLU_6 (.fieldLink RJx4a65c 9 "java/util/ArrayList" "elementData" "[Ljava/lang/Object;") (List.mem_of_getElem? (i := 11) rfl))) (fun _ h9 => h9) rfl dJx4a65c_add_9ea2d_13 ?_
  refine lv_aload_n hx hb dJx4a65c_add_9ea2d_16 rfl (lv_at hl 0 rfl) ?_
  refine va_get (D := (dC, dI)) (ci := 0) (v := .int 7) (C := RJx4a65c) (T := TJx4a65c) (N := 3) hx hb hts inlJx4a65c hown hK hP 0 rfl rfl 2 (by decide) (hts (.fieldLink RJx4a65c 48 "java/util/ArrayList" "size" "I") (inLU_10 (.fieldLink RJx4a65c 48 "java/util/ArrayList" "size" "I") (List.mem_of_getElem? (i := 19) rfl))) (fun _ h9 => h9) rfl dJx4a65c_add_9ea2d_17 ?_
  have hPc := hP.sub (ws' := [(h0, .inr (0, [.int 8, .ref a2, .int 7])), (a1, .inr (12, [.ref st_shelf, .ref st_first, .ref st_second, .ref st_third, .int st_at, .ref st_locks, .int st_mirrors, .int st_fetched, .ref st_wrong, .ref st_offered, .ref st_offeredSums])), (a2, .inl (cA, 10, .inr (.inr (.inr (.inr f)))))]) [0, 1, 2] rfl
  have hDc := hD.sub (ws' := [(h0, .inr (0, [.int 8, .ref a2, .int 7])), (a1, .inr (12, [.ref st_shelf, .ref st_first, .ref st_second, .ref st_third, .int st_at, .ref st_locks, .int st_mirrors, .int st_fetched, .ref st_wrong, .ref st_offered, .ref st_offeredSums])), (a2, .inl (cA, 10, .inr (.inr (.inr (.inr f)))))]) [0, 1, 2] (by decide) rfl
  have hKc := hK.sub (tys' := [(cA, .object "java/lang/Object")]) [0] rfl
  have hFc := va_free (wc := [(h0, .inr (0, [.int 8, .ref a2, .int 7])), (a1, .inr (12, [.ref st_shelf, .ref st_first, .ref st_second, .ref st_third, .int st_at, .ref st_locks, .int st_mirrors, .int st_fetched, .ref st_wrong, .ref st_offered, .ref st_offeredSums])), (a2, .inl (cA, 10, .inr (.inr (.inr (.inr f)))))]) hD hS hA [0, 1, 2] rfl
  refine va_callv (va_runV (As := [.ref a1, .ref a2, .int 7]) (rest := []) ⟨hx, hb, hml, hown, hts⟩ (c_List_put7 l dC dI dA h0 a1 a2 cA f st_shelf st_first st_second st_third st_at st_locks st_mirrors st_fetched st_wrong st_offered st_offeredSums H.size) (cwV 3 hts (gLU_V (inLU_10 (.methodLink RJx4a65c 131 yJx4a65c_add_72be8) (List.mem_of_getElem? (i := 20) rfl)) (inLU_10 (.instanceMethod yJx4a65c_add_72be8) (List.mem_of_getElem? (i := 21) rfl)) (inLU_10 (.selects RJx4a65c yJx4a65c_add_72be8 yJx4a65c_add_72be8) (List.mem_of_getElem? (i := 22) rfl)) (inLU_1 (.initialized RJx4a65c) (List.mem_of_getElem? (i := 23) rfl)) (inLU_10 (.code yJx4a65c_add_72be8 cJx4a65c_add_72be8 4 none) (List.mem_of_getElem? (i := 23) rfl))) rfl rfl rfl (by decide +kernel) ⟨Nat.le_of_ble_eq_true rfl, Nat.le_of_ble_eq_true rfl⟩) ⟨fun a U g mk q => by obtain ⟨q0, q1, qP, qK, qD, qF, qZ⟩ := q; exact ⟨q0, q1, qP, va_K.moved (u := U) (U := U.calling g mk a) (Vm.Alike.refl U.vm) qK, qD, kwF.same (u := U) (U := U.calling g mk a) rfl qF, kwH.moved (u := U) (U := U.calling g mk a) (Vm.Alike.refl U.vm) qZ⟩, va_recv hKc hPc (ci := 0) (q0 := 0) rfl rfl, fun U hU hW => ⟨rfl, by rw [hU], by rw [hU]; exact hPc, va_K.moved hW.alike hKc, hDc.weaken (fun _ _ _ _ => trivial), kwF.warm hW hF, kwH.at hZ hS hFc hW.alike hU⟩⟩ rfl rfl hl.1 rfl (lv_room (Nat.le_of_ble_eq_true rfl)) dJx4a65c_add_9ea2d_20 ⟨Nat.le_of_ble_eq_true rfl, Nat.le_of_ble_eq_true rfl⟩) hS (fun q _ h => hFc q h) hFc (fun u t H1 locs ht hvm hw hB hz1 hk1 hS => ?_)
  obtain ⟨hP1, hK1, hD1⟩ := hB
  rw [ht] at hP1
  have hK1 := va_K.moved hvm.symm hK1
  obtain ⟨hP, hD⟩ := va_join (wr := []) (w1 := [(h0, .inr (0, [.int 8, .ref a2, .int 8])), (a1, .inr (12, [.ref st_shelf, .ref st_first, .ref st_second, .ref st_third, .int st_at, .ref st_locks, .int st_mirrors, .int st_fetched, .ref st_wrong, .ref st_offered, .ref st_offeredSums])), (a2, .inl (cA, 10, .inr (.inr (.inr (.inr (va_up f 7 (some a1)))))))]) hP hD [0, 1, 2] [] rfl rfl (by decide) (by decide) hk1 hFc hP1 hD1
  have hK := hK.app hK1
  generalize H1 = H at hP hS ⊢
  have hK : va_K (dC, dI) vwCl [(cA, .object "java/lang/Object")] s := hK
  have hP : va_P (dC, dI) vwCl [(h0, .inr (0, [.int 8, .ref a2, .int 8])), (a1, .inr (12, [.ref st_shelf, .ref st_first, .ref st_second, .ref st_third, .int st_at, .ref st_locks, .int st_mirrors, .int st_fetched, .ref st_wrong, .ref st_offered, .ref st_offeredSums])), (a2, .inl (cA, 10, .inr (.inr (.inr (.inr (va_up f 7 (some a1)))))))] H := hP
  have hD : va_D A [(h0, .inr (0, [.int 8, .ref a2, .int 8])), (a1, .inr (12, [.ref st_shelf, .ref st_first, .ref st_second, .ref st_third, .int st_at, .ref st_locks, .int st_mirrors, .int st_fetched, .ref st_wrong, .ref st_offered, .ref st_offeredSums])), (a2, .inl (cA, 10, .inr (.inr (.inr (.inr (va_up f 7 (some a1)))))))] := hD
  refine W.widen (k := 0) (n := 0) (Nat.le_of_ble_eq_true rfl) (Nat.le_of_ble_eq_true rfl) ?_
  refine lv_iconst (v := 1) hx hb dJx4a65c_add_9ea2d_23 (by decide) ?_
  have hP9 := hP.sub (ws' := [(h0, .inr (0, [.int 8, .ref a2, .int 8])), (a1, .inr (12, [.ref st_shelf, .ref st_first, .ref st_second, .ref st_third, .int st_at, .ref st_locks, .int st_mirrors, .int st_fetched, .ref st_wrong, .ref st_offered, .ref st_offeredSums])), (a2, .inl (cA, 10, .inr (.inr (.inr (.inr (va_up f 7 (some a1)))))))]) [0, 1, 2] rfl
  have hD9 := hD.sub (ws' := [(h0, .inr (0, [.int 8, .ref a2, .int 8])), (a1, .inr (12, [.ref st_shelf, .ref st_first, .ref st_second, .ref st_third, .int st_at, .ref st_locks, .int st_mirrors, .int st_fetched, .ref st_wrong, .ref st_offered, .ref st_offeredSums])), (a2, .inl (cA, 10, .inr (.inr (.inr (.inr (va_up f 7 (some a1)))))))]) [0, 1, 2] (by decide) rfl
  have hK9 := hK.sub (tys' := []) [] rfl
  exact W.zret (v := 1) hx hb hr rfl (fun t ht hW => ⟨⟨1, (), rfl, rfl, by rw [ht]; exact hP9, va_K.moved hW.alike hK9, hD9⟩, hS.F ht⟩) hS.2.2 dJx4a65c_add_9ea2d_24
set_option maxHeartbeats 4000000 in
set_option maxRecDepth 100000 in
/-- element 8 -/
theorem c_List_put8 (l : Launch) (dC : Nat → ClassId) (dI : Nat → Nat → Nat) (dA : Nat) (h0 : Nat) (a1 : Nat) (a2 : Nat) (cA : ClassId) (f : Nat → Option Nat) (st_shelf : Nat) (st_first : Nat) (st_second : Nat) (st_third : Nat) (st_at : Int32) (st_locks : Nat) (st_mirrors : Int32) (st_fetched : Int32) (st_wrong : Nat) (st_offered : Nat) (st_offeredSums : Nat) (sz : Nat) : Met l yJx4a65c_add_72be8 (.code yJx4a65c_add_72be8 cJx4a65c_add_72be8 4 none :: wsL_law) ({ frames := 0, cells := 0, slots := 0, locals := 0 }) (va_Pc [.ref h0, .ref a1, .ref a2, .int 8] (fun U => U.heap.size = sz ∧ va_P (dC, dI) vwCl [(h0, .inr (0, [.int 9, .ref a2, .int 8])), (a1, .inr (12, [.ref st_shelf, .ref st_first, .ref st_second, .ref st_third, .int st_at, .ref st_locks, .int st_mirrors, .int st_fetched, .ref st_wrong, .ref st_offered, .ref st_offeredSums])), (a2, .inl (cA, 10, .inr (.inr (.inr (.inr f)))))] U.heap ∧ va_K (dC, dI) vwCl [(cA, .object "java/lang/Object")] U ∧ va_D (fun _ => True) [(h0, .inr (0, [.int 9, .ref a2, .int 8])), (a1, .inr (12, [.ref st_shelf, .ref st_first, .ref st_second, .ref st_third, .int st_at, .ref st_locks, .int st_mirrors, .int st_fetched, .ref st_wrong, .ref st_offered, .ref st_offeredSums])), (a2, .inl (cA, 10, .inr (.inr (.inr (.inr f)))))] ∧ kwF U ∧ kwH dA (va_A [(h0, .inr (0, [.int 9, .ref a2, .int 8])), (a1, .inr (12, [.ref st_shelf, .ref st_first, .ref st_second, .ref st_third, .int st_at, .ref st_locks, .int st_mirrors, .int st_fetched, .ref st_wrong, .ref st_offered, .ref st_offeredSums])), (a2, .inl (cA, 10, .inr (.inr (.inr (.inr f)))))] sz) U U.heap)) (va_Qv (fun _ : Unit => True) (fun _ t => va_P (dC, dI) vwCl [(h0, .inr (0, [.int 9, .ref a2, .int 9])), (a1, .inr (12, [.ref st_shelf, .ref st_first, .ref st_second, .ref st_third, .int st_at, .ref st_locks, .int st_mirrors, .int st_fetched, .ref st_wrong, .ref st_offered, .ref st_offeredSums])), (a2, .inl (cA, 10, .inr (.inr (.inr (.inr (va_up f 8 (some a1)))))))] t.heap ∧ va_K (dC, dI) vwCl [] t ∧ va_D (va_A [(h0, .inr (0, [.int 9, .ref a2, .int 8])), (a1, .inr (12, [.ref st_shelf, .ref st_first, .ref st_second, .ref st_third, .int st_at, .ref st_locks, .int st_mirrors, .int st_fetched, .ref st_wrong, .ref st_offered, .ref st_offeredSums])), (a2, .inl (cA, 10, .inr (.inr (.inr (.inr f)))))] sz) [(h0, .inr (0, [.int 9, .ref a2, .int 9])), (a1, .inr (12, [.ref st_shelf, .ref st_first, .ref st_second, .ref st_third, .int st_at, .ref st_locks, .int st_mirrors, .int st_fetched, .ref st_wrong, .ref st_offered, .ref st_offeredSums])), (a2, .inl (cA, 10, .inr (.inr (.inr (.inr (va_up f 8 (some a1)))))))]) (va_A [(h0, .inr (0, [.int 9, .ref a2, .int 8])), (a1, .inr (12, [.ref st_shelf, .ref st_first, .ref st_second, .ref st_third, .int st_at, .ref st_locks, .int st_mirrors, .int st_fetched, .ref st_wrong, .ref st_offered, .ref st_offeredSums])), (a2, .inl (cA, 10, .inr (.inr (.inr (.inr f)))))] sz)) 0 0 (va_A [(h0, .inr (0, [.int 9, .ref a2, .int 8])), (a1, .inr (12, [.ref st_shelf, .ref st_first, .ref st_second, .ref st_third, .int st_at, .ref st_locks, .int st_mirrors, .int st_fetched, .ref st_wrong, .ref st_offered, .ref st_offeredSums])), (a2, .inl (cA, 10, .inr (.inr (.inr (.inr f)))))] sz) := by
  refine Met.ofW (cc := cJx4a65c_add_72be8) (maxL := 4) (ret := none) (by decide) rfl ?_
  intro p e s m args below meth c s₁ B hml hv
  obtain ⟨rfl, hsz, hP, hK, hD0, hF, hZ⟩ := hv
  have hx := B.exec
  have hb := B.bytes
  have hr := B.returns
  have hts0 := atoms_spec (ws := (.code yJx4a65c_add_72be8 cJx4a65c_add_72be8 4 none :: wsL_law)) B.pre
  have hts : ∀ w ∈ wsL_law, w.before _ s = true := fun w h => hts0 w (List.mem_cons_of_mem _ h)
  have hown : s.vm.findClass RJx4a65c = some m.cls := findClass_of_methodNamed B.named
  have hlocks := B.notSynchronized
  have hin : meth.name = "add" := (name_of_methodNamed B.named B.method).1
  subst hsz
  have hD := hD0.self (sz := s.heap.size)
  generalize hAe : va_A [(h0, .inr (0, [.int 9, .ref a2, .int 8])), (a1, .inr (12, [.ref st_shelf, .ref st_first, .ref st_second, .ref st_third, .int st_at, .ref st_locks, .int st_mirrors, .int st_fetched, .ref st_wrong, .ref st_offered, .ref st_offeredSums])), (a2, .inl (cA, 10, .inr (.inr (.inr (.inr f)))))] s.heap.size = A at hD hZ ⊢
  have hA : ∀ q : Nat, s.heap.size ≤ q → A q := fun q h => by rw [← hAe]; exact Or.inr h
  have hS : va_S A s.heap s.heap [] := va_S.rf
  have hP : va_P (dC, dI) vwCl [(h0, .inr (0, [.int 9, .ref a2, .int 8])), (a1, .inr (12, [.ref st_shelf, .ref st_first, .ref st_second, .ref st_third, .int st_at, .ref st_locks, .int st_mirrors, .int st_fetched, .ref st_wrong, .ref st_offered, .ref st_offeredSums])), (a2, .inl (cA, 10, .inr (.inr (.inr (.inr f)))))] s.heap := hP
  have hl := lv_entry ([.ref h0, .ref a1, .ref a2, .int 8]) (n := 4) (Nat.le_of_ble_eq_true rfl)
  rw [lg_entry_eq]
  generalize (lg_sl ([.ref h0, .ref a1, .ref a2, .int 8]) ++ List.replicate (4 - (lg_sl ([.ref h0, .ref a1, .ref a2, .int 8])).length) Slot.unset).toArray = ls at hl ⊢
  have hl : lv_has ls 4 [(0, .ref h0), (1, .ref a1), (2, .ref a2), (3, .int 8)] := hl
  refine lv_iload_n hx hb dJx4a65c_add_72be8_0 rfl (lv_at hl 3 rfl) ?_
  refine lv_aload_n hx hb dJx4a65c_add_72be8_1 rfl (lv_at hl 2 rfl) ?_
  refine va_alen (D := (dC, dI)) (v := 10) hx hb hK hP 2 0 rfl rfl (show Int32.ofNat 10 = 10 from by decide) dJx4a65c_add_72be8_2 ?_
  refine lv_icmp_ne (tgt := 11) hx hb dJx4a65c_add_72be8_3 (by decide) (fun _ => ?_) (fun c1 => absurd c1 (by decide))
  refine lv_aload_n hx hb dJx4a65c_add_72be8_11 rfl (lv_at hl 2 rfl) ?_
  refine lv_iload_n hx hb dJx4a65c_add_72be8_12 rfl (lv_at hl 3 rfl) ?_
  refine lv_aload_n hx hb dJx4a65c_add_72be8_13 rfl (lv_at hl 1 rfl) ?_
  refine va_astqO (D := (dC, dI)) hx hb hK hP hD hS 2 0 1 12 rfl rfl (kw_C_X11 hF) rfl rfl (show vp_in _ _ from by unfold vp_in; decide) dJx4a65c_add_72be8_14 (fun H locs hP hD hS => ?_)
  rw [show (8 : Int32).toNatClampNeg = 8 from by decide] at hP hD
  have hP : va_P (dC, dI) vwCl [(h0, .inr (0, [.int 9, .ref a2, .int 8])), (a1, .inr (12, [.ref st_shelf, .ref st_first, .ref st_second, .ref st_third, .int st_at, .ref st_locks, .int st_mirrors, .int st_fetched, .ref st_wrong, .ref st_offered, .ref st_offeredSums])), (a2, .inl (cA, 10, .inr (.inr (.inr (.inr (va_up f 8 (some a1)))))))] H := hP
  have hD : va_D A [(h0, .inr (0, [.int 9, .ref a2, .int 8])), (a1, .inr (12, [.ref st_shelf, .ref st_first, .ref st_second, .ref st_third, .int st_at, .ref st_locks, .int st_mirrors, .int st_fetched, .ref st_wrong, .ref st_offered, .ref st_offeredSums])), (a2, .inl (cA, 10, .inr (.inr (.inr (.inr (va_up f 8 (some a1)))))))] := hD
  refine lv_aload_n hx hb dJx4a65c_add_72be8_15 rfl (lv_at hl 0 rfl) ?_
  refine lv_iload_n hx hb dJx4a65c_add_72be8_16 rfl (lv_at hl 3 rfl) ?_
  refine lv_iconst (v := 1) hx hb dJx4a65c_add_72be8_17 (by decide) ?_
  refine lv_iadd hx hb dJx4a65c_add_72be8_18 ?_
  refine lv_topi (fun x2 ex2 => ?_)
  obtain rfl : x2 = 9 := ex2.trans (by decide)
  refine va_put (D := (dC, dI)) (ci := 0) (v := .int 9) (ty := .int) (C := RJx4a65c) (T := TJx4a65c) (N := 3) hx hb hts inlJx4a65c tyJx4a65c tyJx4a65c_ok nmJx4a65c hown hK hP hD hS 0 rfl rfl 2 (by decide) (hts (.fieldLink RJx4a65c 48 "java/util/ArrayList" "size" "I") (inLU_10 (.fieldLink RJx4a65c 48 "java/util/ArrayList" "size" "I") (List.mem_of_getElem? (i := 19) rfl))) (fun _ h9 => h9) rfl (tyJx4a65c_ok 2 (by decide)) rfl rfl (Nat.le_of_ble_eq_true rfl) dJx4a65c_add_72be8_19 (fun H locs hP hD hS => ?_)
  have hP : va_P (dC, dI) vwCl [(h0, .inr (0, [.int 9, .ref a2, .int 9])), (a1, .inr (12, [.ref st_shelf, .ref st_first, .ref st_second, .ref st_third, .int st_at, .ref st_locks, .int st_mirrors, .int st_fetched, .ref st_wrong, .ref st_offered, .ref st_offeredSums])), (a2, .inl (cA, 10, .inr (.inr (.inr (.inr (va_up f 8 (some a1)))))))] H := hP
  have hD : va_D A [(h0, .inr (0, [.int 9, .ref a2, .int 9])), (a1, .inr (12, [.ref st_shelf, .ref st_first, .ref st_second, .ref st_third, .int st_at, .ref st_locks, .int st_mirrors, .int st_fetched, .ref st_wrong, .ref st_offered, .ref st_offeredSums])), (a2, .inl (cA, 10, .inr (.inr (.inr (.inr (va_up f 8 (some a1)))))))] := hD
  have hP9 := hP.sub (ws' := [(h0, .inr (0, [.int 9, .ref a2, .int 9])), (a1, .inr (12, [.ref st_shelf, .ref st_first, .ref st_second, .ref st_third, .int st_at, .ref st_locks, .int st_mirrors, .int st_fetched, .ref st_wrong, .ref st_offered, .ref st_offeredSums])), (a2, .inl (cA, 10, .inr (.inr (.inr (.inr (va_up f 8 (some a1)))))))]) [0, 1, 2] rfl
  have hD9 := hD.sub (ws' := [(h0, .inr (0, [.int 9, .ref a2, .int 9])), (a1, .inr (12, [.ref st_shelf, .ref st_first, .ref st_second, .ref st_third, .int st_at, .ref st_locks, .int st_mirrors, .int st_fetched, .ref st_wrong, .ref st_offered, .ref st_offeredSums])), (a2, .inl (cA, 10, .inr (.inr (.inr (.inr (va_up f 8 (some a1)))))))]) [0, 1, 2] (by decide) rfl
  have hK9 := hK.sub (tys' := []) [] rfl
  exact W.vret hx hb hr (fun t ht hW => ⟨⟨(), rfl, trivial, by rw [ht]; exact hP9, va_K.moved hW.alike hK9, hD9⟩, hS.F ht⟩) hS.2.2 dJx4a65c_add_72be8_22
set_option maxHeartbeats 4000000 in
set_option maxRecDepth 100000 in
/-- add(e), element 8 -/
theorem c_List_add8 (l : Launch) (dC : Nat → ClassId) (dI : Nat → Nat → Nat) (dA : Nat) (h0 : Nat) (a1 : Nat) (a2 : Nat) (cA : ClassId) (f : Nat → Option Nat) (st_shelf : Nat) (st_first : Nat) (st_second : Nat) (st_third : Nat) (st_at : Int32) (st_locks : Nat) (st_mirrors : Int32) (st_fetched : Int32) (st_wrong : Nat) (st_offered : Nat) (st_offeredSums : Nat) (sz : Nat) : Met l yJx4a65c_add_9ea2d (.code yJx4a65c_add_9ea2d cJx4a65c_add_9ea2d 2 (some .boolean) :: wsL_law) ({ frames := 1, cells := 0, slots := 0, locals := 23 }) (va_Pc [.ref h0, .ref a1] (fun U => U.heap.size = sz ∧ va_P (dC, dI) vwCl [(h0, .inr (0, [.int 8, .ref a2, .int 8])), (a1, .inr (12, [.ref st_shelf, .ref st_first, .ref st_second, .ref st_third, .int st_at, .ref st_locks, .int st_mirrors, .int st_fetched, .ref st_wrong, .ref st_offered, .ref st_offeredSums])), (a2, .inl (cA, 10, .inr (.inr (.inr (.inr f)))))] U.heap ∧ va_K (dC, dI) vwCl [(cA, .object "java/lang/Object")] U ∧ va_D (fun _ => True) [(h0, .inr (0, [.int 8, .ref a2, .int 8])), (a1, .inr (12, [.ref st_shelf, .ref st_first, .ref st_second, .ref st_third, .int st_at, .ref st_locks, .int st_mirrors, .int st_fetched, .ref st_wrong, .ref st_offered, .ref st_offeredSums])), (a2, .inl (cA, 10, .inr (.inr (.inr (.inr f)))))] ∧ kwF U ∧ kwH dA (va_A [(h0, .inr (0, [.int 8, .ref a2, .int 8])), (a1, .inr (12, [.ref st_shelf, .ref st_first, .ref st_second, .ref st_third, .int st_at, .ref st_locks, .int st_mirrors, .int st_fetched, .ref st_wrong, .ref st_offered, .ref st_offeredSums])), (a2, .inl (cA, 10, .inr (.inr (.inr (.inr f)))))] sz) U U.heap)) (va_Qi (fun (r : Int32) (_ : Unit) => r = 1) (fun _ t => va_P (dC, dI) vwCl [(h0, .inr (0, [.int 9, .ref a2, .int 9])), (a1, .inr (12, [.ref st_shelf, .ref st_first, .ref st_second, .ref st_third, .int st_at, .ref st_locks, .int st_mirrors, .int st_fetched, .ref st_wrong, .ref st_offered, .ref st_offeredSums])), (a2, .inl (cA, 10, .inr (.inr (.inr (.inr (va_up f 8 (some a1)))))))] t.heap ∧ va_K (dC, dI) vwCl [] t ∧ va_D (va_A [(h0, .inr (0, [.int 8, .ref a2, .int 8])), (a1, .inr (12, [.ref st_shelf, .ref st_first, .ref st_second, .ref st_third, .int st_at, .ref st_locks, .int st_mirrors, .int st_fetched, .ref st_wrong, .ref st_offered, .ref st_offeredSums])), (a2, .inl (cA, 10, .inr (.inr (.inr (.inr f)))))] sz) [(h0, .inr (0, [.int 9, .ref a2, .int 9])), (a1, .inr (12, [.ref st_shelf, .ref st_first, .ref st_second, .ref st_third, .int st_at, .ref st_locks, .int st_mirrors, .int st_fetched, .ref st_wrong, .ref st_offered, .ref st_offeredSums])), (a2, .inl (cA, 10, .inr (.inr (.inr (.inr (va_up f 8 (some a1)))))))]) (va_A [(h0, .inr (0, [.int 8, .ref a2, .int 8])), (a1, .inr (12, [.ref st_shelf, .ref st_first, .ref st_second, .ref st_third, .int st_at, .ref st_locks, .int st_mirrors, .int st_fetched, .ref st_wrong, .ref st_offered, .ref st_offeredSums])), (a2, .inl (cA, 10, .inr (.inr (.inr (.inr f)))))] sz)) 0 0 (va_A [(h0, .inr (0, [.int 8, .ref a2, .int 8])), (a1, .inr (12, [.ref st_shelf, .ref st_first, .ref st_second, .ref st_third, .int st_at, .ref st_locks, .int st_mirrors, .int st_fetched, .ref st_wrong, .ref st_offered, .ref st_offeredSums])), (a2, .inl (cA, 10, .inr (.inr (.inr (.inr f)))))] sz) := by
  refine Met.ofW (cc := cJx4a65c_add_9ea2d) (maxL := 2) (ret := (some .boolean)) (by decide) rfl ?_
  intro p e s m args below meth c s₁ B hml hv
  obtain ⟨rfl, hsz, hP, hK, hD0, hF, hZ⟩ := hv
  have hx := B.exec
  have hb := B.bytes
  have hr := B.returns
  have hts0 := atoms_spec (ws := (.code yJx4a65c_add_9ea2d cJx4a65c_add_9ea2d 2 (some .boolean) :: wsL_law)) B.pre
  have hts : ∀ w ∈ wsL_law, w.before _ s = true := fun w h => hts0 w (List.mem_cons_of_mem _ h)
  have hown : s.vm.findClass RJx4a65c = some m.cls := findClass_of_methodNamed B.named
  have hlocks := B.notSynchronized
  have hin : meth.name = "add" := (name_of_methodNamed B.named B.method).1
  subst hsz
  have hD := hD0.self (sz := s.heap.size)
  generalize hAe : va_A [(h0, .inr (0, [.int 8, .ref a2, .int 8])), (a1, .inr (12, [.ref st_shelf, .ref st_first, .ref st_second, .ref st_third, .int st_at, .ref st_locks, .int st_mirrors, .int st_fetched, .ref st_wrong, .ref st_offered, .ref st_offeredSums])), (a2, .inl (cA, 10, .inr (.inr (.inr (.inr f)))))] s.heap.size = A at hD hZ ⊢
  have hA : ∀ q : Nat, s.heap.size ≤ q → A q := fun q h => by rw [← hAe]; exact Or.inr h
  have hS : va_S A s.heap s.heap [] := va_S.rf
  have hP : va_P (dC, dI) vwCl [(h0, .inr (0, [.int 8, .ref a2, .int 8])), (a1, .inr (12, [.ref st_shelf, .ref st_first, .ref st_second, .ref st_third, .int st_at, .ref st_locks, .int st_mirrors, .int st_fetched, .ref st_wrong, .ref st_offered, .ref st_offeredSums])), (a2, .inl (cA, 10, .inr (.inr (.inr (.inr f)))))] s.heap := hP
  have hl := lv_entry ([.ref h0, .ref a1]) (n := 2) (Nat.le_of_ble_eq_true rfl)
  rw [lg_entry_eq]
  generalize (lg_sl ([.ref h0, .ref a1]) ++ List.replicate (2 - (lg_sl ([.ref h0, .ref a1])).length) Slot.unset).toArray = ls at hl ⊢
  have hl : lv_has ls 2 [(0, .ref h0), (1, .ref a1)] := hl
  refine lv_aload_n hx hb dJx4a65c_add_9ea2d_0 rfl (lv_at hl 0 rfl) ?_
  refine lv_dup hx hb dJx4a65c_add_9ea2d_1 rfl ?_
  refine va_get (D := (dC, dI)) (ci := 0) (v := .int 8) (C := RJx4a65c) (T := TJx4a65c) (N := 3) hx hb hts inlJx4a65c hown hK hP 0 rfl rfl 0 (by decide) (hts (.fieldLink RJx4a65c 63 "java/util/ArrayList" "modCount" "I") (inLU_10 (.fieldLink RJx4a65c 63 "java/util/ArrayList" "modCount" "I") (List.mem_of_getElem? (i := 17) rfl))) (fun x9 h9 => u_same (hts (.sameField "java/util/ArrayList" "java/util/AbstractList" "modCount" "I") (inLU_10 (.sameField "java/util/ArrayList" "java/util/AbstractList" "modCount" "I") (List.mem_of_getElem? (i := 18) rfl))) x9 h9) rfl dJx4a65c_add_9ea2d_2 ?_
  refine lv_iconst (v := 1) hx hb dJx4a65c_add_9ea2d_5 (by decide) ?_
  refine lv_iadd hx hb dJx4a65c_add_9ea2d_6 ?_
  refine lv_topi (fun x1 ex1 => ?_)
  obtain rfl : x1 = 9 := ex1.trans (by decide)
  refine va_put (D := (dC, dI)) (ci := 0) (v := .int 9) (ty := .int) (C := RJx4a65c) (T := TJx4a65c) (N := 3) hx hb hts inlJx4a65c tyJx4a65c tyJx4a65c_ok nmJx4a65c hown hK hP hD hS 0 rfl rfl 0 (by decide) (hts (.fieldLink RJx4a65c 63 "java/util/ArrayList" "modCount" "I") (inLU_10 (.fieldLink RJx4a65c 63 "java/util/ArrayList" "modCount" "I") (List.mem_of_getElem? (i := 17) rfl))) (fun x9 h9 => u_same (hts (.sameField "java/util/ArrayList" "java/util/AbstractList" "modCount" "I") (inLU_10 (.sameField "java/util/ArrayList" "java/util/AbstractList" "modCount" "I") (List.mem_of_getElem? (i := 18) rfl))) x9 h9) rfl (tyJx4a65c_ok 0 (by decide)) rfl rfl (Nat.le_of_ble_eq_true rfl) dJx4a65c_add_9ea2d_7 (fun H locs hP hD hS => ?_)
  have hP : va_P (dC, dI) vwCl [(h0, .inr (0, [.int 9, .ref a2, .int 8])), (a1, .inr (12, [.ref st_shelf, .ref st_first, .ref st_second, .ref st_third, .int st_at, .ref st_locks, .int st_mirrors, .int st_fetched, .ref st_wrong, .ref st_offered, .ref st_offeredSums])), (a2, .inl (cA, 10, .inr (.inr (.inr (.inr f)))))] H := hP
  have hD : va_D A [(h0, .inr (0, [.int 9, .ref a2, .int 8])), (a1, .inr (12, [.ref st_shelf, .ref st_first, .ref st_second, .ref st_third, .int st_at, .ref st_locks, .int st_mirrors, .int st_fetched, .ref st_wrong, .ref st_offered, .ref st_offeredSums])), (a2, .inl (cA, 10, .inr (.inr (.inr (.inr f)))))] := hD
  refine lv_aload_n hx hb dJx4a65c_add_9ea2d_10 rfl (lv_at hl 0 rfl) ?_
  refine lv_aload_n hx hb dJx4a65c_add_9ea2d_11 rfl (lv_at hl 1 rfl) ?_
  refine lv_aload_n hx hb dJx4a65c_add_9ea2d_12 rfl (lv_at hl 0 rfl) ?_
  refine va_get (D := (dC, dI)) (ci := 0) (v := .ref a2) (C := RJx4a65c) (T := TJx4a65c) (N := 3) hx hb hts inlJx4a65c hown hK hP 0 rfl rfl 1 (by decide) (hts (.fieldLink RJx4a65c 9 "java/util/ArrayList" "elementData" "[Ljava/lang/Object;") (inLU_6 (.fieldLink RJx4a65c 9 "java/util/ArrayList" "elementData" "[Ljava/lang/Object;") (List.mem_of_getElem? (i := 11) rfl))) (fun _ h9 => h9) rfl dJx4a65c_add_9ea2d_13 ?_
  refine lv_aload_n hx hb dJx4a65c_add_9ea2d_16 rfl (lv_at hl 0 rfl) ?_
  refine va_get (D := (dC, dI)) (ci := 0) (v := .int 8) (C := RJx4a65c) (T := TJx4a65c) (N := 3) hx hb hts inlJx4a65c hown hK hP 0 rfl rfl 2 (by decide) (hts (.fieldLink RJx4a65c 48 "java/util/ArrayList" "size" "I") (inLU_10 (.fieldLink RJx4a65c 48 "java/util/ArrayList" "size" "I") (List.mem_of_getElem? (i := 19) rfl))) (fun _ h9 => h9) rfl dJx4a65c_add_9ea2d_17 ?_
  have hPc := hP.sub (ws' := [(h0, .inr (0, [.int 9, .ref a2, .int 8])), (a1, .inr (12, [.ref st_shelf, .ref st_first, .ref st_second, .ref st_third, .int st_at, .ref st_locks, .int st_mirrors, .int st_fetched, .ref st_wrong, .ref st_offered, .ref st_offeredSums])), (a2, .inl (cA, 10, .inr (.inr (.inr (.inr f)))))]) [0, 1, 2] rfl
  have hDc := hD.sub (ws' := [(h0, .inr (0, [.int 9, .ref a2, .int 8])), (a1, .inr (12, [.ref st_shelf, .ref st_first, .ref st_second, .ref st_third, .int st_at, .ref st_locks, .int st_mirrors, .int st_fetched, .ref st_wrong, .ref st_offered, .ref st_offeredSums])), (a2, .inl (cA, 10, .inr (.inr (.inr (.inr f)))))]) [0, 1, 2] (by decide) rfl
  have hKc := hK.sub (tys' := [(cA, .object "java/lang/Object")]) [0] rfl
  have hFc := va_free (wc := [(h0, .inr (0, [.int 9, .ref a2, .int 8])), (a1, .inr (12, [.ref st_shelf, .ref st_first, .ref st_second, .ref st_third, .int st_at, .ref st_locks, .int st_mirrors, .int st_fetched, .ref st_wrong, .ref st_offered, .ref st_offeredSums])), (a2, .inl (cA, 10, .inr (.inr (.inr (.inr f)))))]) hD hS hA [0, 1, 2] rfl
  refine va_callv (va_runV (As := [.ref a1, .ref a2, .int 8]) (rest := []) ⟨hx, hb, hml, hown, hts⟩ (c_List_put8 l dC dI dA h0 a1 a2 cA f st_shelf st_first st_second st_third st_at st_locks st_mirrors st_fetched st_wrong st_offered st_offeredSums H.size) (cwV 3 hts (gLU_V (inLU_10 (.methodLink RJx4a65c 131 yJx4a65c_add_72be8) (List.mem_of_getElem? (i := 20) rfl)) (inLU_10 (.instanceMethod yJx4a65c_add_72be8) (List.mem_of_getElem? (i := 21) rfl)) (inLU_10 (.selects RJx4a65c yJx4a65c_add_72be8 yJx4a65c_add_72be8) (List.mem_of_getElem? (i := 22) rfl)) (inLU_1 (.initialized RJx4a65c) (List.mem_of_getElem? (i := 23) rfl)) (inLU_10 (.code yJx4a65c_add_72be8 cJx4a65c_add_72be8 4 none) (List.mem_of_getElem? (i := 23) rfl))) rfl rfl rfl (by decide +kernel) ⟨Nat.le_of_ble_eq_true rfl, Nat.le_of_ble_eq_true rfl⟩) ⟨fun a U g mk q => by obtain ⟨q0, q1, qP, qK, qD, qF, qZ⟩ := q; exact ⟨q0, q1, qP, va_K.moved (u := U) (U := U.calling g mk a) (Vm.Alike.refl U.vm) qK, qD, kwF.same (u := U) (U := U.calling g mk a) rfl qF, kwH.moved (u := U) (U := U.calling g mk a) (Vm.Alike.refl U.vm) qZ⟩, va_recv hKc hPc (ci := 0) (q0 := 0) rfl rfl, fun U hU hW => ⟨rfl, by rw [hU], by rw [hU]; exact hPc, va_K.moved hW.alike hKc, hDc.weaken (fun _ _ _ _ => trivial), kwF.warm hW hF, kwH.at hZ hS hFc hW.alike hU⟩⟩ rfl rfl hl.1 rfl (lv_room (Nat.le_of_ble_eq_true rfl)) dJx4a65c_add_9ea2d_20 ⟨Nat.le_of_ble_eq_true rfl, Nat.le_of_ble_eq_true rfl⟩) hS (fun q _ h => hFc q h) hFc (fun u t H1 locs ht hvm hw hB hz1 hk1 hS => ?_)
  obtain ⟨hP1, hK1, hD1⟩ := hB
  rw [ht] at hP1
  have hK1 := va_K.moved hvm.symm hK1
  obtain ⟨hP, hD⟩ := va_join (wr := []) (w1 := [(h0, .inr (0, [.int 9, .ref a2, .int 9])), (a1, .inr (12, [.ref st_shelf, .ref st_first, .ref st_second, .ref st_third, .int st_at, .ref st_locks, .int st_mirrors, .int st_fetched, .ref st_wrong, .ref st_offered, .ref st_offeredSums])), (a2, .inl (cA, 10, .inr (.inr (.inr (.inr (va_up f 8 (some a1)))))))]) hP hD [0, 1, 2] [] rfl rfl (by decide) (by decide) hk1 hFc hP1 hD1
  have hK := hK.app hK1
  generalize H1 = H at hP hS ⊢
  have hK : va_K (dC, dI) vwCl [(cA, .object "java/lang/Object")] s := hK
  have hP : va_P (dC, dI) vwCl [(h0, .inr (0, [.int 9, .ref a2, .int 9])), (a1, .inr (12, [.ref st_shelf, .ref st_first, .ref st_second, .ref st_third, .int st_at, .ref st_locks, .int st_mirrors, .int st_fetched, .ref st_wrong, .ref st_offered, .ref st_offeredSums])), (a2, .inl (cA, 10, .inr (.inr (.inr (.inr (va_up f 8 (some a1)))))))] H := hP
  have hD : va_D A [(h0, .inr (0, [.int 9, .ref a2, .int 9])), (a1, .inr (12, [.ref st_shelf, .ref st_first, .ref st_second, .ref st_third, .int st_at, .ref st_locks, .int st_mirrors, .int st_fetched, .ref st_wrong, .ref st_offered, .ref st_offeredSums])), (a2, .inl (cA, 10, .inr (.inr (.inr (.inr (va_up f 8 (some a1)))))))] := hD
  refine W.widen (k := 0) (n := 0) (Nat.le_of_ble_eq_true rfl) (Nat.le_of_ble_eq_true rfl) ?_
  refine lv_iconst (v := 1) hx hb dJx4a65c_add_9ea2d_23 (by decide) ?_
  have hP9 := hP.sub (ws' := [(h0, .inr (0, [.int 9, .ref a2, .int 9])), (a1, .inr (12, [.ref st_shelf, .ref st_first, .ref st_second, .ref st_third, .int st_at, .ref st_locks, .int st_mirrors, .int st_fetched, .ref st_wrong, .ref st_offered, .ref st_offeredSums])), (a2, .inl (cA, 10, .inr (.inr (.inr (.inr (va_up f 8 (some a1)))))))]) [0, 1, 2] rfl
  have hD9 := hD.sub (ws' := [(h0, .inr (0, [.int 9, .ref a2, .int 9])), (a1, .inr (12, [.ref st_shelf, .ref st_first, .ref st_second, .ref st_third, .int st_at, .ref st_locks, .int st_mirrors, .int st_fetched, .ref st_wrong, .ref st_offered, .ref st_offeredSums])), (a2, .inl (cA, 10, .inr (.inr (.inr (.inr (va_up f 8 (some a1)))))))]) [0, 1, 2] (by decide) rfl
  have hK9 := hK.sub (tys' := []) [] rfl
  exact W.zret (v := 1) hx hb hr rfl (fun t ht hW => ⟨⟨1, (), rfl, rfl, by rw [ht]; exact hP9, va_K.moved hW.alike hK9, hD9⟩, hS.F ht⟩) hS.2.2 dJx4a65c_add_9ea2d_24
set_option maxHeartbeats 4000000 in
set_option maxRecDepth 100000 in
/-- element 9 -/
theorem c_List_put9 (l : Launch) (dC : Nat → ClassId) (dI : Nat → Nat → Nat) (dA : Nat) (h0 : Nat) (a1 : Nat) (a2 : Nat) (cA : ClassId) (f : Nat → Option Nat) (st_shelf : Nat) (st_first : Nat) (st_second : Nat) (st_third : Nat) (st_at : Int32) (st_locks : Nat) (st_mirrors : Int32) (st_fetched : Int32) (st_wrong : Nat) (st_offered : Nat) (st_offeredSums : Nat) (sz : Nat) : Met l yJx4a65c_add_72be8 (.code yJx4a65c_add_72be8 cJx4a65c_add_72be8 4 none :: wsL_law) ({ frames := 0, cells := 0, slots := 0, locals := 0 }) (va_Pc [.ref h0, .ref a1, .ref a2, .int 9] (fun U => U.heap.size = sz ∧ va_P (dC, dI) vwCl [(h0, .inr (0, [.int 10, .ref a2, .int 9])), (a1, .inr (12, [.ref st_shelf, .ref st_first, .ref st_second, .ref st_third, .int st_at, .ref st_locks, .int st_mirrors, .int st_fetched, .ref st_wrong, .ref st_offered, .ref st_offeredSums])), (a2, .inl (cA, 10, .inr (.inr (.inr (.inr f)))))] U.heap ∧ va_K (dC, dI) vwCl [(cA, .object "java/lang/Object")] U ∧ va_D (fun _ => True) [(h0, .inr (0, [.int 10, .ref a2, .int 9])), (a1, .inr (12, [.ref st_shelf, .ref st_first, .ref st_second, .ref st_third, .int st_at, .ref st_locks, .int st_mirrors, .int st_fetched, .ref st_wrong, .ref st_offered, .ref st_offeredSums])), (a2, .inl (cA, 10, .inr (.inr (.inr (.inr f)))))] ∧ kwF U ∧ kwH dA (va_A [(h0, .inr (0, [.int 10, .ref a2, .int 9])), (a1, .inr (12, [.ref st_shelf, .ref st_first, .ref st_second, .ref st_third, .int st_at, .ref st_locks, .int st_mirrors, .int st_fetched, .ref st_wrong, .ref st_offered, .ref st_offeredSums])), (a2, .inl (cA, 10, .inr (.inr (.inr (.inr f)))))] sz) U U.heap)) (va_Qv (fun _ : Unit => True) (fun _ t => va_P (dC, dI) vwCl [(h0, .inr (0, [.int 10, .ref a2, .int 10])), (a1, .inr (12, [.ref st_shelf, .ref st_first, .ref st_second, .ref st_third, .int st_at, .ref st_locks, .int st_mirrors, .int st_fetched, .ref st_wrong, .ref st_offered, .ref st_offeredSums])), (a2, .inl (cA, 10, .inr (.inr (.inr (.inr (va_up f 9 (some a1)))))))] t.heap ∧ va_K (dC, dI) vwCl [] t ∧ va_D (va_A [(h0, .inr (0, [.int 10, .ref a2, .int 9])), (a1, .inr (12, [.ref st_shelf, .ref st_first, .ref st_second, .ref st_third, .int st_at, .ref st_locks, .int st_mirrors, .int st_fetched, .ref st_wrong, .ref st_offered, .ref st_offeredSums])), (a2, .inl (cA, 10, .inr (.inr (.inr (.inr f)))))] sz) [(h0, .inr (0, [.int 10, .ref a2, .int 10])), (a1, .inr (12, [.ref st_shelf, .ref st_first, .ref st_second, .ref st_third, .int st_at, .ref st_locks, .int st_mirrors, .int st_fetched, .ref st_wrong, .ref st_offered, .ref st_offeredSums])), (a2, .inl (cA, 10, .inr (.inr (.inr (.inr (va_up f 9 (some a1)))))))]) (va_A [(h0, .inr (0, [.int 10, .ref a2, .int 9])), (a1, .inr (12, [.ref st_shelf, .ref st_first, .ref st_second, .ref st_third, .int st_at, .ref st_locks, .int st_mirrors, .int st_fetched, .ref st_wrong, .ref st_offered, .ref st_offeredSums])), (a2, .inl (cA, 10, .inr (.inr (.inr (.inr f)))))] sz)) 0 0 (va_A [(h0, .inr (0, [.int 10, .ref a2, .int 9])), (a1, .inr (12, [.ref st_shelf, .ref st_first, .ref st_second, .ref st_third, .int st_at, .ref st_locks, .int st_mirrors, .int st_fetched, .ref st_wrong, .ref st_offered, .ref st_offeredSums])), (a2, .inl (cA, 10, .inr (.inr (.inr (.inr f)))))] sz) := by
  refine Met.ofW (cc := cJx4a65c_add_72be8) (maxL := 4) (ret := none) (by decide) rfl ?_
  intro p e s m args below meth c s₁ B hml hv
  obtain ⟨rfl, hsz, hP, hK, hD0, hF, hZ⟩ := hv
  have hx := B.exec
  have hb := B.bytes
  have hr := B.returns
  have hts0 := atoms_spec (ws := (.code yJx4a65c_add_72be8 cJx4a65c_add_72be8 4 none :: wsL_law)) B.pre
  have hts : ∀ w ∈ wsL_law, w.before _ s = true := fun w h => hts0 w (List.mem_cons_of_mem _ h)
  have hown : s.vm.findClass RJx4a65c = some m.cls := findClass_of_methodNamed B.named
  have hlocks := B.notSynchronized
  have hin : meth.name = "add" := (name_of_methodNamed B.named B.method).1
  subst hsz
  have hD := hD0.self (sz := s.heap.size)
  generalize hAe : va_A [(h0, .inr (0, [.int 10, .ref a2, .int 9])), (a1, .inr (12, [.ref st_shelf, .ref st_first, .ref st_second, .ref st_third, .int st_at, .ref st_locks, .int st_mirrors, .int st_fetched, .ref st_wrong, .ref st_offered, .ref st_offeredSums])), (a2, .inl (cA, 10, .inr (.inr (.inr (.inr f)))))] s.heap.size = A at hD hZ ⊢
  have hA : ∀ q : Nat, s.heap.size ≤ q → A q := fun q h => by rw [← hAe]; exact Or.inr h
  have hS : va_S A s.heap s.heap [] := va_S.rf
  have hP : va_P (dC, dI) vwCl [(h0, .inr (0, [.int 10, .ref a2, .int 9])), (a1, .inr (12, [.ref st_shelf, .ref st_first, .ref st_second, .ref st_third, .int st_at, .ref st_locks, .int st_mirrors, .int st_fetched, .ref st_wrong, .ref st_offered, .ref st_offeredSums])), (a2, .inl (cA, 10, .inr (.inr (.inr (.inr f)))))] s.heap := hP
  have hl := lv_entry ([.ref h0, .ref a1, .ref a2, .int 9]) (n := 4) (Nat.le_of_ble_eq_true rfl)
  rw [lg_entry_eq]
  generalize (lg_sl ([.ref h0, .ref a1, .ref a2, .int 9]) ++ List.replicate (4 - (lg_sl ([.ref h0, .ref a1, .ref a2, .int 9])).length) Slot.unset).toArray = ls at hl ⊢
  have hl : lv_has ls 4 [(0, .ref h0), (1, .ref a1), (2, .ref a2), (3, .int 9)] := hl
  refine lv_iload_n hx hb dJx4a65c_add_72be8_0 rfl (lv_at hl 3 rfl) ?_
  refine lv_aload_n hx hb dJx4a65c_add_72be8_1 rfl (lv_at hl 2 rfl) ?_
  refine va_alen (D := (dC, dI)) (v := 10) hx hb hK hP 2 0 rfl rfl (show Int32.ofNat 10 = 10 from by decide) dJx4a65c_add_72be8_2 ?_
  refine lv_icmp_ne (tgt := 11) hx hb dJx4a65c_add_72be8_3 (by decide) (fun _ => ?_) (fun c1 => absurd c1 (by decide))
  refine lv_aload_n hx hb dJx4a65c_add_72be8_11 rfl (lv_at hl 2 rfl) ?_
  refine lv_iload_n hx hb dJx4a65c_add_72be8_12 rfl (lv_at hl 3 rfl) ?_
  refine lv_aload_n hx hb dJx4a65c_add_72be8_13 rfl (lv_at hl 1 rfl) ?_
  refine va_astqO (D := (dC, dI)) hx hb hK hP hD hS 2 0 1 12 rfl rfl (kw_C_X11 hF) rfl rfl (show vp_in _ _ from by unfold vp_in; decide) dJx4a65c_add_72be8_14 (fun H locs hP hD hS => ?_)
  rw [show (9 : Int32).toNatClampNeg = 9 from by decide] at hP hD
  have hP : va_P (dC, dI) vwCl [(h0, .inr (0, [.int 10, .ref a2, .int 9])), (a1, .inr (12, [.ref st_shelf, .ref st_first, .ref st_second, .ref st_third, .int st_at, .ref st_locks, .int st_mirrors, .int st_fetched, .ref st_wrong, .ref st_offered, .ref st_offeredSums])), (a2, .inl (cA, 10, .inr (.inr (.inr (.inr (va_up f 9 (some a1)))))))] H := hP
  have hD : va_D A [(h0, .inr (0, [.int 10, .ref a2, .int 9])), (a1, .inr (12, [.ref st_shelf, .ref st_first, .ref st_second, .ref st_third, .int st_at, .ref st_locks, .int st_mirrors, .int st_fetched, .ref st_wrong, .ref st_offered, .ref st_offeredSums])), (a2, .inl (cA, 10, .inr (.inr (.inr (.inr (va_up f 9 (some a1)))))))] := hD
  refine lv_aload_n hx hb dJx4a65c_add_72be8_15 rfl (lv_at hl 0 rfl) ?_
  refine lv_iload_n hx hb dJx4a65c_add_72be8_16 rfl (lv_at hl 3 rfl) ?_
  refine lv_iconst (v := 1) hx hb dJx4a65c_add_72be8_17 (by decide) ?_
  refine lv_iadd hx hb dJx4a65c_add_72be8_18 ?_
  refine lv_topi (fun x2 ex2 => ?_)
  obtain rfl : x2 = 10 := ex2.trans (by decide)
  refine va_put (D := (dC, dI)) (ci := 0) (v := .int 10) (ty := .int) (C := RJx4a65c) (T := TJx4a65c) (N := 3) hx hb hts inlJx4a65c tyJx4a65c tyJx4a65c_ok nmJx4a65c hown hK hP hD hS 0 rfl rfl 2 (by decide) (hts (.fieldLink RJx4a65c 48 "java/util/ArrayList" "size" "I") (inLU_10 (.fieldLink RJx4a65c 48 "java/util/ArrayList" "size" "I") (List.mem_of_getElem? (i := 19) rfl))) (fun _ h9 => h9) rfl (tyJx4a65c_ok 2 (by decide)) rfl rfl (Nat.le_of_ble_eq_true rfl) dJx4a65c_add_72be8_19 (fun H locs hP hD hS => ?_)
  have hP : va_P (dC, dI) vwCl [(h0, .inr (0, [.int 10, .ref a2, .int 10])), (a1, .inr (12, [.ref st_shelf, .ref st_first, .ref st_second, .ref st_third, .int st_at, .ref st_locks, .int st_mirrors, .int st_fetched, .ref st_wrong, .ref st_offered, .ref st_offeredSums])), (a2, .inl (cA, 10, .inr (.inr (.inr (.inr (va_up f 9 (some a1)))))))] H := hP
  have hD : va_D A [(h0, .inr (0, [.int 10, .ref a2, .int 10])), (a1, .inr (12, [.ref st_shelf, .ref st_first, .ref st_second, .ref st_third, .int st_at, .ref st_locks, .int st_mirrors, .int st_fetched, .ref st_wrong, .ref st_offered, .ref st_offeredSums])), (a2, .inl (cA, 10, .inr (.inr (.inr (.inr (va_up f 9 (some a1)))))))] := hD
  have hP9 := hP.sub (ws' := [(h0, .inr (0, [.int 10, .ref a2, .int 10])), (a1, .inr (12, [.ref st_shelf, .ref st_first, .ref st_second, .ref st_third, .int st_at, .ref st_locks, .int st_mirrors, .int st_fetched, .ref st_wrong, .ref st_offered, .ref st_offeredSums])), (a2, .inl (cA, 10, .inr (.inr (.inr (.inr (va_up f 9 (some a1)))))))]) [0, 1, 2] rfl
  have hD9 := hD.sub (ws' := [(h0, .inr (0, [.int 10, .ref a2, .int 10])), (a1, .inr (12, [.ref st_shelf, .ref st_first, .ref st_second, .ref st_third, .int st_at, .ref st_locks, .int st_mirrors, .int st_fetched, .ref st_wrong, .ref st_offered, .ref st_offeredSums])), (a2, .inl (cA, 10, .inr (.inr (.inr (.inr (va_up f 9 (some a1)))))))]) [0, 1, 2] (by decide) rfl
  have hK9 := hK.sub (tys' := []) [] rfl
  exact W.vret hx hb hr (fun t ht hW => ⟨⟨(), rfl, trivial, by rw [ht]; exact hP9, va_K.moved hW.alike hK9, hD9⟩, hS.F ht⟩) hS.2.2 dJx4a65c_add_72be8_22
set_option maxHeartbeats 4000000 in
set_option maxRecDepth 100000 in
/-- add(e), element 9 -/
theorem c_List_add9 (l : Launch) (dC : Nat → ClassId) (dI : Nat → Nat → Nat) (dA : Nat) (h0 : Nat) (a1 : Nat) (a2 : Nat) (cA : ClassId) (f : Nat → Option Nat) (st_shelf : Nat) (st_first : Nat) (st_second : Nat) (st_third : Nat) (st_at : Int32) (st_locks : Nat) (st_mirrors : Int32) (st_fetched : Int32) (st_wrong : Nat) (st_offered : Nat) (st_offeredSums : Nat) (sz : Nat) : Met l yJx4a65c_add_9ea2d (.code yJx4a65c_add_9ea2d cJx4a65c_add_9ea2d 2 (some .boolean) :: wsL_law) ({ frames := 1, cells := 0, slots := 0, locals := 23 }) (va_Pc [.ref h0, .ref a1] (fun U => U.heap.size = sz ∧ va_P (dC, dI) vwCl [(h0, .inr (0, [.int 9, .ref a2, .int 9])), (a1, .inr (12, [.ref st_shelf, .ref st_first, .ref st_second, .ref st_third, .int st_at, .ref st_locks, .int st_mirrors, .int st_fetched, .ref st_wrong, .ref st_offered, .ref st_offeredSums])), (a2, .inl (cA, 10, .inr (.inr (.inr (.inr f)))))] U.heap ∧ va_K (dC, dI) vwCl [(cA, .object "java/lang/Object")] U ∧ va_D (fun _ => True) [(h0, .inr (0, [.int 9, .ref a2, .int 9])), (a1, .inr (12, [.ref st_shelf, .ref st_first, .ref st_second, .ref st_third, .int st_at, .ref st_locks, .int st_mirrors, .int st_fetched, .ref st_wrong, .ref st_offered, .ref st_offeredSums])), (a2, .inl (cA, 10, .inr (.inr (.inr (.inr f)))))] ∧ kwF U ∧ kwH dA (va_A [(h0, .inr (0, [.int 9, .ref a2, .int 9])), (a1, .inr (12, [.ref st_shelf, .ref st_first, .ref st_second, .ref st_third, .int st_at, .ref st_locks, .int st_mirrors, .int st_fetched, .ref st_wrong, .ref st_offered, .ref st_offeredSums])), (a2, .inl (cA, 10, .inr (.inr (.inr (.inr f)))))] sz) U U.heap)) (va_Qi (fun (r : Int32) (_ : Unit) => r = 1) (fun _ t => va_P (dC, dI) vwCl [(h0, .inr (0, [.int 10, .ref a2, .int 10])), (a1, .inr (12, [.ref st_shelf, .ref st_first, .ref st_second, .ref st_third, .int st_at, .ref st_locks, .int st_mirrors, .int st_fetched, .ref st_wrong, .ref st_offered, .ref st_offeredSums])), (a2, .inl (cA, 10, .inr (.inr (.inr (.inr (va_up f 9 (some a1)))))))] t.heap ∧ va_K (dC, dI) vwCl [] t ∧ va_D (va_A [(h0, .inr (0, [.int 9, .ref a2, .int 9])), (a1, .inr (12, [.ref st_shelf, .ref st_first, .ref st_second, .ref st_third, .int st_at, .ref st_locks, .int st_mirrors, .int st_fetched, .ref st_wrong, .ref st_offered, .ref st_offeredSums])), (a2, .inl (cA, 10, .inr (.inr (.inr (.inr f)))))] sz) [(h0, .inr (0, [.int 10, .ref a2, .int 10])), (a1, .inr (12, [.ref st_shelf, .ref st_first, .ref st_second, .ref st_third, .int st_at, .ref st_locks, .int st_mirrors, .int st_fetched, .ref st_wrong, .ref st_offered, .ref st_offeredSums])), (a2, .inl (cA, 10, .inr (.inr (.inr (.inr (va_up f 9 (some a1)))))))]) (va_A [(h0, .inr (0, [.int 9, .ref a2, .int 9])), (a1, .inr (12, [.ref st_shelf, .ref st_first, .ref st_second, .ref st_third, .int st_at, .ref st_locks, .int st_mirrors, .int st_fetched, .ref st_wrong, .ref st_offered, .ref st_offeredSums])), (a2, .inl (cA, 10, .inr (.inr (.inr (.inr f)))))] sz)) 0 0 (va_A [(h0, .inr (0, [.int 9, .ref a2, .int 9])), (a1, .inr (12, [.ref st_shelf, .ref st_first, .ref st_second, .ref st_third, .int st_at, .ref st_locks, .int st_mirrors, .int st_fetched, .ref st_wrong, .ref st_offered, .ref st_offeredSums])), (a2, .inl (cA, 10, .inr (.inr (.inr (.inr f)))))] sz) := by
  refine Met.ofW (cc := cJx4a65c_add_9ea2d) (maxL := 2) (ret := (some .boolean)) (by decide) rfl ?_
  intro p e s m args below meth c s₁ B hml hv
  obtain ⟨rfl, hsz, hP, hK, hD0, hF, hZ⟩ := hv
  have hx := B.exec
  have hb := B.bytes
  have hr := B.returns
  have hts0 := atoms_spec (ws := (.code yJx4a65c_add_9ea2d cJx4a65c_add_9ea2d 2 (some .boolean) :: wsL_law)) B.pre
  have hts : ∀ w ∈ wsL_law, w.before _ s = true := fun w h => hts0 w (List.mem_cons_of_mem _ h)
  have hown : s.vm.findClass RJx4a65c = some m.cls := findClass_of_methodNamed B.named
  have hlocks := B.notSynchronized
  have hin : meth.name = "add" := (name_of_methodNamed B.named B.method).1
  subst hsz
  have hD := hD0.self (sz := s.heap.size)
  generalize hAe : va_A [(h0, .inr (0, [.int 9, .ref a2, .int 9])), (a1, .inr (12, [.ref st_shelf, .ref st_first, .ref st_second, .ref st_third, .int st_at, .ref st_locks, .int st_mirrors, .int st_fetched, .ref st_wrong, .ref st_offered, .ref st_offeredSums])), (a2, .inl (cA, 10, .inr (.inr (.inr (.inr f)))))] s.heap.size = A at hD hZ ⊢
  have hA : ∀ q : Nat, s.heap.size ≤ q → A q := fun q h => by rw [← hAe]; exact Or.inr h
  have hS : va_S A s.heap s.heap [] := va_S.rf
  have hP : va_P (dC, dI) vwCl [(h0, .inr (0, [.int 9, .ref a2, .int 9])), (a1, .inr (12, [.ref st_shelf, .ref st_first, .ref st_second, .ref st_third, .int st_at, .ref st_locks, .int st_mirrors, .int st_fetched, .ref st_wrong, .ref st_offered, .ref st_offeredSums])), (a2, .inl (cA, 10, .inr (.inr (.inr (.inr f)))))] s.heap := hP
  have hl := lv_entry ([.ref h0, .ref a1]) (n := 2) (Nat.le_of_ble_eq_true rfl)
  rw [lg_entry_eq]
  generalize (lg_sl ([.ref h0, .ref a1]) ++ List.replicate (2 - (lg_sl ([.ref h0, .ref a1])).length) Slot.unset).toArray = ls at hl ⊢
  have hl : lv_has ls 2 [(0, .ref h0), (1, .ref a1)] := hl
  refine lv_aload_n hx hb dJx4a65c_add_9ea2d_0 rfl (lv_at hl 0 rfl) ?_
  refine lv_dup hx hb dJx4a65c_add_9ea2d_1 rfl ?_
  refine va_get (D := (dC, dI)) (ci := 0) (v := .int 9) (C := RJx4a65c) (T := TJx4a65c) (N := 3) hx hb hts inlJx4a65c hown hK hP 0 rfl rfl 0 (by decide) (hts (.fieldLink RJx4a65c 63 "java/util/ArrayList" "modCount" "I") (inLU_10 (.fieldLink RJx4a65c 63 "java/util/ArrayList" "modCount" "I") (List.mem_of_getElem? (i := 17) rfl))) (fun x9 h9 => u_same (hts (.sameField "java/util/ArrayList" "java/util/AbstractList" "modCount" "I") (inLU_10 (.sameField "java/util/ArrayList" "java/util/AbstractList" "modCount" "I") (List.mem_of_getElem? (i := 18) rfl))) x9 h9) rfl dJx4a65c_add_9ea2d_2 ?_
  refine lv_iconst (v := 1) hx hb dJx4a65c_add_9ea2d_5 (by decide) ?_
  refine lv_iadd hx hb dJx4a65c_add_9ea2d_6 ?_
  refine lv_topi (fun x1 ex1 => ?_)
  obtain rfl : x1 = 10 := ex1.trans (by decide)
  refine va_put (D := (dC, dI)) (ci := 0) (v := .int 10) (ty := .int) (C := RJx4a65c) (T := TJx4a65c) (N := 3) hx hb hts inlJx4a65c tyJx4a65c tyJx4a65c_ok nmJx4a65c hown hK hP hD hS 0 rfl rfl 0 (by decide) (hts (.fieldLink RJx4a65c 63 "java/util/ArrayList" "modCount" "I") (inLU_10 (.fieldLink RJx4a65c 63 "java/util/ArrayList" "modCount" "I") (List.mem_of_getElem? (i := 17) rfl))) (fun x9 h9 => u_same (hts (.sameField "java/util/ArrayList" "java/util/AbstractList" "modCount" "I") (inLU_10 (.sameField "java/util/ArrayList" "java/util/AbstractList" "modCount" "I") (List.mem_of_getElem? (i := 18) rfl))) x9 h9) rfl (tyJx4a65c_ok 0 (by decide)) rfl rfl (Nat.le_of_ble_eq_true rfl) dJx4a65c_add_9ea2d_7 (fun H locs hP hD hS => ?_)
  have hP : va_P (dC, dI) vwCl [(h0, .inr (0, [.int 10, .ref a2, .int 9])), (a1, .inr (12, [.ref st_shelf, .ref st_first, .ref st_second, .ref st_third, .int st_at, .ref st_locks, .int st_mirrors, .int st_fetched, .ref st_wrong, .ref st_offered, .ref st_offeredSums])), (a2, .inl (cA, 10, .inr (.inr (.inr (.inr f)))))] H := hP
  have hD : va_D A [(h0, .inr (0, [.int 10, .ref a2, .int 9])), (a1, .inr (12, [.ref st_shelf, .ref st_first, .ref st_second, .ref st_third, .int st_at, .ref st_locks, .int st_mirrors, .int st_fetched, .ref st_wrong, .ref st_offered, .ref st_offeredSums])), (a2, .inl (cA, 10, .inr (.inr (.inr (.inr f)))))] := hD
  refine lv_aload_n hx hb dJx4a65c_add_9ea2d_10 rfl (lv_at hl 0 rfl) ?_
  refine lv_aload_n hx hb dJx4a65c_add_9ea2d_11 rfl (lv_at hl 1 rfl) ?_
  refine lv_aload_n hx hb dJx4a65c_add_9ea2d_12 rfl (lv_at hl 0 rfl) ?_
  refine va_get (D := (dC, dI)) (ci := 0) (v := .ref a2) (C := RJx4a65c) (T := TJx4a65c) (N := 3) hx hb hts inlJx4a65c hown hK hP 0 rfl rfl 1 (by decide) (hts (.fieldLink RJx4a65c 9 "java/util/ArrayList" "elementData" "[Ljava/lang/Object;") (inLU_6 (.fieldLink RJx4a65c 9 "java/util/ArrayList" "elementData" "[Ljava/lang/Object;") (List.mem_of_getElem? (i := 11) rfl))) (fun _ h9 => h9) rfl dJx4a65c_add_9ea2d_13 ?_
  refine lv_aload_n hx hb dJx4a65c_add_9ea2d_16 rfl (lv_at hl 0 rfl) ?_
  refine va_get (D := (dC, dI)) (ci := 0) (v := .int 9) (C := RJx4a65c) (T := TJx4a65c) (N := 3) hx hb hts inlJx4a65c hown hK hP 0 rfl rfl 2 (by decide) (hts (.fieldLink RJx4a65c 48 "java/util/ArrayList" "size" "I") (inLU_10 (.fieldLink RJx4a65c 48 "java/util/ArrayList" "size" "I") (List.mem_of_getElem? (i := 19) rfl))) (fun _ h9 => h9) rfl dJx4a65c_add_9ea2d_17 ?_
  have hPc := hP.sub (ws' := [(h0, .inr (0, [.int 10, .ref a2, .int 9])), (a1, .inr (12, [.ref st_shelf, .ref st_first, .ref st_second, .ref st_third, .int st_at, .ref st_locks, .int st_mirrors, .int st_fetched, .ref st_wrong, .ref st_offered, .ref st_offeredSums])), (a2, .inl (cA, 10, .inr (.inr (.inr (.inr f)))))]) [0, 1, 2] rfl
  have hDc := hD.sub (ws' := [(h0, .inr (0, [.int 10, .ref a2, .int 9])), (a1, .inr (12, [.ref st_shelf, .ref st_first, .ref st_second, .ref st_third, .int st_at, .ref st_locks, .int st_mirrors, .int st_fetched, .ref st_wrong, .ref st_offered, .ref st_offeredSums])), (a2, .inl (cA, 10, .inr (.inr (.inr (.inr f)))))]) [0, 1, 2] (by decide) rfl
  have hKc := hK.sub (tys' := [(cA, .object "java/lang/Object")]) [0] rfl
  have hFc := va_free (wc := [(h0, .inr (0, [.int 10, .ref a2, .int 9])), (a1, .inr (12, [.ref st_shelf, .ref st_first, .ref st_second, .ref st_third, .int st_at, .ref st_locks, .int st_mirrors, .int st_fetched, .ref st_wrong, .ref st_offered, .ref st_offeredSums])), (a2, .inl (cA, 10, .inr (.inr (.inr (.inr f)))))]) hD hS hA [0, 1, 2] rfl
  refine va_callv (va_runV (As := [.ref a1, .ref a2, .int 9]) (rest := []) ⟨hx, hb, hml, hown, hts⟩ (c_List_put9 l dC dI dA h0 a1 a2 cA f st_shelf st_first st_second st_third st_at st_locks st_mirrors st_fetched st_wrong st_offered st_offeredSums H.size) (cwV 3 hts (gLU_V (inLU_10 (.methodLink RJx4a65c 131 yJx4a65c_add_72be8) (List.mem_of_getElem? (i := 20) rfl)) (inLU_10 (.instanceMethod yJx4a65c_add_72be8) (List.mem_of_getElem? (i := 21) rfl)) (inLU_10 (.selects RJx4a65c yJx4a65c_add_72be8 yJx4a65c_add_72be8) (List.mem_of_getElem? (i := 22) rfl)) (inLU_1 (.initialized RJx4a65c) (List.mem_of_getElem? (i := 23) rfl)) (inLU_10 (.code yJx4a65c_add_72be8 cJx4a65c_add_72be8 4 none) (List.mem_of_getElem? (i := 23) rfl))) rfl rfl rfl (by decide +kernel) ⟨Nat.le_of_ble_eq_true rfl, Nat.le_of_ble_eq_true rfl⟩) ⟨fun a U g mk q => by obtain ⟨q0, q1, qP, qK, qD, qF, qZ⟩ := q; exact ⟨q0, q1, qP, va_K.moved (u := U) (U := U.calling g mk a) (Vm.Alike.refl U.vm) qK, qD, kwF.same (u := U) (U := U.calling g mk a) rfl qF, kwH.moved (u := U) (U := U.calling g mk a) (Vm.Alike.refl U.vm) qZ⟩, va_recv hKc hPc (ci := 0) (q0 := 0) rfl rfl, fun U hU hW => ⟨rfl, by rw [hU], by rw [hU]; exact hPc, va_K.moved hW.alike hKc, hDc.weaken (fun _ _ _ _ => trivial), kwF.warm hW hF, kwH.at hZ hS hFc hW.alike hU⟩⟩ rfl rfl hl.1 rfl (lv_room (Nat.le_of_ble_eq_true rfl)) dJx4a65c_add_9ea2d_20 ⟨Nat.le_of_ble_eq_true rfl, Nat.le_of_ble_eq_true rfl⟩) hS (fun q _ h => hFc q h) hFc (fun u t H1 locs ht hvm hw hB hz1 hk1 hS => ?_)
  obtain ⟨hP1, hK1, hD1⟩ := hB
  rw [ht] at hP1
  have hK1 := va_K.moved hvm.symm hK1
  obtain ⟨hP, hD⟩ := va_join (wr := []) (w1 := [(h0, .inr (0, [.int 10, .ref a2, .int 10])), (a1, .inr (12, [.ref st_shelf, .ref st_first, .ref st_second, .ref st_third, .int st_at, .ref st_locks, .int st_mirrors, .int st_fetched, .ref st_wrong, .ref st_offered, .ref st_offeredSums])), (a2, .inl (cA, 10, .inr (.inr (.inr (.inr (va_up f 9 (some a1)))))))]) hP hD [0, 1, 2] [] rfl rfl (by decide) (by decide) hk1 hFc hP1 hD1
  have hK := hK.app hK1
  generalize H1 = H at hP hS ⊢
  have hK : va_K (dC, dI) vwCl [(cA, .object "java/lang/Object")] s := hK
  have hP : va_P (dC, dI) vwCl [(h0, .inr (0, [.int 10, .ref a2, .int 10])), (a1, .inr (12, [.ref st_shelf, .ref st_first, .ref st_second, .ref st_third, .int st_at, .ref st_locks, .int st_mirrors, .int st_fetched, .ref st_wrong, .ref st_offered, .ref st_offeredSums])), (a2, .inl (cA, 10, .inr (.inr (.inr (.inr (va_up f 9 (some a1)))))))] H := hP
  have hD : va_D A [(h0, .inr (0, [.int 10, .ref a2, .int 10])), (a1, .inr (12, [.ref st_shelf, .ref st_first, .ref st_second, .ref st_third, .int st_at, .ref st_locks, .int st_mirrors, .int st_fetched, .ref st_wrong, .ref st_offered, .ref st_offeredSums])), (a2, .inl (cA, 10, .inr (.inr (.inr (.inr (va_up f 9 (some a1)))))))] := hD
  refine W.widen (k := 0) (n := 0) (Nat.le_of_ble_eq_true rfl) (Nat.le_of_ble_eq_true rfl) ?_
  refine lv_iconst (v := 1) hx hb dJx4a65c_add_9ea2d_23 (by decide) ?_
  have hP9 := hP.sub (ws' := [(h0, .inr (0, [.int 10, .ref a2, .int 10])), (a1, .inr (12, [.ref st_shelf, .ref st_first, .ref st_second, .ref st_third, .int st_at, .ref st_locks, .int st_mirrors, .int st_fetched, .ref st_wrong, .ref st_offered, .ref st_offeredSums])), (a2, .inl (cA, 10, .inr (.inr (.inr (.inr (va_up f 9 (some a1)))))))]) [0, 1, 2] rfl
  have hD9 := hD.sub (ws' := [(h0, .inr (0, [.int 10, .ref a2, .int 10])), (a1, .inr (12, [.ref st_shelf, .ref st_first, .ref st_second, .ref st_third, .int st_at, .ref st_locks, .int st_mirrors, .int st_fetched, .ref st_wrong, .ref st_offered, .ref st_offeredSums])), (a2, .inl (cA, 10, .inr (.inr (.inr (.inr (va_up f 9 (some a1)))))))]) [0, 1, 2] (by decide) rfl
  have hK9 := hK.sub (tys' := []) [] rfl
  exact W.zret (v := 1) hx hb hr rfl (fun t ht hW => ⟨⟨1, (), rfl, rfl, by rw [ht]; exact hP9, va_K.moved hW.alike hK9, hD9⟩, hS.F ht⟩) hS.2.2 dJx4a65c_add_9ea2d_24
