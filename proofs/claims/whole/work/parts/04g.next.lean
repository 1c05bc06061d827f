/-! ONE STEP OF THE ABSTRACT MACHINE THAT GOES ON IN ITS METHOD IS ONE OF THE JVM -/
theorem xnx_inv {pc pc1 : Nat} {ls l1 : XL} {st st1 : List Value} {h h1 : XH} (e : xnx pc ls st h = some (.inl (pc1, l1, st1, h1))) : pc = pc1 ∧ ls = l1 ∧ st = st1 ∧ h = h1 := by
  unfold xnx at e
  cases e
  exact ⟨rfl, rfl, rfl, rfl⟩
theorem xjmp_inv {pc pc1 : Nat} {off : Int} {ls l1 : XL} {st st1 : List Value} {h h1 : XH} (e : xjmp pc off ls st h = some (.inl (pc1, l1, st1, h1))) : (pc : Int) + off = (pc1 : Int) ∧ ls = l1 ∧ st = st1 ∧ h = h1 := by
  unfold xjmp at e
  split at e
  · next t ht =>
    obtain ⟨rfl, rfl, rfl, rfl⟩ := xnx_inv e
    exact ⟨ht, rfl, rfl, rfl⟩
  · cases e
theorem xbr_inv {bb : Bool} {pc pc1 : Nat} {off : Int} {ls l1 : XL} {st st1 : List Value} {h h1 : XH} (e : xbr bb pc off ls st h = some (.inl (pc1, l1, st1, h1))) : ∃ t : Nat, (pc : Int) + off = (t : Int) ∧ ls = l1 ∧ st = st1 ∧ h = h1 ∧ ((bb = true ∧ t = pc1) ∨ (bb = false ∧ pc + 3 = pc1)) := by
  unfold xbr at e
  split at e
  · next t ht =>
    cases bb
    · obtain ⟨rfl, rfl, rfl, rfl⟩ := xnx_inv e
      exact ⟨t, ht, rfl, rfl, rfl, Or.inr ⟨rfl, rfl⟩⟩
    · obtain ⟨rfl, rfl, rfl, rfl⟩ := xnx_inv e
      exact ⟨_, ht, rfl, rfl, rfl, Or.inl ⟨rfl, rfl⟩⟩
  · cases e
theorem x1i_inv {st : List Value} {f : Int32 → List Value → Option XR} {q : XR} (e : x1i st f = some q) : ∃ x r, st = .int x :: r ∧ f x r = some q := by
  unfold x1i at e
  split at e
  · exact ⟨_, _, rfl, e⟩
  · cases e
theorem x1l_inv {st : List Value} {f : Int64 → List Value → Option XR} {q : XR} (e : x1l st f = some q) : ∃ x r, st = .long x :: r ∧ f x r = some q := by
  unfold x1l at e
  split at e
  · exact ⟨_, _, rfl, e⟩
  · cases e
theorem x1d_inv {st : List Value} {f : UInt64 → List Value → Option XR} {q : XR} (e : x1d st f = some q) : ∃ x r, st = .double x :: r ∧ f x r = some q := by
  unfold x1d at e
  split at e
  · exact ⟨_, _, rfl, e⟩
  · cases e
theorem x1f_inv {st : List Value} {f : UInt32 → List Value → Option XR} {q : XR} (e : x1f st f = some q) : ∃ x r, st = .float x :: r ∧ f x r = some q := by
  unfold x1f at e
  split at e
  · exact ⟨_, _, rfl, e⟩
  · cases e
theorem x2i_inv {st : List Value} {f : Int32 → Int32 → List Value → Option XR} {q : XR} (e : x2i st f = some q) : ∃ x y r, st = .int y :: .int x :: r ∧ f x y r = some q := by
  unfold x2i at e
  split at e
  · exact ⟨_, _, _, rfl, e⟩
  · cases e
theorem x2l_inv {st : List Value} {f : Int64 → Int64 → List Value → Option XR} {q : XR} (e : x2l st f = some q) : ∃ x y r, st = .long y :: .long x :: r ∧ f x y r = some q := by
  unfold x2l at e
  split at e
  · exact ⟨_, _, _, rfl, e⟩
  · cases e
theorem x2d_inv {st : List Value} {f : UInt64 → UInt64 → List Value → Option XR} {q : XR} (e : x2d st f = some q) : ∃ x y r, st = .double y :: .double x :: r ∧ f x y r = some q := by
  unfold x2d at e
  split at e
  · exact ⟨_, _, _, rfl, e⟩
  · cases e
theorem x2f_inv {st : List Value} {f : UInt32 → UInt32 → List Value → Option XR} {q : XR} (e : x2f st f = some q) : ∃ x y r, st = .float y :: .float x :: r ∧ f x y r = some q := by
  unfold x2f at e
  split at e
  · exact ⟨_, _, _, rfl, e⟩
  · cases e
theorem xli_inv {st : List Value} {f : Int64 → Int32 → List Value → Option XR} {q : XR} (e : xli st f = some q) : ∃ x y r, st = .int y :: .long x :: r ∧ f x y r = some q := by
  unfold xli at e
  split at e
  · exact ⟨_, _, _, rfl, e⟩
  · cases e
theorem x1a_inv {st : List Value} {f : Option Nat → List Value → Option XR} {q : XR} (e : x1a st f = some q) : ∃ x r, st = va_rf x :: r ∧ f x r = some q := by
  unfold x1a at e
  split at e
  · exact ⟨none, _, rfl, e⟩
  · exact ⟨some _, _, rfl, e⟩
  · cases e
theorem xldi_inv {ls l1 : XL} {i pc pc1 : Nat} {st st1 : List Value} {h h1 : XH} (e : xldi ls i pc st h = some (.inl (pc1, l1, st1, h1))) : ∃ x, xget ls i = some (.int x) ∧ pc = pc1 ∧ ls = l1 ∧ .int x :: st = st1 ∧ h = h1 := by
  unfold xldi at e
  split at e
  · next x hx => exact ⟨x, hx, xnx_inv e⟩
  · cases e
theorem xldl_inv {ls l1 : XL} {i pc pc1 : Nat} {st st1 : List Value} {h h1 : XH} (e : xldl ls i pc st h = some (.inl (pc1, l1, st1, h1))) : ∃ x, xget ls i = some (.long x) ∧ pc = pc1 ∧ ls = l1 ∧ .long x :: st = st1 ∧ h = h1 := by
  unfold xldl at e
  split at e
  · next x hx => exact ⟨x, hx, xnx_inv e⟩
  · cases e
theorem xldd_inv {ls l1 : XL} {i pc pc1 : Nat} {st st1 : List Value} {h h1 : XH} (e : xldd ls i pc st h = some (.inl (pc1, l1, st1, h1))) : ∃ x, xget ls i = some (.double x) ∧ pc = pc1 ∧ ls = l1 ∧ .double x :: st = st1 ∧ h = h1 := by
  unfold xldd at e
  split at e
  · next x hx => exact ⟨x, hx, xnx_inv e⟩
  · cases e
theorem xlda_inv {ls l1 : XL} {i pc pc1 : Nat} {st st1 : List Value} {h h1 : XH} (e : xlda ls i pc st h = some (.inl (pc1, l1, st1, h1))) : ∃ x, xget ls i = some (va_rf x) ∧ pc = pc1 ∧ ls = l1 ∧ va_rf x :: st = st1 ∧ h = h1 := by
  unfold xlda at e
  split at e
  · next x hx => exact ⟨some x, hx, xnx_inv e⟩
  · next hx => exact ⟨none, hx, xnx_inv e⟩
  · cases e
theorem xad_inj {b dA n0 j k : Nat} (hd : dA < n0) (hj : ¬ j = 0) (hk : ¬ k = 0) (e : xad b dA n0 j = xad b dA n0 k) : j = k := by
  match j, k with
  | 0, _ => exact absurd rfl hj
  | _, 0 => exact absurd rfl hk
  | 1, 1 => rfl
  | 1, k + 2 => have e : dA = n0 + k := e; omega
  | j + 2, 1 => have e : n0 + j = dA := e; omega
  | j + 2, k + 2 => have e : n0 + j = n0 + k := e; omega
theorem xhas_at {ad : Nat → Nat} {l : XL} {i : Nat} {v : Value} (h : xget l i = some v) : ∃ k : Nat, (xal ad l)[k]? = some (i, xcv ad v) := by
  obtain ⟨k, hk⟩ := List.getElem?_of_mem (xal_mem (ad := ad) (xget_at h))
  exact ⟨k, hk⟩
def xC (M : XM) (p : Program) (l : Launch) (s : State) (m : MethodId) (args : Array Value) (meth : Method) (c : Code) : Prop :=
  p.tables.exec = Jvm.exec ∧ c.code = M.bytes ∧ c.maxLocals = M.maxL ∧ meth.sig.returnType = M.ret ∧ (∀ w ∈ wsK, w.before args s = true) ∧ s.vm.findClass M.own = some m.cls ∧ meth.locks = false ∧ meth.name = M.y.name ∧ c.exceptionTable.toList = tableOf M.hh ∧ l.stackTraces = false
theorem xn32_of {r : UInt32} (h : xn32 r = true) : vf_n32 r := of_decide_eq_true (p := r &&& 0x7fffffff ≤ 0x7f800000) h
theorem xn64_of {r : UInt64} (h : xn64 r = true) : vf_n64 r := of_decide_eq_true (p := r &&& 0x7fffffffffffffff ≤ 0x7ff0000000000000) h
theorem xnative_ok : nativeFrameWords "java/lang/System" "arraycopy" 5 + 11 ≤ 190 := by decide +kernel
theorem xhs_app1 (h : XH) (c : XC) : xhs (h ++ [c]) - xhs h = xcs c := by rw [xhs_app]; omega
theorem xlen_app1 (h : XH) (c : XC) : (h ++ [c]).length - h.length = 1 := by simp
set_option maxHeartbeats 20000000 in
set_option maxRecDepth 100000 in
theorem xnext {P : XP} {D : va_G} {tc : Nat → ClassId} {b dA : Nat} {sc : Nat × (Nat → Int32)} {B : Heap} (HP : xTabOK P) {mi pc pc1 : Nat} {i : Instr} {M : XM} (hM : P.meth mi = some M) (hi : P.code mi pc = some i) {l l1 : XL} {st st1 : List Value} {h h1 : XH} (hs : xstep P sc mi pc i l st h = some (.inl (pc1, l1, st1, h1)))
    {p : Program} {lch : Launch} {e : Env} {Rm : Room} {s : State} {m : MethodId} {args : Array Value} {below : List Frame} {meth : Method} {c : Code} {H : Heap} {locs : List Loc} {cells slots : Nat} {ls : Array Slot} {Q : State → Prop}
    (C : xC M p lch s m args meth c) (G : xG D tc b dA sc B s) (hnews : ∀ ci fs, P.news ci = some fs → ∀ v ∈ fs, xcv (xad b dA B.size) v = v) (R : xRp D tc b dA B h H) (hsz : s.heap.size ≤ H.size) (hl : ∀ q ∈ locs, B.size ≤ q.base) (L : xLH (xad b dA B.size) ls M.maxL l) (hcl : cells + (h1.length - h.length) ≤ Rm.cells) (hsl : slots + (xhs h1 - xhs h) ≤ Rm.slots) (hfr : 1 ≤ Rm.frames) (hlo : 200 ≤ Rm.locals)
    (kk : ∀ (H1 : Heap) (locs1 : List Loc) (ls1 : Array Slot) (cells1 slots1 : Nat), xRp D tc b dA B h1 H1 → H.size ≤ H1.size → (∀ q ∈ locs1, B.size ≤ q.base) → xLH (xad b dA B.size) ls1 M.maxL l1 → cells1 ≤ cells + (h1.length - h.length) → slots1 ≤ slots + (xhs h1 - xhs h) → W p lch e Rm s m args below meth c H1 locs1 cells1 slots1 Q (F0 m pc1 ls1 (st1.map (xcv (xad b dA B.size))))) :
    W p lch e Rm s m args below meth c H locs cells slots Q (F0 m pc ls (st.map (xcv (xad b dA B.size)))) := by
  obtain ⟨hx, hb, hml, hr, hts, hown, hlocks, hnm, htab, htr⟩ := C
  obtain ⟨n, hdg, hn⟩ := (HP mi M hM).2.2.1 pc i hi
  have hS := (HP mi M hM).2.2.2
  have hK := G.1
  have hF := G.2.1
  have hll := L.2.2.1
  unfold xstep at hs
  split at hs
  · -- aconst_null
    cases eq_of_beq (show (n == 1) = true from hn)
    obtain ⟨rfl, rfl, rfl, rfl⟩ := xnx_inv hs
    exact lv_null hx hb hdg (kk H locs ls cells slots R (Nat.le_refl _) hl L (Nat.le_add_right _ _) (Nat.le_add_right _ _))
  · -- iconst
    cases eq_of_beq (show (n == 1) = true from hn)
    obtain ⟨rfl, rfl, rfl, rfl⟩ := xnx_inv hs
    exact lv_iconst hx hb hdg rfl (kk H locs ls cells slots R (Nat.le_refl _) hl L (Nat.le_add_right _ _) (Nat.le_add_right _ _))
  · -- bipush
    cases eq_of_beq (show (n == 2) = true from hn)
    obtain ⟨rfl, rfl, rfl, rfl⟩ := xnx_inv hs
    exact lv_bipush hx hb hdg rfl (kk H locs ls cells slots R (Nat.le_refl _) hl L (Nat.le_add_right _ _) (Nat.le_add_right _ _))
  · -- sipush
    cases eq_of_beq (show (n == 3) = true from hn)
    obtain ⟨rfl, rfl, rfl, rfl⟩ := xnx_inv hs
    exact lv_sipush hx hb hdg rfl (kk H locs ls cells slots R (Nat.le_refl _) hl L (Nat.le_add_right _ _) (Nat.le_add_right _ _))
  · -- lconst
    cases eq_of_beq (show (n == 1) = true from hn)
    obtain ⟨rfl, rfl, rfl, rfl⟩ := xnx_inv hs
    exact lv_lconst hx hb hdg rfl (kk H locs ls cells slots R (Nat.le_refl _) hl L (Nat.le_add_right _ _) (Nat.le_add_right _ _))
  · -- fconst
    cases eq_of_beq (show (n == 1) = true from hn)
    split at hs
    · next hk =>
      subst hk
      obtain ⟨rfl, rfl, rfl, rfl⟩ := xnx_inv hs
      exact lv_fconst0 hx hb hdg (kk H locs ls cells slots R (Nat.le_refl _) hl L (Nat.le_add_right _ _) (Nat.le_add_right _ _))
    · cases hs
  · -- dconst
    cases eq_of_beq (show (n == 1) = true from hn)
    split at hs
    · next hk =>
      subst hk
      obtain ⟨rfl, rfl, rfl, rfl⟩ := xnx_inv hs
      exact lv_dconst0 hx hb hdg (kk H locs ls cells slots R (Nat.le_refl _) hl L (Nat.le_add_right _ _) (Nat.le_add_right _ _))
    · cases hs
  · -- ldc
    cases eq_of_beq (show (n == 2) = true from hn)
    split at hs
    · rename_i v hsite
      obtain ⟨rfl, rfl, rfl, rfl⟩ := xnx_inv hs
      exact lv_ldc hx hb hown (hts _ (((hS _ _ hsite).2.2.2.2.1 rfl).1 _ rfl)) hdg (kk H locs ls cells slots R (Nat.le_refl _) hl L (Nat.le_add_right _ _) (Nat.le_add_right _ _))
    · cases hs
  · -- ldc_w
    cases eq_of_beq (show (n == 3) = true from hn)
    split at hs
    · rename_i v hsite
      obtain ⟨rfl, rfl, rfl, rfl⟩ := xnx_inv hs
      exact lv_ldcw hx hb hown (hts _ (((hS _ _ hsite).2.2.2.2.1 rfl).1 _ rfl)) hdg (kk H locs ls cells slots R (Nat.le_refl _) hl L (Nat.le_add_right _ _) (Nat.le_add_right _ _))
    · cases hs
  · -- ldc2_w
    cases eq_of_beq (show (n == 3) = true from hn)
    split at hs
    · rename_i v hsite
      obtain ⟨rfl, rfl, rfl, rfl⟩ := xnx_inv hs
      exact lv_ldc2 hx hb hown (hts _ (((hS _ _ hsite).2.2.2.2.1 rfl).2 _ rfl)) hdg (kk H locs ls cells slots R (Nat.le_refl _) hl L (Nat.le_add_right _ _) (Nat.le_add_right _ _))
    · cases hs
  · -- iload
    cases eq_of_beq (show (n == 2) = true from hn)
    obtain ⟨x, hx9, rfl, rfl, rfl, rfl⟩ := xldi_inv hs
    have hx8 := L.at hx9
    exact lv_iload hx hb hdg hx8 (kk H locs ls cells slots R (Nat.le_refl _) hl L (Nat.le_add_right _ _) (Nat.le_add_right _ _))
  · -- iload_n
    cases eq_of_beq (show (n == 1) = true from hn)
    obtain ⟨x, hx9, rfl, rfl, rfl, rfl⟩ := xldi_inv hs
    have hx8 := L.at hx9
    exact lv_iload_n hx hb hdg rfl hx8 (kk H locs ls cells slots R (Nat.le_refl _) hl L (Nat.le_add_right _ _) (Nat.le_add_right _ _))
  · -- lload
    cases eq_of_beq (show (n == 2) = true from hn)
    obtain ⟨x, hx9, rfl, rfl, rfl, rfl⟩ := xldl_inv hs
    have hx8 := L.at hx9
    exact lv_lload hx hb hdg hx8 (kk H locs ls cells slots R (Nat.le_refl _) hl L (Nat.le_add_right _ _) (Nat.le_add_right _ _))
  · -- lload_n
    cases eq_of_beq (show (n == 1) = true from hn)
    obtain ⟨x, hx9, rfl, rfl, rfl, rfl⟩ := xldl_inv hs
    have hx8 := L.at hx9
    exact lv_lload_n hx hb hdg rfl hx8 (kk H locs ls cells slots R (Nat.le_refl _) hl L (Nat.le_add_right _ _) (Nat.le_add_right _ _))
  · -- aload
    cases eq_of_beq (show (n == 2) = true from hn)
    obtain ⟨x, hx9, rfl, rfl, rfl, rfl⟩ := xlda_inv hs
    have hx8 := L.at hx9
    cases x with
    | none => exact lv_aloadN hx hb hdg hx8 (kk H locs ls cells slots R (Nat.le_refl _) hl L (Nat.le_add_right _ _) (Nat.le_add_right _ _))
    | some x => exact lv_aload hx hb hdg hx8 (kk H locs ls cells slots R (Nat.le_refl _) hl L (Nat.le_add_right _ _) (Nat.le_add_right _ _))
  · -- aload_n
    cases eq_of_beq (show (n == 1) = true from hn)
    obtain ⟨x, hx9, rfl, rfl, rfl, rfl⟩ := xlda_inv hs
    have hx8 := L.at hx9
    cases x with
    | none => exact lv_aload_nN hx hb hdg rfl hx8 (kk H locs ls cells slots R (Nat.le_refl _) hl L (Nat.le_add_right _ _) (Nat.le_add_right _ _))
    | some x => exact lv_aload_n hx hb hdg rfl hx8 (kk H locs ls cells slots R (Nat.le_refl _) hl L (Nat.le_add_right _ _) (Nat.le_add_right _ _))
  · -- dload
    cases eq_of_beq (show (n == 2) = true from hn)
    obtain ⟨x, hx9, rfl, rfl, rfl, rfl⟩ := xldd_inv hs
    have hx8 := L.at hx9
    exact lv_dload hx hb hdg hx8 (kk H locs ls cells slots R (Nat.le_refl _) hl L (Nat.le_add_right _ _) (Nat.le_add_right _ _))
  · -- dload_n
    cases eq_of_beq (show (n == 1) = true from hn)
    obtain ⟨x, hx9, rfl, rfl, rfl, rfl⟩ := xldd_inv hs
    have hx8 := L.at hx9
    exact lv_dload_n hx hb hdg rfl hx8 (kk H locs ls cells slots R (Nat.le_refl _) hl L (Nat.le_add_right _ _) (Nat.le_add_right _ _))
  · -- istore
    cases eq_of_beq (show (n == 2) = true from hn)
    unfold xsti at hs
    replace hs := x1i_inv hs
    obtain ⟨x, r, rfl, hs⟩ := hs
    split at hs
    · next hlt =>
      obtain ⟨rfl, rfl, rfl, rfl⟩ := xnx_inv hs
      exact lv_istore hx hb hdg L.has (by rw [← hll]; exact hlt) rfl (fun ls9 h9 => kk H locs ls9 cells slots R (Nat.le_refl _) hl (L.put1 (v := .int x) h9) (Nat.le_add_right _ _) (Nat.le_add_right _ _))
    · cases hs
  · -- istore_n
    cases eq_of_beq (show (n == 1) = true from hn)
    unfold xsti at hs
    replace hs := x1i_inv hs
    obtain ⟨x, r, rfl, hs⟩ := hs
    split at hs
    · next hlt =>
      obtain ⟨rfl, rfl, rfl, rfl⟩ := xnx_inv hs
      exact lv_istore_n hx hb hdg rfl L.has (by rw [← hll]; exact hlt) rfl (fun ls9 h9 => kk H locs ls9 cells slots R (Nat.le_refl _) hl (L.put1 (v := .int x) h9) (Nat.le_add_right _ _) (Nat.le_add_right _ _))
    · cases hs
  · -- lstore
    cases eq_of_beq (show (n == 2) = true from hn)
    unfold xstl at hs
    replace hs := x1l_inv hs
    obtain ⟨x, r, rfl, hs⟩ := hs
    split at hs
    · next hlt =>
      obtain ⟨rfl, rfl, rfl, rfl⟩ := xnx_inv hs
      exact lv_lstore hx hb hdg L.has (by rw [← hll]; exact hlt) rfl (fun ls9 h9 => kk H locs ls9 cells slots R (Nat.le_refl _) hl (L.put2 (v := .long x) h9) (Nat.le_add_right _ _) (Nat.le_add_right _ _))
    · cases hs
  · -- lstore_n
    cases eq_of_beq (show (n == 1) = true from hn)
    unfold xstl at hs
    replace hs := x1l_inv hs
    obtain ⟨x, r, rfl, hs⟩ := hs
    split at hs
    · next hlt =>
      obtain ⟨rfl, rfl, rfl, rfl⟩ := xnx_inv hs
      exact lv_lstore_n hx hb hdg rfl L.has (by rw [← hll]; exact hlt) rfl (fun ls9 h9 => kk H locs ls9 cells slots R (Nat.le_refl _) hl (L.put2 (v := .long x) h9) (Nat.le_add_right _ _) (Nat.le_add_right _ _))
    · cases hs
  · -- astore
    cases eq_of_beq (show (n == 2) = true from hn)
    unfold xsta at hs
    replace hs := x1a_inv hs
    obtain ⟨x, r, rfl, hs⟩ := hs
    split at hs
    · next hlt =>
      obtain ⟨rfl, rfl, rfl, rfl⟩ := xnx_inv hs
      cases x with
      | none => exact lv_astoreN hx hb hdg L.has (by rw [← hll]; exact hlt) rfl (fun ls9 h9 => kk H locs ls9 cells slots R (Nat.le_refl _) hl (L.put1 (v := .null) h9) (Nat.le_add_right _ _) (Nat.le_add_right _ _))
      | some x => exact lv_astore hx hb hdg L.has (by rw [← hll]; exact hlt) rfl (fun ls9 h9 => kk H locs ls9 cells slots R (Nat.le_refl _) hl (L.put1 (v := .ref x) h9) (Nat.le_add_right _ _) (Nat.le_add_right _ _))
    · cases hs
  · -- astore_n
    cases eq_of_beq (show (n == 1) = true from hn)
    unfold xsta at hs
    replace hs := x1a_inv hs
    obtain ⟨x, r, rfl, hs⟩ := hs
    split at hs
    · next hlt =>
      obtain ⟨rfl, rfl, rfl, rfl⟩ := xnx_inv hs
      cases x with
      | none => exact lv_astore_nN hx hb hdg rfl L.has (by rw [← hll]; exact hlt) rfl (fun ls9 h9 => kk H locs ls9 cells slots R (Nat.le_refl _) hl (L.put1 (v := .null) h9) (Nat.le_add_right _ _) (Nat.le_add_right _ _))
      | some x => exact lv_astore_n hx hb hdg rfl L.has (by rw [← hll]; exact hlt) rfl (fun ls9 h9 => kk H locs ls9 cells slots R (Nat.le_refl _) hl (L.put1 (v := .ref x) h9) (Nat.le_add_right _ _) (Nat.le_add_right _ _))
    · cases hs
  · -- dstore
    cases eq_of_beq (show (n == 2) = true from hn)
    unfold xstd at hs
    replace hs := x1d_inv hs
    obtain ⟨x, r, rfl, hs⟩ := hs
    split at hs
    · next hlt =>
      obtain ⟨rfl, rfl, rfl, rfl⟩ := xnx_inv hs
      exact lv_dstore hx hb hdg L.has (by rw [← hll]; exact hlt) rfl (fun ls9 h9 => kk H locs ls9 cells slots R (Nat.le_refl _) hl (L.put2 (v := .double x) h9) (Nat.le_add_right _ _) (Nat.le_add_right _ _))
    · cases hs
  · -- dstore_n
    cases eq_of_beq (show (n == 1) = true from hn)
    unfold xstd at hs
    replace hs := x1d_inv hs
    obtain ⟨x, r, rfl, hs⟩ := hs
    split at hs
    · next hlt =>
      obtain ⟨rfl, rfl, rfl, rfl⟩ := xnx_inv hs
      exact lv_dstore_n hx hb hdg rfl L.has (by rw [← hll]; exact hlt) rfl (fun ls9 h9 => kk H locs ls9 cells slots R (Nat.le_refl _) hl (L.put2 (v := .double x) h9) (Nat.le_add_right _ _) (Nat.le_add_right _ _))
    · cases hs
  · -- iinc
    cases eq_of_beq (show (n == 3) = true from hn)
    split at hs
    · rename_i x hx9
      split at hs
      · next hlt =>
        obtain ⟨rfl, rfl, rfl, rfl⟩ := xnx_inv hs
        obtain ⟨k9, hk9⟩ := xhas_at (ad := xad b dA B.size) hx9
        exact lv_iinc hx hb hdg L.has hk9 rfl (by rw [← hll]; exact hlt) rfl (fun ls9 h9 => kk H locs ls9 cells slots R (Nat.le_refl _) hl (L.put1 (v := .int _) h9) (Nat.le_add_right _ _) (Nat.le_add_right _ _))
      · cases hs
    · cases hs
  · -- dup
    cases eq_of_beq (show (n == 1) = true from hn)
    split at hs
    · split at hs
      · next hc => 
        obtain ⟨rfl, rfl, rfl, rfl⟩ := xnx_inv hs
        exact lv_dup hx hb hdg (by rw [xcv_cat]; exact hc) (kk H locs ls cells slots R (Nat.le_refl _) hl L (Nat.le_add_right _ _) (Nat.le_add_right _ _))
      · cases hs
    · cases hs
  · -- dup_x1
    cases eq_of_beq (show (n == 1) = true from hn)
    split at hs
    · split at hs
      · next hc => 
        obtain ⟨rfl, rfl, rfl, rfl⟩ := xnx_inv hs
        exact lv_dup_x1 hx hb hdg (by rw [xcv_cat]; exact hc.1) (by rw [xcv_cat]; exact hc.2) (kk H locs ls cells slots R (Nat.le_refl _) hl L (Nat.le_add_right _ _) (Nat.le_add_right _ _))
      · cases hs
    · cases hs
  · -- dup2
    cases eq_of_beq (show (n == 1) = true from hn)
    split at hs
    · split at hs
      · next hc => 
        obtain ⟨rfl, rfl, rfl, rfl⟩ := xnx_inv hs
        exact lv_dup2_11 hx hb hdg (by rw [xcv_cat]; exact hc.1) (by rw [xcv_cat]; exact hc.2) (kk H locs ls cells slots R (Nat.le_refl _) hl L (Nat.le_add_right _ _) (Nat.le_add_right _ _))
      · cases hs
    · cases hs
  · -- pop
    cases eq_of_beq (show (n == 1) = true from hn)
    split at hs
    · split at hs
      · next hc => 
        obtain ⟨rfl, rfl, rfl, rfl⟩ := xnx_inv hs
        exact lv_pop hx hb hdg (by rw [xcv_cat]; exact hc) (kk H locs ls cells slots R (Nat.le_refl _) hl L (Nat.le_add_right _ _) (Nat.le_add_right _ _))
      · cases hs
    · cases hs
  · -- iadd
    cases eq_of_beq (show (n == 1) = true from hn)
    replace hs := x2i_inv hs
    obtain ⟨x, y, r, rfl, hs⟩ := hs
    obtain ⟨rfl, rfl, rfl, rfl⟩ := xnx_inv hs
    exact lv_iadd hx hb hdg (kk H locs ls cells slots R (Nat.le_refl _) hl L (Nat.le_add_right _ _) (Nat.le_add_right _ _))
  · -- isub
    cases eq_of_beq (show (n == 1) = true from hn)
    replace hs := x2i_inv hs
    obtain ⟨x, y, r, rfl, hs⟩ := hs
    obtain ⟨rfl, rfl, rfl, rfl⟩ := xnx_inv hs
    exact lv_isub hx hb hdg (kk H locs ls cells slots R (Nat.le_refl _) hl L (Nat.le_add_right _ _) (Nat.le_add_right _ _))
  · -- imul
    cases eq_of_beq (show (n == 1) = true from hn)
    replace hs := x2i_inv hs
    obtain ⟨x, y, r, rfl, hs⟩ := hs
    obtain ⟨rfl, rfl, rfl, rfl⟩ := xnx_inv hs
    exact lv_imul hx hb hdg (kk H locs ls cells slots R (Nat.le_refl _) hl L (Nat.le_add_right _ _) (Nat.le_add_right _ _))
  · -- iand
    cases eq_of_beq (show (n == 1) = true from hn)
    replace hs := x2i_inv hs
    obtain ⟨x, y, r, rfl, hs⟩ := hs
    obtain ⟨rfl, rfl, rfl, rfl⟩ := xnx_inv hs
    exact lv_iand hx hb hdg (kk H locs ls cells slots R (Nat.le_refl _) hl L (Nat.le_add_right _ _) (Nat.le_add_right _ _))
  · -- ior
    cases eq_of_beq (show (n == 1) = true from hn)
    replace hs := x2i_inv hs
    obtain ⟨x, y, r, rfl, hs⟩ := hs
    obtain ⟨rfl, rfl, rfl, rfl⟩ := xnx_inv hs
    exact lv_ior hx hb hdg (kk H locs ls cells slots R (Nat.le_refl _) hl L (Nat.le_add_right _ _) (Nat.le_add_right _ _))
  · -- ixor
    cases eq_of_beq (show (n == 1) = true from hn)
    replace hs := x2i_inv hs
    obtain ⟨x, y, r, rfl, hs⟩ := hs
    obtain ⟨rfl, rfl, rfl, rfl⟩ := xnx_inv hs
    exact lv_ixor hx hb hdg (kk H locs ls cells slots R (Nat.le_refl _) hl L (Nat.le_add_right _ _) (Nat.le_add_right _ _))
  · -- ishl
    cases eq_of_beq (show (n == 1) = true from hn)
    replace hs := x2i_inv hs
    obtain ⟨x, y, r, rfl, hs⟩ := hs
    obtain ⟨rfl, rfl, rfl, rfl⟩ := xnx_inv hs
    exact lv_ishl hx hb hdg (kk H locs ls cells slots R (Nat.le_refl _) hl L (Nat.le_add_right _ _) (Nat.le_add_right _ _))
  · -- ishr
    cases eq_of_beq (show (n == 1) = true from hn)
    replace hs := x2i_inv hs
    obtain ⟨x, y, r, rfl, hs⟩ := hs
    obtain ⟨rfl, rfl, rfl, rfl⟩ := xnx_inv hs
    exact lv_ishr hx hb hdg (kk H locs ls cells slots R (Nat.le_refl _) hl L (Nat.le_add_right _ _) (Nat.le_add_right _ _))
  · -- iushr
    cases eq_of_beq (show (n == 1) = true from hn)
    replace hs := x2i_inv hs
    obtain ⟨x, y, r, rfl, hs⟩ := hs
    obtain ⟨rfl, rfl, rfl, rfl⟩ := xnx_inv hs
    exact lv_iushr hx hb hdg rfl (kk H locs ls cells slots R (Nat.le_refl _) hl L (Nat.le_add_right _ _) (Nat.le_add_right _ _))
  · -- idiv
    cases eq_of_beq (show (n == 1) = true from hn)
    replace hs := x2i_inv hs
    obtain ⟨x, y, r, rfl, hs⟩ := hs
    split at hs
    · cases hs
    · next hne =>
      obtain ⟨rfl, rfl, rfl, rfl⟩ := xnx_inv hs
      exact lv_idiv hx hb hdg hne (kk H locs ls cells slots R (Nat.le_refl _) hl L (Nat.le_add_right _ _) (Nat.le_add_right _ _))
  · -- irem
    cases eq_of_beq (show (n == 1) = true from hn)
    replace hs := x2i_inv hs
    obtain ⟨x, y, r, rfl, hs⟩ := hs
    split at hs
    · cases hs
    · next hne =>
      obtain ⟨rfl, rfl, rfl, rfl⟩ := xnx_inv hs
      exact lv_irem hx hb hdg hne (kk H locs ls cells slots R (Nat.le_refl _) hl L (Nat.le_add_right _ _) (Nat.le_add_right _ _))
  · -- ineg
    cases eq_of_beq (show (n == 1) = true from hn)
    replace hs := x1i_inv hs
    obtain ⟨x, r, rfl, hs⟩ := hs
    obtain ⟨rfl, rfl, rfl, rfl⟩ := xnx_inv hs
    exact lv_ineg hx hb hdg (kk H locs ls cells slots R (Nat.le_refl _) hl L (Nat.le_add_right _ _) (Nat.le_add_right _ _))
  · -- ladd
    cases eq_of_beq (show (n == 1) = true from hn)
    replace hs := x2l_inv hs
    obtain ⟨x, y, r, rfl, hs⟩ := hs
    obtain ⟨rfl, rfl, rfl, rfl⟩ := xnx_inv hs
    exact lv_ladd hx hb hdg (kk H locs ls cells slots R (Nat.le_refl _) hl L (Nat.le_add_right _ _) (Nat.le_add_right _ _))
  · -- lsub
    cases eq_of_beq (show (n == 1) = true from hn)
    replace hs := x2l_inv hs
    obtain ⟨x, y, r, rfl, hs⟩ := hs
    obtain ⟨rfl, rfl, rfl, rfl⟩ := xnx_inv hs
    exact lv_lsub hx hb hdg (kk H locs ls cells slots R (Nat.le_refl _) hl L (Nat.le_add_right _ _) (Nat.le_add_right _ _))
  · -- land
    cases eq_of_beq (show (n == 1) = true from hn)
    replace hs := x2l_inv hs
    obtain ⟨x, y, r, rfl, hs⟩ := hs
    obtain ⟨rfl, rfl, rfl, rfl⟩ := xnx_inv hs
    exact lv_land hx hb hdg (kk H locs ls cells slots R (Nat.le_refl _) hl L (Nat.le_add_right _ _) (Nat.le_add_right _ _))
  · -- lor
    cases eq_of_beq (show (n == 1) = true from hn)
    replace hs := x2l_inv hs
    obtain ⟨x, y, r, rfl, hs⟩ := hs
    obtain ⟨rfl, rfl, rfl, rfl⟩ := xnx_inv hs
    exact lv_lor hx hb hdg (kk H locs ls cells slots R (Nat.le_refl _) hl L (Nat.le_add_right _ _) (Nat.le_add_right _ _))
  · -- lxor
    cases eq_of_beq (show (n == 1) = true from hn)
    replace hs := x2l_inv hs
    obtain ⟨x, y, r, rfl, hs⟩ := hs
    obtain ⟨rfl, rfl, rfl, rfl⟩ := xnx_inv hs
    exact lv_lxor hx hb hdg (kk H locs ls cells slots R (Nat.le_refl _) hl L (Nat.le_add_right _ _) (Nat.le_add_right _ _))
  · -- lneg
    cases eq_of_beq (show (n == 1) = true from hn)
    replace hs := x1l_inv hs
    obtain ⟨x, r, rfl, hs⟩ := hs
    obtain ⟨rfl, rfl, rfl, rfl⟩ := xnx_inv hs
    exact lv_lneg hx hb hdg (kk H locs ls cells slots R (Nat.le_refl _) hl L (Nat.le_add_right _ _) (Nat.le_add_right _ _))
  · -- lshl
    cases eq_of_beq (show (n == 1) = true from hn)
    replace hs := xli_inv hs
    obtain ⟨x, y, r, rfl, hs⟩ := hs
    obtain ⟨rfl, rfl, rfl, rfl⟩ := xnx_inv hs
    exact lv_lshl hx hb hdg rfl (kk H locs ls cells slots R (Nat.le_refl _) hl L (Nat.le_add_right _ _) (Nat.le_add_right _ _))
  · -- lshr
    cases eq_of_beq (show (n == 1) = true from hn)
    replace hs := xli_inv hs
    obtain ⟨x, y, r, rfl, hs⟩ := hs
    obtain ⟨rfl, rfl, rfl, rfl⟩ := xnx_inv hs
    exact lv_lshr hx hb hdg rfl (kk H locs ls cells slots R (Nat.le_refl _) hl L (Nat.le_add_right _ _) (Nat.le_add_right _ _))
  · -- lushr
    cases eq_of_beq (show (n == 1) = true from hn)
    replace hs := xli_inv hs
    obtain ⟨x, y, r, rfl, hs⟩ := hs
    obtain ⟨rfl, rfl, rfl, rfl⟩ := xnx_inv hs
    exact lv_lushr hx hb hdg rfl (kk H locs ls cells slots R (Nat.le_refl _) hl L (Nat.le_add_right _ _) (Nat.le_add_right _ _))
  · -- lcmp
    cases eq_of_beq (show (n == 1) = true from hn)
    replace hs := x2l_inv hs
    obtain ⟨x, y, r, rfl, hs⟩ := hs
    obtain ⟨rfl, rfl, rfl, rfl⟩ := xnx_inv hs
    exact W.lcmp hx hb hdg (kk H locs ls cells slots R (Nat.le_refl _) hl L (Nat.le_add_right _ _) (Nat.le_add_right _ _))
  · -- i2l
    cases eq_of_beq (show (n == 1) = true from hn)
    replace hs := x1i_inv hs
    obtain ⟨x, r, rfl, hs⟩ := hs
    obtain ⟨rfl, rfl, rfl, rfl⟩ := xnx_inv hs
    exact lv_i2l hx hb hdg rfl (kk H locs ls cells slots R (Nat.le_refl _) hl L (Nat.le_add_right _ _) (Nat.le_add_right _ _))
  · -- l2i
    cases eq_of_beq (show (n == 1) = true from hn)
    replace hs := x1l_inv hs
    obtain ⟨x, r, rfl, hs⟩ := hs
    obtain ⟨rfl, rfl, rfl, rfl⟩ := xnx_inv hs
    exact lv_l2i hx hb hdg rfl (kk H locs ls cells slots R (Nat.le_refl _) hl L (Nat.le_add_right _ _) (Nat.le_add_right _ _))
  · -- i2f
    cases eq_of_beq (show (n == 1) = true from hn)
    replace hs := x1i_inv hs
    obtain ⟨x, r, rfl, hs⟩ := hs
    obtain ⟨rfl, rfl, rfl, rfl⟩ := xnx_inv hs
    exact lv_i2f hx hb hdg (kk H locs ls cells slots R (Nat.le_refl _) hl L (Nat.le_add_right _ _) (Nat.le_add_right _ _))
  · -- i2d
    cases eq_of_beq (show (n == 1) = true from hn)
    replace hs := x1i_inv hs
    obtain ⟨x, r, rfl, hs⟩ := hs
    obtain ⟨rfl, rfl, rfl, rfl⟩ := xnx_inv hs
    exact lv_i2d hx hb hdg (kk H locs ls cells slots R (Nat.le_refl _) hl L (Nat.le_add_right _ _) (Nat.le_add_right _ _))
  · -- f2d
    cases eq_of_beq (show (n == 1) = true from hn)
    replace hs := x1f_inv hs
    obtain ⟨x, r, rfl, hs⟩ := hs
    split at hs
    · next hne =>
      obtain ⟨rfl, rfl, rfl, rfl⟩ := xnx_inv hs
      exact lv_f2d hx hb hdg (xn64_of hne) (kk H locs ls cells slots R (Nat.le_refl _) hl L (Nat.le_add_right _ _) (Nat.le_add_right _ _))
    · cases hs
  · -- fdiv
    cases eq_of_beq (show (n == 1) = true from hn)
    replace hs := x2f_inv hs
    obtain ⟨x, y, r, rfl, hs⟩ := hs
    split at hs
    · next hne =>
      obtain ⟨rfl, rfl, rfl, rfl⟩ := xnx_inv hs
      exact lv_fdiv hx hb hdg (xn32_of hne) (kk H locs ls cells slots R (Nat.le_refl _) hl L (Nat.le_add_right _ _) (Nat.le_add_right _ _))
    · cases hs
  · -- ddiv
    cases eq_of_beq (show (n == 1) = true from hn)
    replace hs := x2d_inv hs
    obtain ⟨x, y, r, rfl, hs⟩ := hs
    split at hs
    · next hne =>
      obtain ⟨rfl, rfl, rfl, rfl⟩ := xnx_inv hs
      exact lv_ddiv hx hb hdg (xn64_of hne) (kk H locs ls cells slots R (Nat.le_refl _) hl L (Nat.le_add_right _ _) (Nat.le_add_right _ _))
    · cases hs
  · -- dcmp
    cases eq_of_beq (show (n == 1) = true from hn)
    replace hs := x2d_inv hs
    obtain ⟨x, y, r, rfl, hs⟩ := hs
    obtain ⟨rfl, rfl, rfl, rfl⟩ := xnx_inv hs
    exact lv_dcmp hx hb hdg (kk H locs ls cells slots R (Nat.le_refl _) hl L (Nat.le_add_right _ _) (Nat.le_add_right _ _))
  · -- ifeq
    cases eq_of_beq (show (n == 3) = true from hn)
    replace hs := x1i_inv hs
    obtain ⟨x, r, rfl, hs⟩ := hs
    obtain ⟨t9, ht9, rfl, rfl, rfl, hb9⟩ := xbr_inv hs
    rcases hb9 with ⟨e9, rfl⟩ | ⟨e9, rfl⟩
    · exact lv_if_eq hx hb hdg ht9 (fun _ => (kk H locs ls cells slots R (Nat.le_refl _) hl L (Nat.le_add_right _ _) (Nat.le_add_right _ _))) (fun z => absurd (of_decide_eq_true e9) z)
    · exact lv_if_eq hx hb hdg ht9 (fun z => absurd z (of_decide_eq_false e9)) (fun _ => (kk H locs ls cells slots R (Nat.le_refl _) hl L (Nat.le_add_right _ _) (Nat.le_add_right _ _)))
  · -- ifne
    cases eq_of_beq (show (n == 3) = true from hn)
    replace hs := x1i_inv hs
    obtain ⟨x, r, rfl, hs⟩ := hs
    obtain ⟨t9, ht9, rfl, rfl, rfl, hb9⟩ := xbr_inv hs
    rcases hb9 with ⟨e9, rfl⟩ | ⟨e9, rfl⟩
    · exact lv_if_ne hx hb hdg ht9 (fun _ => (kk H locs ls cells slots R (Nat.le_refl _) hl L (Nat.le_add_right _ _) (Nat.le_add_right _ _))) (fun z => absurd z (of_decide_eq_true e9))
    · exact lv_if_ne hx hb hdg ht9 (fun z => absurd z (of_decide_eq_false e9)) (fun _ => (kk H locs ls cells slots R (Nat.le_refl _) hl L (Nat.le_add_right _ _) (Nat.le_add_right _ _)))
  · -- iflt
    cases eq_of_beq (show (n == 3) = true from hn)
    replace hs := x1i_inv hs
    obtain ⟨x, r, rfl, hs⟩ := hs
    obtain ⟨t9, ht9, rfl, rfl, rfl, hb9⟩ := xbr_inv hs
    rcases hb9 with ⟨e9, rfl⟩ | ⟨e9, rfl⟩
    · exact lv_if_lt hx hb hdg ht9 (fun _ => (kk H locs ls cells slots R (Nat.le_refl _) hl L (Nat.le_add_right _ _) (Nat.le_add_right _ _))) (fun z => absurd (of_decide_eq_true e9) z)
    · exact lv_if_lt hx hb hdg ht9 (fun z => absurd z (of_decide_eq_false e9)) (fun _ => (kk H locs ls cells slots R (Nat.le_refl _) hl L (Nat.le_add_right _ _) (Nat.le_add_right _ _)))
  · -- ifge
    cases eq_of_beq (show (n == 3) = true from hn)
    replace hs := x1i_inv hs
    obtain ⟨x, r, rfl, hs⟩ := hs
    obtain ⟨t9, ht9, rfl, rfl, rfl, hb9⟩ := xbr_inv hs
    rcases hb9 with ⟨e9, rfl⟩ | ⟨e9, rfl⟩
    · exact lv_if_ge hx hb hdg ht9 (fun _ => (kk H locs ls cells slots R (Nat.le_refl _) hl L (Nat.le_add_right _ _) (Nat.le_add_right _ _))) (fun z => absurd (of_decide_eq_true e9) z)
    · exact lv_if_ge hx hb hdg ht9 (fun z => absurd z (of_decide_eq_false e9)) (fun _ => (kk H locs ls cells slots R (Nat.le_refl _) hl L (Nat.le_add_right _ _) (Nat.le_add_right _ _)))
  · -- ifgt
    cases eq_of_beq (show (n == 3) = true from hn)
    replace hs := x1i_inv hs
    obtain ⟨x, r, rfl, hs⟩ := hs
    obtain ⟨t9, ht9, rfl, rfl, rfl, hb9⟩ := xbr_inv hs
    rcases hb9 with ⟨e9, rfl⟩ | ⟨e9, rfl⟩
    · exact lv_if_gt hx hb hdg ht9 (fun _ => (kk H locs ls cells slots R (Nat.le_refl _) hl L (Nat.le_add_right _ _) (Nat.le_add_right _ _))) (fun z => absurd (of_decide_eq_true e9) z)
    · exact lv_if_gt hx hb hdg ht9 (fun z => absurd z (of_decide_eq_false e9)) (fun _ => (kk H locs ls cells slots R (Nat.le_refl _) hl L (Nat.le_add_right _ _) (Nat.le_add_right _ _)))
  · -- ifle
    cases eq_of_beq (show (n == 3) = true from hn)
    replace hs := x1i_inv hs
    obtain ⟨x, r, rfl, hs⟩ := hs
    obtain ⟨t9, ht9, rfl, rfl, rfl, hb9⟩ := xbr_inv hs
    rcases hb9 with ⟨e9, rfl⟩ | ⟨e9, rfl⟩
    · exact lv_if_le hx hb hdg ht9 (fun _ => (kk H locs ls cells slots R (Nat.le_refl _) hl L (Nat.le_add_right _ _) (Nat.le_add_right _ _))) (fun z => absurd (of_decide_eq_true e9) z)
    · exact lv_if_le hx hb hdg ht9 (fun z => absurd z (of_decide_eq_false e9)) (fun _ => (kk H locs ls cells slots R (Nat.le_refl _) hl L (Nat.le_add_right _ _) (Nat.le_add_right _ _)))
  · -- if_icmpeq
    cases eq_of_beq (show (n == 3) = true from hn)
    replace hs := x2i_inv hs
    obtain ⟨x, y, r, rfl, hs⟩ := hs
    obtain ⟨t9, ht9, rfl, rfl, rfl, hb9⟩ := xbr_inv hs
    rcases hb9 with ⟨e9, rfl⟩ | ⟨e9, rfl⟩
    · exact lv_icmp_eq hx hb hdg ht9 (fun _ => (kk H locs ls cells slots R (Nat.le_refl _) hl L (Nat.le_add_right _ _) (Nat.le_add_right _ _))) (fun z => absurd (of_decide_eq_true e9) z)
    · exact lv_icmp_eq hx hb hdg ht9 (fun z => absurd z (of_decide_eq_false e9)) (fun _ => (kk H locs ls cells slots R (Nat.le_refl _) hl L (Nat.le_add_right _ _) (Nat.le_add_right _ _)))
  · -- if_icmpne
    cases eq_of_beq (show (n == 3) = true from hn)
    replace hs := x2i_inv hs
    obtain ⟨x, y, r, rfl, hs⟩ := hs
    obtain ⟨t9, ht9, rfl, rfl, rfl, hb9⟩ := xbr_inv hs
    rcases hb9 with ⟨e9, rfl⟩ | ⟨e9, rfl⟩
    · exact lv_icmp_ne hx hb hdg ht9 (fun _ => (kk H locs ls cells slots R (Nat.le_refl _) hl L (Nat.le_add_right _ _) (Nat.le_add_right _ _))) (fun z => absurd z (of_decide_eq_true e9))
    · exact lv_icmp_ne hx hb hdg ht9 (fun z => absurd z (of_decide_eq_false e9)) (fun _ => (kk H locs ls cells slots R (Nat.le_refl _) hl L (Nat.le_add_right _ _) (Nat.le_add_right _ _)))
  · -- if_icmplt
    cases eq_of_beq (show (n == 3) = true from hn)
    replace hs := x2i_inv hs
    obtain ⟨x, y, r, rfl, hs⟩ := hs
    obtain ⟨t9, ht9, rfl, rfl, rfl, hb9⟩ := xbr_inv hs
    rcases hb9 with ⟨e9, rfl⟩ | ⟨e9, rfl⟩
    · exact lv_icmp_lt hx hb hdg ht9 (fun _ => (kk H locs ls cells slots R (Nat.le_refl _) hl L (Nat.le_add_right _ _) (Nat.le_add_right _ _))) (fun z => absurd (of_decide_eq_true e9) z)
    · exact lv_icmp_lt hx hb hdg ht9 (fun z => absurd z (of_decide_eq_false e9)) (fun _ => (kk H locs ls cells slots R (Nat.le_refl _) hl L (Nat.le_add_right _ _) (Nat.le_add_right _ _)))
  · -- if_icmpge
    cases eq_of_beq (show (n == 3) = true from hn)
    replace hs := x2i_inv hs
    obtain ⟨x, y, r, rfl, hs⟩ := hs
    obtain ⟨t9, ht9, rfl, rfl, rfl, hb9⟩ := xbr_inv hs
    rcases hb9 with ⟨e9, rfl⟩ | ⟨e9, rfl⟩
    · exact lv_icmp_ge hx hb hdg ht9 (fun _ => (kk H locs ls cells slots R (Nat.le_refl _) hl L (Nat.le_add_right _ _) (Nat.le_add_right _ _))) (fun z => absurd (of_decide_eq_true e9) z)
    · exact lv_icmp_ge hx hb hdg ht9 (fun z => absurd z (of_decide_eq_false e9)) (fun _ => (kk H locs ls cells slots R (Nat.le_refl _) hl L (Nat.le_add_right _ _) (Nat.le_add_right _ _)))
  · -- if_icmpgt
    cases eq_of_beq (show (n == 3) = true from hn)
    replace hs := x2i_inv hs
    obtain ⟨x, y, r, rfl, hs⟩ := hs
    obtain ⟨t9, ht9, rfl, rfl, rfl, hb9⟩ := xbr_inv hs
    rcases hb9 with ⟨e9, rfl⟩ | ⟨e9, rfl⟩
    · exact lv_icmp_gt hx hb hdg ht9 (fun _ => (kk H locs ls cells slots R (Nat.le_refl _) hl L (Nat.le_add_right _ _) (Nat.le_add_right _ _))) (fun z => absurd (of_decide_eq_true e9) z)
    · exact lv_icmp_gt hx hb hdg ht9 (fun z => absurd z (of_decide_eq_false e9)) (fun _ => (kk H locs ls cells slots R (Nat.le_refl _) hl L (Nat.le_add_right _ _) (Nat.le_add_right _ _)))
  · -- if_icmple
    cases eq_of_beq (show (n == 3) = true from hn)
    replace hs := x2i_inv hs
    obtain ⟨x, y, r, rfl, hs⟩ := hs
    obtain ⟨t9, ht9, rfl, rfl, rfl, hb9⟩ := xbr_inv hs
    rcases hb9 with ⟨e9, rfl⟩ | ⟨e9, rfl⟩
    · exact lv_icmp_le hx hb hdg ht9 (fun _ => (kk H locs ls cells slots R (Nat.le_refl _) hl L (Nat.le_add_right _ _) (Nat.le_add_right _ _))) (fun z => absurd (of_decide_eq_true e9) z)
    · exact lv_icmp_le hx hb hdg ht9 (fun z => absurd z (of_decide_eq_false e9)) (fun _ => (kk H locs ls cells slots R (Nat.le_refl _) hl L (Nat.le_add_right _ _) (Nat.le_add_right _ _)))
  · -- ifnull
    cases eq_of_beq (show (n == 3) = true from hn)
    replace hs := x1a_inv hs
    obtain ⟨x, r, rfl, hs⟩ := hs
    obtain ⟨t9, ht9, rfl, rfl, rfl, hb9⟩ := xbr_inv hs
    cases x with
    | none =>
      rcases hb9 with ⟨e9, rfl⟩ | ⟨e9, rfl⟩
      · exact lv_ifnullN hx hb hdg ht9 (kk H locs ls cells slots R (Nat.le_refl _) hl L (Nat.le_add_right _ _) (Nat.le_add_right _ _))
      · cases e9
    | some x =>
      rcases hb9 with ⟨e9, rfl⟩ | ⟨e9, rfl⟩
      · cases e9
      · exact lv_ifnull hx hb hdg (kk H locs ls cells slots R (Nat.le_refl _) hl L (Nat.le_add_right _ _) (Nat.le_add_right _ _))
  · -- ifnonnull
    cases eq_of_beq (show (n == 3) = true from hn)
    replace hs := x1a_inv hs
    obtain ⟨x, r, rfl, hs⟩ := hs
    obtain ⟨t9, ht9, rfl, rfl, rfl, hb9⟩ := xbr_inv hs
    cases x with
    | none =>
      rcases hb9 with ⟨e9, rfl⟩ | ⟨e9, rfl⟩
      · cases e9
      · exact lv_ifnonnullN hx hb hdg (kk H locs ls cells slots R (Nat.le_refl _) hl L (Nat.le_add_right _ _) (Nat.le_add_right _ _))
    | some x =>
      rcases hb9 with ⟨e9, rfl⟩ | ⟨e9, rfl⟩
      · exact lv_ifnonnull hx hb hdg ht9 (kk H locs ls cells slots R (Nat.le_refl _) hl L (Nat.le_add_right _ _) (Nat.le_add_right _ _))
      · cases e9
  · -- if_acmpeq
    cases eq_of_beq (show (n == 3) = true from hn)
    unfold xacmp at hs
    replace hs := x1a_inv hs
    obtain ⟨y, r, rfl, hs⟩ := hs
    replace hs := x1a_inv hs
    obtain ⟨x, r2, rfl, hs⟩ := hs
    split at hs
    · cases hs
    · next hz =>
      split at hs
      · obtain ⟨t9, ht9, rfl, rfl, rfl, hb9⟩ := xbr_inv hs
        have hinj : x.map (xad b dA B.size) = y.map (xad b dA B.size) → x = y := by
          intro z
          cases x with
          | none => cases y with
            | none => rfl
            | some y => cases z
          | some x => cases y with
            | none => cases z
            | some y => exact congrArg some (xad_inj G.2.2.2.2.2.1 (fun q => hz (Or.inl (congrArg some q))) (fun q => hz (Or.inr (congrArg some q))) (Option.some.inj z))
        show W p lch e Rm s m args below meth c H locs cells slots Q (F0 m pc ls (xcv (xad b dA B.size) (va_rf y) :: xcv (xad b dA B.size) (va_rf x) :: _))
        rw [xcv_rf, xcv_rf]
        rcases hb9 with ⟨e9, rfl⟩ | ⟨e9, rfl⟩
        · have e9 : x = y := by simpa using e9
          exact lv_acmp_eq hx hb hdg ht9 (fun _ => (kk H locs ls cells slots R (Nat.le_refl _) hl L (Nat.le_add_right _ _) (Nat.le_add_right _ _))) (fun z => absurd (congrArg (Option.map (xad b dA B.size)) e9) z)
        · have e9 : ¬ x = y := by simpa using e9
          exact lv_acmp_eq hx hb hdg ht9 (fun z => absurd (hinj z) e9) (fun _ => (kk H locs ls cells slots R (Nat.le_refl _) hl L (Nat.le_add_right _ _) (Nat.le_add_right _ _)))
      · cases hs
  · -- if_acmpne
    cases eq_of_beq (show (n == 3) = true from hn)
    unfold xacmp at hs
    replace hs := x1a_inv hs
    obtain ⟨y, r, rfl, hs⟩ := hs
    replace hs := x1a_inv hs
    obtain ⟨x, r2, rfl, hs⟩ := hs
    split at hs
    · cases hs
    · next hz =>
      split at hs
      · obtain ⟨t9, ht9, rfl, rfl, rfl, hb9⟩ := xbr_inv hs
        have hinj : x.map (xad b dA B.size) = y.map (xad b dA B.size) → x = y := by
          intro z
          cases x with
          | none => cases y with
            | none => rfl
            | some y => cases z
          | some x => cases y with
            | none => cases z
            | some y => exact congrArg some (xad_inj G.2.2.2.2.2.1 (fun q => hz (Or.inl (congrArg some q))) (fun q => hz (Or.inr (congrArg some q))) (Option.some.inj z))
        show W p lch e Rm s m args below meth c H locs cells slots Q (F0 m pc ls (xcv (xad b dA B.size) (va_rf y) :: xcv (xad b dA B.size) (va_rf x) :: _))
        rw [xcv_rf, xcv_rf]
        rcases hb9 with ⟨e9, rfl⟩ | ⟨e9, rfl⟩
        · have e9 : ¬ x = y := by simpa using e9
          exact lv_acmp_ne hx hb hdg ht9 (fun _ => (kk H locs ls cells slots R (Nat.le_refl _) hl L (Nat.le_add_right _ _) (Nat.le_add_right _ _))) (fun z => absurd (hinj z) e9)
        · have e9 : x = y := by simpa using e9
          exact lv_acmp_ne hx hb hdg ht9 (fun z => absurd (congrArg (Option.map (xad b dA B.size)) e9) z) (fun _ => (kk H locs ls cells slots R (Nat.le_refl _) hl L (Nat.le_add_right _ _) (Nat.le_add_right _ _)))
      · cases hs
  · -- goto
    cases eq_of_beq (show (n == 3) = true from hn)
    obtain ⟨ht9, rfl, rfl, rfl⟩ := xjmp_inv hs
    exact lv_goto hx hb hdg ht9 (kk H locs ls cells slots R (Nat.le_refl _) hl L (Nat.le_add_right _ _) (Nat.le_add_right _ _))
  · -- tableswitch
    replace hs := x1i_inv hs
    obtain ⟨x, r, rfl, hs⟩ := hs
    split at hs
    · next hq =>
      obtain ⟨ht9, rfl, rfl, rfl⟩ := xjmp_inv hs
      exact lv_tableOut hx hb hdg hq ht9 (kk H locs ls cells slots R (Nat.le_refl _) hl L (Nat.le_add_right _ _) (Nat.le_add_right _ _))
    · next hq =>
      split at hs
      · next o ho =>
        obtain ⟨ht9, rfl, rfl, rfl⟩ := xjmp_inv hs
        exact lv_tableIn hx hb hdg (fun z => hq (Or.inl z)) (fun z => hq (Or.inr z)) ho ht9 (kk H locs ls cells slots R (Nat.le_refl _) hl L (Nat.le_add_right _ _) (Nat.le_add_right _ _))
      · cases hs
  · -- lookupswitch
    replace hs := x1i_inv hs
    obtain ⟨x, r, rfl, hs⟩ := hs
    split at hs
    · next hq =>
      obtain ⟨ht9, rfl, rfl, rfl⟩ := xjmp_inv hs
      exact lv_lookup hx hb hdg hq rfl ht9 (kk H locs ls cells slots R (Nat.le_refl _) hl L (Nat.le_add_right _ _) (Nat.le_add_right _ _))
    · cases hs
  · -- getfield
    cases eq_of_beq (show (n == 3) = true from hn)
    split at hs
    · rename_i hsite
      split at hs
      · rename_i c9 vs9 hc9
        split at hs
        · next hcc =>
          subst hcc
          split at hs
          · next v9 hv9 =>
            obtain ⟨rfl, rfl, rfl, rfl⟩ := xnx_inv hs
            exact x_get hx hb hts hown hK hF ((hS _ _ hsite).1 rfl) (R.cell (xcell_at hc9)) hv9 hdg (kk H locs ls cells slots R (Nat.le_refl _) hl L (Nat.le_add_right _ _) (Nat.le_add_right _ _))
          · cases hs
        · cases hs
      · cases hs
    · cases hs
  · -- putfield
    cases eq_of_beq (show (n == 3) = true from hn)
    split at hs
    · rename_i z9 v9 a9 r9 hsite
      split at hs
      · rename_i c9 vs9 hc9
        split at hs
        · next hcc =>
          obtain ⟨rfl, hlt9, hok9⟩ := hcc
          obtain ⟨rfl, rfl, rfl, rfl⟩ := xnx_inv hs
          exact x_put hx hb hts hown hK hnm ((hS _ _ hsite).1 rfl) ⟨_, rfl⟩ (R.cell (xcell_at hc9)) hlt9 hok9 hdg fun H1 i9 e1 e2 e3 => (kk H1 (locs ++ [⟨xad b dA B.size a9, i9⟩]) ls cells slots (R.set (xcell_at hc9) e1 e2 e3) (Nat.le_of_eq e2.symm) (fun q hq => (List.mem_append.mp hq).elim (hl q) (fun z => by rw [List.mem_singleton.mp z]; exact R.base (xcell_at hc9))) L (Nat.le_add_right _ _) (Nat.le_add_right _ _))
        · cases hs
      · cases hs
    · cases hs
  · -- getstatic
    cases eq_of_beq (show (n == 3) = true from hn)
    split at hs
    · rename_i hsite
      obtain ⟨rfl, rfl, rfl, rfl⟩ := xnx_inv hs
      exact va_gets hx hb G.2.2.1.1 (R.S G hsz hl) hown (hts _ ((hS _ _ hsite).2.2.2.2.2.2.2.2.1 rfl)) (fun _ h9 => h9) hdg (kk H locs ls cells slots R (Nat.le_refl _) hl L (Nat.le_add_right _ _) (Nat.le_add_right _ _))
    · cases hs
  · -- iaload
    cases eq_of_beq (show (n == 1) = true from hn)
    unfold xaload at hs
    split at hs
    · rename_i i9 a9 r9
      split at hs
      · next v9 hv9 =>
        split at hs
        · next hok9 =>
          obtain ⟨rfl, rfl, rfl, rfl⟩ := xnx_inv hs
          unfold xload at hv9
          split at hv9
          · split at hv9
            · next hin9 =>
              cases hv9
              exact va_sld hx hb G.2.2.2.1 (Nat.lt_of_lt_of_le G.2.2.2.2.1 G.2.2.2.2.2.2.2) (Nat.not_le.mpr G.2.2.2.2.1) (R.S G hsz hl) (xin_in hin9) hdg (kk H locs ls cells slots R (Nat.le_refl _) hl L (Nat.le_add_right _ _) (Nat.le_add_right _ _))
            · cases hv9
          · split at hv9
            · rename_i t9 vs9 hc9
              split at hv9
              · next hin9 =>
                have hok9 : (xkind h a9 == 0) = true := hok9
                unfold xkind at hok9
                rw [hc9] at hok9
                cases (eq_of_beq hok9 : t9 = 0)
                have hce := R.cell (xcell_at hc9)
                exact W.iald hx hb (xarr_cell hce) ((xarr_of hK (t := 0) (ty := .int) rfl).1 _ _) (fun q => by cases q) (xarr_in hin9) (xarr_read hv9) rfl rfl hdg (kk H locs ls cells slots R (Nat.le_refl _) hl L (Nat.le_add_right _ _) (Nat.le_add_right _ _))
              · cases hv9
            · cases hv9
        · cases hs
      · cases hs
    · cases hs
  · -- laload
    cases eq_of_beq (show (n == 1) = true from hn)
    unfold xaload at hs
    split at hs
    · rename_i i9 a9 r9
      split at hs
      · next v9 hv9 =>
        split at hs
        · next hok9 =>
          obtain ⟨rfl, rfl, rfl, rfl⟩ := xnx_inv hs
          unfold xload at hv9
          split at hv9
          · have h0 : xcell h 0 = none := by unfold xcell; rw [R.2.1]; rfl
            have hok9 : (xkind h 0 == 1) = true := hok9
            unfold xkind at hok9
            rw [h0] at hok9
            cases hok9
          · split at hv9
            · rename_i t9 vs9 hc9
              split at hv9
              · next hin9 =>
                have hok9 : (xkind h a9 == 1) = true := hok9
                unfold xkind at hok9
                rw [hc9] at hok9
                cases (eq_of_beq hok9 : t9 = 1)
                have hce := R.cell (xcell_at hc9)
                exact W.lald hx hb (xarr_cell hce) ((xarr_of hK (t := 1) (ty := .long) rfl).1 _ _) (fun q => by cases q) (xarr_in hin9) (xarr_read hv9) rfl rfl hdg (kk H locs ls cells slots R (Nat.le_refl _) hl L (Nat.le_add_right _ _) (Nat.le_add_right _ _))
              · cases hv9
            · cases hv9
        · cases hs
      · cases hs
    · cases hs
  · -- baload
    cases eq_of_beq (show (n == 1) = true from hn)
    unfold xaload at hs
    split at hs
    · rename_i i9 a9 r9
      split at hs
      · next v9 hv9 =>
        split at hs
        · next hok9 =>
          obtain ⟨rfl, rfl, rfl, rfl⟩ := xnx_inv hs
          unfold xload at hv9
          split at hv9
          · have h0 : xcell h 0 = none := by unfold xcell; rw [R.2.1]; rfl
            have hok9 : (xkind h 0 == 2) = true := hok9
            unfold xkind at hok9
            rw [h0] at hok9
            cases hok9
          · split at hv9
            · rename_i t9 vs9 hc9
              split at hv9
              · next hin9 =>
                have hok9 : (xkind h a9 == 2) = true := hok9
                unfold xkind at hok9
                rw [hc9] at hok9
                cases (eq_of_beq hok9 : t9 = 2)
                have hce := R.cell (xcell_at hc9)
                exact W.zald hx hb (xarr_cell hce) ((xarr_of hK (t := 2) (ty := .boolean) rfl).1 _ _) (fun q => by cases q) (xarr_in hin9) (xarr_read hv9) rfl rfl hdg (kk H locs ls cells slots R (Nat.le_refl _) hl L (Nat.le_add_right _ _) (Nat.le_add_right _ _))
              · cases hv9
            · cases hv9
        · cases hs
      · cases hs
    · cases hs
  · -- aaload
    cases eq_of_beq (show (n == 1) = true from hn)
    unfold xaload at hs
    split at hs
    · rename_i i9 a9 r9
      split at hs
      · next v9 hv9 =>
        split at hs
        · next hok9 =>
          obtain ⟨rfl, rfl, rfl, rfl⟩ := xnx_inv hs
          unfold xload at hv9
          split at hv9
          · have h0 : xcell h 0 = none := by unfold xcell; rw [R.2.1]; rfl
            have hok9 : Nat.blt 2 (xkind h 0) = true := hok9
            unfold xkind at hok9
            rw [h0] at hok9
            cases hok9
          · split at hv9
            · rename_i t9 vs9 hc9
              split at hv9
              · next hin9 =>
                have hok9 : Nat.blt 2 (xkind h a9) = true := hok9
                unfold xkind at hok9
                rw [hc9] at hok9
                have hce := R.cell (xcell_at hc9)
                obtain ⟨⟨ty9, hty9⟩, -⟩ := id hce
                have href : ty9.isReference = true := by
                  have hok9 : Nat.blt 2 t9 = true := hok9
                  match t9 with
                  | 0 => cases hok9
                  | 1 => cases hok9
                  | 2 => cases hok9
                  | 3 => cases hty9; rfl
                  | 4 => cases hty9; rfl
                  | 5 => cases hty9; rfl
                  | 6 => cases hty9; rfl
                  | 7 => cases hty9; rfl
                  | n + 8 => simp at hty9
                exact W.aald hx hb (xarr_cell hce) ((xarr_of hK hty9).1 _ _) href (fun q => by cases q) (xarr_in hin9) (xarr_read hv9) rfl rfl hdg (kk H locs ls cells slots R (Nat.le_refl _) hl L (Nat.le_add_right _ _) (Nat.le_add_right _ _))
              · cases hv9
            · cases hv9
        · cases hs
      · cases hs
    · cases hs
  · -- iastore
    cases eq_of_beq (show (n == 1) = true from hn)
    split at hs
    · rename_i x9 i9 a9 r9
      replace hs := Option.bind_eq_some_iff.mp hs
      obtain ⟨h9, ha9, hs⟩ := hs
      obtain ⟨rfl, rfl, rfl, rfl⟩ := xnx_inv hs
      unfold xastore at ha9
      split at ha9
      · rename_i t9 vs9 hc9
        split at ha9
        · next hq9 =>
          obtain ⟨rfl, hin9⟩ := hq9
          cases ha9
          have hce := R.cell (xcell_at hc9)
          refine W.iast hx hb (xarr_cell hce) ((xarr_of hK (t := 0) (ty := .int) rfl).1 _ _) (fun q => by cases q) (xarr_in hin9) rfl rfl hdg fun H1 e1 e2 e3 => ?_
          have e1 : xcellAt D tc (xad b dA B.size) (xad b dA B.size a9) (.inr (0, vs9.set i9.toNatClampNeg (.int x9))) H1 := ⟨⟨_, rfl⟩, e1.trans (congrArg some (xarr_stored (v := .int x9) (xin_lt hin9)))⟩
          exact kk H1 _ ls cells slots (R.set (xcell_at hc9) e1 e2 e3) (Nat.le_of_eq e2.symm) (fun q hq => (List.mem_append.mp hq).elim (hl q) (fun z => by rw [List.mem_singleton.mp z]; exact R.base (xcell_at hc9))) L (Nat.le_add_right _ _) (Nat.le_add_right _ _)
        · cases ha9
      · cases ha9
    · cases hs
  · -- lastore
    cases eq_of_beq (show (n == 1) = true from hn)
    split at hs
    · rename_i x9 i9 a9 r9
      replace hs := Option.bind_eq_some_iff.mp hs
      obtain ⟨h9, ha9, hs⟩ := hs
      obtain ⟨rfl, rfl, rfl, rfl⟩ := xnx_inv hs
      unfold xastore at ha9
      split at ha9
      · rename_i t9 vs9 hc9
        split at ha9
        · next hq9 =>
          obtain ⟨rfl, hin9⟩ := hq9
          cases ha9
          have hce := R.cell (xcell_at hc9)
          refine W.last hx hb (xarr_cell hce) ((xarr_of hK (t := 1) (ty := .long) rfl).1 _ _) (fun q => by cases q) (xarr_in hin9) rfl rfl hdg fun H1 e1 e2 e3 => ?_
          have e1 : xcellAt D tc (xad b dA B.size) (xad b dA B.size a9) (.inr (1, vs9.set i9.toNatClampNeg (.long x9))) H1 := ⟨⟨_, rfl⟩, e1.trans (congrArg some (xarr_stored (v := .long x9) (xin_lt hin9)))⟩
          exact kk H1 _ ls cells slots (R.set (xcell_at hc9) e1 e2 e3) (Nat.le_of_eq e2.symm) (fun q hq => (List.mem_append.mp hq).elim (hl q) (fun z => by rw [List.mem_singleton.mp z]; exact R.base (xcell_at hc9))) L (Nat.le_add_right _ _) (Nat.le_add_right _ _)
        · cases ha9
      · cases ha9
    · cases hs
  · -- bastore
    cases eq_of_beq (show (n == 1) = true from hn)
    split at hs
    · rename_i x9 i9 a9 r9
      replace hs := Option.bind_eq_some_iff.mp hs
      obtain ⟨h9, ha9, hs⟩ := hs
      obtain ⟨rfl, rfl, rfl, rfl⟩ := xnx_inv hs
      unfold xastore at ha9
      split at ha9
      · rename_i t9 vs9 hc9
        split at ha9
        · next hq9 =>
          obtain ⟨rfl, hin9⟩ := hq9
          cases ha9
          have hce := R.cell (xcell_at hc9)
          refine W.zast hx hb (xarr_cell hce) ((xarr_of hK (t := 2) (ty := .boolean) rfl).1 _ _) (fun q => by cases q) (xarr_in hin9) rfl rfl hdg fun H1 e1 e2 e3 => ?_
          have e1 : xcellAt D tc (xad b dA B.size) (xad b dA B.size a9) (.inr (2, vs9.set i9.toNatClampNeg (.int (x9 &&& 1)))) H1 := ⟨⟨_, rfl⟩, e1.trans (congrArg some (xarr_stored (v := .int (x9 &&& 1)) (xin_lt hin9)))⟩
          exact kk H1 _ ls cells slots (R.set (xcell_at hc9) e1 e2 e3) (Nat.le_of_eq e2.symm) (fun q hq => (List.mem_append.mp hq).elim (hl q) (fun z => by rw [List.mem_singleton.mp z]; exact R.base (xcell_at hc9))) L (Nat.le_add_right _ _) (Nat.le_add_right _ _)
        · cases ha9
      · cases ha9
    · cases hs
  · -- aastore
    cases eq_of_beq (show (n == 1) = true from hn)
    split at hs
    · rename_i i9 a9 r9
      split at hs
      · rename_i t9 q9 hc9
        split at hs
        · next hq9 =>
          replace hs := Option.bind_eq_some_iff.mp hs
          obtain ⟨h9, ha9, hs⟩ := hs
          obtain ⟨rfl, rfl, rfl, rfl⟩ := xnx_inv hs
          unfold xastore at ha9
          split at ha9
          · rename_i t8 vs9 hc8
            rw [hc9] at hc8
            cases hc8
            split at ha9
            · next hq8 =>
              have hin9 := hq8.2
              cases ha9
              have hce := R.cell (xcell_at hc9)
              have hty9 : ∃ C9, xty[t9]? = some (.object C9) := by
                simp only [Bool.and_eq_true] at hq9
                obtain ⟨z1, z2⟩ := hq9
                match t9 with
                | 0 => cases z1
                | 1 => cases z1
                | 2 => cases z1
                | 3 => exact ⟨_, rfl⟩
                | 4 => exact ⟨_, rfl⟩
                | 5 => exact ⟨_, rfl⟩
                | 6 => exact ⟨_, rfl⟩
                | n + 7 => exact absurd (Nat.lt_of_succ_le (Nat.le_of_ble_eq_true z2)) (by omega)
              obtain ⟨C9, hty9⟩ := hty9
              exact x_aastN (ad := xad b dA B.size) hx hb hK hty9 hce hin9 hdg fun H1 j9 e1 e2 e3 => (kk H1 (locs ++ [⟨xad b dA B.size a9, j9⟩]) ls cells slots (R.set (xcell_at hc9) e1 e2 e3) (Nat.le_of_eq e2.symm) (fun q hq => (List.mem_append.mp hq).elim (hl q) (fun z => by rw [List.mem_singleton.mp z]; exact R.base (xcell_at hc9))) L (Nat.le_add_right _ _) (Nat.le_add_right _ _))
            · cases ha9
          · cases ha9
        · cases hs
      · cases hs
    · rename_i v9 i9 a9 r9
      split at hs
      · rename_i t9 q9 hc9
        split at hs
        · next hq9 =>
          replace hs := Option.bind_eq_some_iff.mp hs
          obtain ⟨h9, ha9, hs⟩ := hs
          obtain ⟨rfl, rfl, rfl, rfl⟩ := xnx_inv hs
          unfold xastore at ha9
          split at ha9
          · rename_i t8 vs9 hc8
            rw [hc9] at hc8
            cases hc8
            split at ha9
            · next hq8 =>
              have hin9 := hq8.2
              cases ha9
              have hce := R.cell (xcell_at hc9)
              rcases xhold_at hq9 hK hF with ⟨ci9, vs8, C9, r8, g1, g2, g3, g4⟩ | ⟨rfl, vs8, g1⟩
              rotate_left
              · exact x_aastA (ad := xad b dA B.size) hx hb hK hF hce (R.cell (xcell_at g1)) hin9 hdg fun H1 j9 e1 e2 e3 => (kk H1 (locs ++ [⟨xad b dA B.size a9, j9⟩]) ls cells slots (R.set (xcell_at hc9) e1 e2 e3) (Nat.le_of_eq e2.symm) (fun q hq => (List.mem_append.mp hq).elim (hl q) (fun z => by rw [List.mem_singleton.mp z]; exact R.base (xcell_at hc9))) L (Nat.le_add_right _ _) (Nat.le_add_right _ _))
              exact x_aast (ad := xad b dA B.size) hx hb hK g2 g3 g4 hce (R.cell (xcell_at g1)) hin9 hdg fun H1 j9 e1 e2 e3 => (kk H1 (locs ++ [⟨xad b dA B.size a9, j9⟩]) ls cells slots (R.set (xcell_at hc9) e1 e2 e3) (Nat.le_of_eq e2.symm) (fun q hq => (List.mem_append.mp hq).elim (hl q) (fun z => by rw [List.mem_singleton.mp z]; exact R.base (xcell_at hc9))) L (Nat.le_add_right _ _) (Nat.le_add_right _ _))
            · cases ha9
          · cases ha9
        · cases hs
      · cases hs
    · cases hs
  · -- arraylength
    cases eq_of_beq (show (n == 1) = true from hn)
    split at hs
    · obtain ⟨rfl, rfl, rfl, rfl⟩ := xnx_inv hs
      exact va_slen hx hb G.2.2.2.1 (Nat.lt_of_lt_of_le G.2.2.2.2.1 G.2.2.2.2.2.2.2) (Nat.not_le.mpr G.2.2.2.2.1) (R.S G hsz hl) hdg (kk H locs ls cells slots R (Nat.le_refl _) hl L (Nat.le_add_right _ _) (Nat.le_add_right _ _))
    · obtain ⟨rfl, rfl, rfl, rfl⟩ := xnx_inv hs
      obtain ⟨ce9, f1, f2, f3, f4, f5, f6, f7⟩ := G.2.2.1.2.1
      exact W.alen (n := 0) hx hb (by show H[dA]? = _; rw [(R.S G hsz hl).2.1 dA (Array.getElem?_eq_some_iff.mp f1).1 f7]; exact f1) f2 f5 rfl rfl hdg (kk H locs ls cells slots R (Nat.le_refl _) hl L (Nat.le_add_right _ _) (Nat.le_add_right _ _))
    · split at hs
      · rename_i t9 vs9 hc9
        obtain ⟨rfl, rfl, rfl, rfl⟩ := xnx_inv hs
        have hce := R.cell (xcell_at hc9)
        obtain ⟨⟨ty9, hty9⟩, -⟩ := id hce
        exact W.alen (n := Int32.ofNat vs9.length) hx hb (xarr_cell hce) ((xarr_of hK hty9).1 _ _) (by rw [arrV_size] <;> rfl) rfl rfl hdg (kk H locs ls cells slots R (Nat.le_refl _) hl L (Nat.le_add_right _ _) (Nat.le_add_right _ _))
      · cases hs
    · cases hs
  · -- newarray int
    cases eq_of_beq (show (n == 2) = true from hn)
    unfold xnewarr at hs
    split at hs
    · rename_i k9 r9
      split at hs
      · cases hs
      · next hn9 =>
        split at hs
        · next hbig9 =>
          obtain ⟨rfl, rfl, rfl, rfl⟩ := xnx_inv hs
          rw [xlen_app1] at hcl
          rw [xhs_app1] at hsl
          have hsl : slots + k9.toNatClampNeg ≤ Rm.slots := by have e : xcs (some (.inr (0, List.replicate k9.toNatClampNeg (.int 0)))) = k9.toNatClampNeg := List.length_replicate; rw [e] at hsl; exact hsl
          have q9 : xad b dA B.size h.length = H.size := R.new
          refine x_newarr (t := 0) (at' := .int) (v0 := .int 0) (ad := xad b dA B.size) hx hb hts hK rfl (fun z => z) xw_int rfl (by decide) hn9 (Nat.lt_of_succ_le (Nat.le_of_ble_eq_true hbig9)) hcl hsl hdg fun H1 e1 e2 e3 => ?_
          rw [← q9]
          exact (kk H1 locs ls _ _ (R.push e1 e2 e3) (by omega) hl L (by rw [xlen_app1]; exact Nat.le_refl _) (by rw [xhs_app1]; exact Nat.le_of_eq (congrArg (slots + ·) List.length_replicate.symm)))
        · cases hs
    · cases hs
  · -- newarray long
    cases eq_of_beq (show (n == 2) = true from hn)
    unfold xnewarr at hs
    split at hs
    · rename_i k9 r9
      split at hs
      · cases hs
      · next hn9 =>
        split at hs
        · next hbig9 =>
          obtain ⟨rfl, rfl, rfl, rfl⟩ := xnx_inv hs
          rw [xlen_app1] at hcl
          rw [xhs_app1] at hsl
          have hsl : slots + k9.toNatClampNeg ≤ Rm.slots := by have e : xcs (some (.inr (1, List.replicate k9.toNatClampNeg (.long 0)))) = k9.toNatClampNeg := List.length_replicate; rw [e] at hsl; exact hsl
          have q9 : xad b dA B.size h.length = H.size := R.new
          refine x_newarr (t := 1) (at' := .long) (v0 := .long 0) (ad := xad b dA B.size) hx hb hts hK rfl (fun z => z) xw_long rfl (by decide) hn9 (Nat.lt_of_succ_le (Nat.le_of_ble_eq_true hbig9)) hcl hsl hdg fun H1 e1 e2 e3 => ?_
          rw [← q9]
          exact (kk H1 locs ls _ _ (R.push e1 e2 e3) (by omega) hl L (by rw [xlen_app1]; exact Nat.le_refl _) (by rw [xhs_app1]; exact Nat.le_of_eq (congrArg (slots + ·) List.length_replicate.symm)))
        · cases hs
    · cases hs
  · -- newarray boolean
    cases eq_of_beq (show (n == 2) = true from hn)
    unfold xnewarr at hs
    split at hs
    · rename_i k9 r9
      split at hs
      · cases hs
      · next hn9 =>
        split at hs
        · next hbig9 =>
          obtain ⟨rfl, rfl, rfl, rfl⟩ := xnx_inv hs
          rw [xlen_app1] at hcl
          rw [xhs_app1] at hsl
          have hsl : slots + k9.toNatClampNeg ≤ Rm.slots := by have e : xcs (some (.inr (2, List.replicate k9.toNatClampNeg (.int 0)))) = k9.toNatClampNeg := List.length_replicate; rw [e] at hsl; exact hsl
          have q9 : xad b dA B.size h.length = H.size := R.new
          refine x_newarr (t := 2) (at' := .boolean) (v0 := .int 0) (ad := xad b dA B.size) hx hb hts hK rfl (fun z => z) xw_boolean rfl (by decide) hn9 (Nat.lt_of_succ_le (Nat.le_of_ble_eq_true hbig9)) hcl hsl hdg fun H1 e1 e2 e3 => ?_
          rw [← q9]
          exact (kk H1 locs ls _ _ (R.push e1 e2 e3) (by omega) hl L (by rw [xlen_app1]; exact Nat.le_refl _) (by rw [xhs_app1]; exact Nat.le_of_eq (congrArg (slots + ·) List.length_replicate.symm)))
        · cases hs
    · cases hs
  · -- anewarray
    cases eq_of_beq (show (n == 3) = true from hn)
    split at hs
    · rename_i t9 q1 q2 q3 hsite
      unfold xnewarr at hs
      split at hs
      · rename_i k9 r9
        split at hs
        · cases hs
        · next hn9 =>
          split at hs
          · next hbig9 =>
            obtain ⟨rfl, rfl, rfl, rfl⟩ := xnx_inv hs
            rw [xlen_app1] at hcl
            rw [xhs_app1] at hsl
            have hsl : slots + k9.toNatClampNeg ≤ Rm.slots := by have e : xcs (some (.inr (t9, List.replicate k9.toNatClampNeg .null))) = k9.toNatClampNeg := List.length_replicate; rw [e] at hsl; exact hsl
            have q9 : xad b dA B.size h.length = H.size := R.new
            refine x_anewarr (t := t9) (ad := xad b dA B.size) hx hb hts hown hK hF (by have z9 := (hS _ _ hsite).2.2.2.1 rfl; simp only [Nat.add_sub_cancel] at z9; exact z9) hn9 (Nat.lt_of_succ_le (Nat.le_of_ble_eq_true hbig9)) hcl hsl hdg fun H1 e1 e2 e3 => ?_
            rw [← q9]
            exact (kk H1 locs ls _ _ (R.push e1 e2 e3) (by omega) hl L (by rw [xlen_app1]; exact Nat.le_refl _) (by rw [xhs_app1]; exact Nat.le_of_eq (congrArg (slots + ·) List.length_replicate.symm)))
          · cases hs
      · cases hs
    · cases hs
  · -- new
    cases eq_of_beq (show (n == 3) = true from hn)
    split at hs
    · rename_i ci9 q1 q2 q3 hsite
      split at hs
      · next fs9 hfs9 =>
        obtain ⟨rfl, rfl, rfl, rfl⟩ := xnx_inv hs
        rw [xlen_app1] at hcl
        rw [xhs_app1] at hsl
        have q9 : xad b dA B.size h.length = H.size := R.new
        refine x_new (ad := xad b dA B.size) hx hb hts hown hK ((hS _ _ hsite).2.2.1 rfl fs9 hfs9) (hnews _ _ hfs9) hcl hsl hdg fun H1 e1 e2 e3 => ?_
        rw [← q9]
        exact (kk H1 locs ls _ _ (R.push e1 e2 e3) (by omega) hl L (by rw [xlen_app1]; exact Nat.le_refl _) (by rw [xhs_app1]; exact Nat.le_of_eq (congrArg (slots + ·) rfl)))
      · cases hs
    · split at hs
      · split at hs
        · repeat' (first | cases hs | split at hs)
        · cases hs
      · cases hs
    · cases hs
  · -- checkcast
    cases eq_of_beq (show (n == 3) = true from hn)
    split at hs
    · rename_i c9 q1 q2 q3 a9 r9 hsite
      split at hs
      · rename_i c8 vs9 hc9
        split at hs
        · next hcc =>
          subst hcc
          obtain ⟨rfl, rfl, rfl, rfl⟩ := xnx_inv hs
          obtain ⟨r8, g1, g2⟩ := (hS _ _ hsite).2.2.2.2.2.2.2.2.2.1 rfl
          simp only [Nat.add_sub_cancel] at g2
          exact x_cast (ad := xad b dA B.size) hx hb hts hown hK g1 g2 (R.cell (xcell_at hc9)) hdg (kk H locs ls cells slots R (Nat.le_refl _) hl L (Nat.le_add_right _ _) (Nat.le_add_right _ _))
        · cases hs
      · cases hs
    · cases hs
  · -- invokevirtual
    split at hs
    · unfold xcall at hs
      repeat' (first | cases hs | split at hs)
    · cases hs
  · -- invokespecial
    split at hs
    · rename_i r9 hsite
      split at hs
      · next hle9 =>
        cases eq_of_beq (show (n == 3) = true from hn)
        obtain ⟨rfl, rfl, rfl, rfl⟩ := xnx_inv hs
        obtain ⟨g1, g2, g3⟩ := (hS _ _ hsite).2.2.2.2.2.2.2.1 rfl
        exact W.objInit hx hb hown (hts _ g1) (hts _ g2) (hts _ g3) rfl (by rw [hml]; exact L.1) rfl hdg hfr (by have e9 := xsum_cv (xad b dA B.size) r9; show 2 * 0 + ((_ : List Value).map fun v => v.category).sum + 12 ≤ _; rw [e9]; omega) (kk H locs ls cells slots R (Nat.le_refl _) hl L (Nat.le_add_right _ _) (Nat.le_add_right _ _))
      · cases hs
    · unfold xcall at hs
      repeat' (first | cases hs | split at hs)
    · cases hs
  · -- invokestatic
    cases eq_of_beq (show (n == 3) = true from hn)
    split at hs
    · unfold xcall at hs
      repeat' (first | cases hs | split at hs)
    · rename_i q1 q2 q3 q4 hsite
      split at hs
      · rename_i r9 h9 hcp9
        obtain ⟨rfl, rfl, rfl, rfl⟩ := xnx_inv hs
        unfold xcopy at hcp9
        split at hcp9
        · rename_i n9 dp9 b9 sp9 a9 r8
          split at hcp9
          · rename_i t9 vs9 t8 ws9 hc8 hc9
            split at hcp9
            · next hq9 =>
              cases hcp9
              obtain ⟨rfl, z1, z2, z3, z4, z5, z6, z7, z8, z9⟩ := hq9
              have z10 := xnative_ok
              rcases z1 with z1 | rfl
              · exact x_copy (ad := xad b dA B.size) hx hb (hml.trans L.1.symm) hts hown hK ((hS _ _ hsite).2.2.2.2.2.2.2.2.2.2.1 rfl) z1 (R.cell (xcell_at hc8)) (R.cell (xcell_at hc9)) z3 z4 z5 z6 z7 (xcok_num z1 z9) hfr (by rw [xsum_cv]; omega) hdg fun H1 locs1 e1 e2 e3 e4 => kk H1 locs1 ls cells slots (R.set (xcell_at hc9) e1 e2 e3) (Nat.le_of_eq e2.symm) (fun q hq => (e4 q hq).elim (hl q) (fun z => by rw [z]; exact R.base (xcell_at hc9))) L (Nat.le_add_right _ _) (Nat.le_add_right _ _)
              · have hel : ∀ i : Nat, i < n9.toNatClampNeg → ∀ v : Value, vs9[sp9.toNatClampNeg + i]? = some v → v = .null ∨ ∃ (y ci : Nat) (vs2 : List Value) (r : vw_C) (c3 c4 : ClassId), v = .ref y ∧ xcellAt D tc (xad b dA B.size) (xad b dA B.size y) (.inl (ci, vs2)) H ∧ vwCl[ci]? = some r ∧ s.vm.findClass r.1 = some c3 ∧ s.vm.findClass "KitwardenModel$Need" = some c4 ∧ s.vm.assignable c3 c4 = true := by
                  intro i hi v hv
                  have hm := List.all_eq_true.mp z9 v (List.mem_of_getElem? (i := i) (by rw [List.getElem?_take, if_pos hi, List.getElem?_drop]; exact hv))
                  cases v with
                  | null => exact Or.inl rfl
                  | ref y =>
                    rcases xhold_at (show xhold _ 6 y = true from hm) hK hF with ⟨ci9, vs8, C9, r8, g1, g2, g3, c3, c4, g4, g5, g6⟩ | ⟨g, -⟩
                    · cases g2
                      exact Or.inr ⟨y, ci9, vs8, r8, c3, c4, rfl, R.cell (xcell_at g1), g3, g4, g5, g6⟩
                    · cases g
                  | _ => cases hm
                exact x_copyQ (t := 6) (C := "KitwardenModel$Need") (ad := xad b dA B.size) hx hb (hml.trans L.1.symm) hts hown hK ((hS _ _ hsite).2.2.2.2.2.2.2.2.2.2.1 rfl) rfl (R.cell (xcell_at hc8)) (R.cell (xcell_at hc9)) z3 z4 z5 z6 z7 hel hfr (by rw [xsum_cv]; omega) hdg fun H1 locs1 e1 e2 e3 e4 => kk H1 locs1 ls cells slots (R.set (xcell_at hc9) e1 e2 e3) (Nat.le_of_eq e2.symm) (fun q hq => (e4 q hq).elim (hl q) (fun z => by rw [z]; exact R.base (xcell_at hc9))) L (Nat.le_add_right _ _) (Nat.le_add_right _ _)
            · cases hcp9
          · cases hcp9
        · cases hcp9
      · cases hs
    · cases hs
  · -- return_
    split at hs <;> cases hs
  · -- ireturn
    repeat' (first | cases hs | split at hs)
  · -- lreturn
    repeat' (first | cases hs | split at hs)
  · -- freturn
    repeat' (first | cases hs | split at hs)
  · -- dreturn
    repeat' (first | cases hs | split at hs)
  · -- areturn
    repeat' (first | cases hs | split at hs)
  · -- other
    cases hs
