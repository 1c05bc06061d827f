abbrev vI (k : Int32) : Value := .int k
abbrev vL (k : Int64) : Value := .long k
abbrev vR (a : Nat) : Value := .ref a
abbrev vN : Value := .null
abbrev cO (a ci : Nat) (fs : List Value) : Nat × va_E := (a, .inr (ci, fs))
abbrev cI (a : Nat) (c : ClassId) (n : Nat) (f : Nat → Int32) : Nat × va_E := (a, .inl (c, n, .inl f))
abbrev cL (a : Nat) (c : ClassId) (n : Nat) (f : Nat → Int64) : Nat × va_E := (a, .inl (c, n, .inr (.inl f)))
abbrev cQ (a : Nat) (c : ClassId) (n : Nat) (f : Nat → Option Nat) : Nat × va_E := (a, .inl (c, n, .inr (.inr (.inr (.inr f)))))
abbrev tyL : Type := List (ClassId × FieldType)
/-- a method's start over its own cells -/
def kwPre (D : va_G) (dA : Nat) (ws : va_W) (tys : tyL) (sz : Nat) (U : State) : Prop := U.heap.size = sz ∧ va_P D vwCl ws U.heap ∧ va_K D vwCl tys U ∧ va_D (fun _ => True) ws ∧ kwF U ∧ kwH dA (va_A ws sz) U U.heap
/-- its cells behind it -/
def kwPost (D : va_G) (A : Nat → Prop) (ws : va_W) (tys : tyL) (t : State) : Prop := va_P D vwCl ws t.heap ∧ va_K D vwCl tys t ∧ va_D A ws
abbrev kwMet (l : Launch) (y : MethodName) (cc : ByteArray) (maxL : Nat) (ret : Option FieldType) (D : va_G) (dA fr ce sl lo : Nat) (av : List Value) (ws : va_W) (tys : tyL) (sz : Nat) (Q : (Nat → Prop) → Array Value → State → Outcome → State → Prop) : Prop :=
  Met l y (.code y cc maxL ret :: wsK) ({ frames := fr, cells := ce, slots := sl, locals := lo }) (va_Pc av (kwPre D dA ws tys sz)) (Q (va_A ws sz)) ce sl (va_A ws sz)
theorem kwBlind {av : List Value} {D : va_G} {dA : Nat} {ws : va_W} {tys : tyL} {sz : Nat} : FrameBlind (va_Pc av (kwPre D dA ws tys sz)) := fun a U g mk q => by
  obtain ⟨q0, q1, qP, qK, qD, qF, qZ⟩ := q
  exact ⟨q0, q1, qP, va_K.moved (u := U) (U := U.calling g mk a) (Vm.Alike.refl U.vm) qK, qD, kwF.same (u := U) (U := U.calling g mk a) rfl qF, kwH.moved (u := U) (U := U.calling g mk a) (Vm.Alike.refl U.vm) qZ⟩
theorem kwPre.at {D : va_G} {dA : Nat} {A : Nat → Prop} {wc : va_W} {tc : tyL} {s U : State} {H : Heap} {locs : List Loc} (hP : va_P D vwCl wc H) (hK : va_K D vwCl tc s) (hD : va_D A wc) (hF : kwF s) (hZ : kwH dA A s s.heap) (hS : va_S A s.heap H locs) (hFc : ∀ q, va_A wc H.size q → A q) (hU : U.heap = H) (hW : s.WarmedH U.vm) : kwPre D dA wc tc H.size U :=
  ⟨by rw [hU], by rw [hU]; exact hP, va_K.moved hW.alike hK, hD.weaken (fun _ _ _ _ => trivial), kwF.warm hW hF, kwH.at hZ hS hFc hW.alike hU⟩
theorem kwPost.mk {D : va_G} {A : Nat → Prop} {ws : va_W} {tys : tyL} {s t : State} {H : Heap} (ht : t.heap = H) (hv : s.vm.Alike t.vm) (hP : va_P D vwCl ws H) (hK : va_K D vwCl tys s) (hD : va_D A ws) : kwPost D A ws tys t := ⟨by rw [ht]; exact hP, va_K.moved hv hK, hD⟩
theorem kwPost.get {D : va_G} {A : Nat → Prop} {ws : va_W} {tys : tyL} {s t : State} {H : Heap} (ht : t.heap = H) (hv : s.vm.Alike t.vm) (h : kwPost D A ws tys t) : va_P D vwCl ws H ∧ va_K D vwCl tys s ∧ va_D A ws := ⟨by rw [← ht]; exact h.1, va_K.moved hv.symm h.2.1, h.2.2⟩
theorem kw_enter {l : Launch} {y : MethodName} {cc : ByteArray} {maxL : Nat} {ret : Option FieldType} {D : va_G} {dA fr ce sl lo : Nat} {av : List Value} {ws : va_W} {tys : tyL} {sz : Nat} {Q : (Nat → Prop) → Array Value → State → Outcome → State → Prop}
    (hy : plainName y.cls = true) (hn : (lg_sl av).length ≤ maxL)
    (body : ∀ (p : Program) (e : Env) (s : State) (m : MethodId) (args : Array Value) (below : List Frame) (meth : Method) (c : Code) (A : Nat → Prop) (ls : Array Slot),
      p.tables.exec = Jvm.exec → c.code = cc → c.maxLocals = maxL → meth.sig.returnType = ret → (∀ w ∈ wsK, w.before args s = true) → s.vm.findClass y.cls = some m.cls → meth.locks = false → meth.name = y.name → (∀ q : Nat, s.heap.size ≤ q → A q) → va_S A s.heap s.heap [] → va_P D vwCl ws s.heap → va_K D vwCl tys s → va_D A ws → kwF s → kwH dA A s s.heap → lv_has ls maxL (lv_args 0 av) →
      W p l e ({ frames := fr, cells := ce, slots := sl, locals := lo } : Room) s m args below meth c s.heap [] 0 0 (MQ below (Q A) args s ce sl A) (F0 m 0 ls [])) :
    kwMet l y cc maxL ret D dA fr ce sl lo av ws tys sz Q := by
  refine Met.ofW (cc := cc) (maxL := maxL) (ret := ret) hy rfl ?_
  intro p e s m args below meth c s₁ B hml hv
  obtain ⟨rfl, hsz, hP, hK, hD0, hF, hZ⟩ := hv
  have hts0 := atoms_spec (ws := (.code y cc maxL ret :: wsK)) B.pre
  subst hsz
  rw [lg_entry_eq]
  exact body p e s m _ below meth c (va_A ws s.heap.size) _ B.exec B.bytes hml B.returns (fun w h => hts0 w (List.mem_cons_of_mem _ h)) (findClass_of_methodNamed B.named) B.notSynchronized (name_of_methodNamed B.named B.method).1 (fun q h => Or.inr h) va_S.rf hP hK hD0.self hF hZ (lv_entry av hn)
section ZZ_ret
variable {p : Program} {l : Launch} {e : Env} {R : Room} {s : State} {m : MethodId} {args : Array Value} {below : List Frame} {meth : Method} {c : Code} {H : Heap} {locs : List Loc} {cells slots : Nat}
variable {cc : ByteArray} {pc : Nat} {ls : Array Slot} {A : Nat → Prop} {P : State → Prop}
theorem kw_vret (hx : p.tables.exec = Jvm.exec) (hb : c.code = cc) (hr : meth.sig.returnType = none) (hlocks : meth.locks = false) (hS : va_S A s.heap H locs) (hdg : decode cc pc = .ok (.return_, 1)) (hpost : ∀ t : State, t.heap = H → s.vm.Alike t.vm → P t) :
    W p l e R s m args below meth c H locs cells slots (MQ below (va_Qv (fun _ : Unit => True) (fun _ t => P t) A) args s cells slots A) (F0 m pc ls []) :=
  W.vret hx hb hr (fun t ht hW => ⟨⟨(), rfl, trivial, hpost t ht hW.alike⟩, hS.F ht⟩) hS.2.2 hdg
theorem kw_iret {v : Int32} (hx : p.tables.exec = Jvm.exec) (hb : c.code = cc) (hr : meth.sig.returnType = some .int) (hlocks : meth.locks = false) (hS : va_S A s.heap H locs) (hdg : decode cc pc = .ok (.ireturn, 1)) (hpost : ∀ t : State, t.heap = H → s.vm.Alike t.vm → P t) :
    W p l e R s m args below meth c H locs cells slots (MQ below (va_Qi (fun (r : Int32) (_ : Unit) => r = v) (fun _ t => P t) A) args s cells slots A) (F0 m pc ls [.int v]) :=
  W.iret hx hb hr (fun t ht hW => ⟨⟨v, (), rfl, rfl, hpost t ht hW.alike⟩, hS.F ht⟩) hS.2.2 hdg
theorem kw_zret {v : Int32} {ty : FieldType} (hx : p.tables.exec = Jvm.exec) (hb : c.code = cc) (hr : meth.sig.returnType = some ty) (hn : narrow ty (.int v) = .int v) (hlocks : meth.locks = false) (hS : va_S A s.heap H locs) (hdg : decode cc pc = .ok (.ireturn, 1)) (hpost : ∀ t : State, t.heap = H → s.vm.Alike t.vm → P t) :
    W p l e R s m args below meth c H locs cells slots (MQ below (va_Qi (fun (r : Int32) (_ : Unit) => r = v) (fun _ t => P t) A) args s cells slots A) (F0 m pc ls [.int v]) :=
  W.zret hx hb hr hn (fun t ht hW => ⟨⟨v, (), rfl, rfl, hpost t ht hW.alike⟩, hS.F ht⟩) hS.2.2 hdg
theorem kw_lret {v : Int64} (hx : p.tables.exec = Jvm.exec) (hb : c.code = cc) (hr : meth.sig.returnType = some .long) (hlocks : meth.locks = false) (hS : va_S A s.heap H locs) (hdg : decode cc pc = .ok (.lreturn, 1)) (hpost : ∀ t : State, t.heap = H → s.vm.Alike t.vm → P t) :
    W p l e R s m args below meth c H locs cells slots (MQ below (va_Ql (fun (r : Int64) (_ : Unit) => r = v) (fun _ t => P t) A) args s cells slots A) (F0 m pc ls [.long v]) :=
  W.lret hx hb hr (fun t ht hW => ⟨⟨v, (), rfl, rfl, hpost t ht hW.alike⟩, hS.F ht⟩) hS.2.2 hdg
/-- a reference, told by the cells: P says of it what it is -/
theorem kw_aret {q : Nat} {rt : FieldType} {PR : Nat → State → Prop} (hx : p.tables.exec = Jvm.exec) (hb : c.code = cc) (hr : meth.sig.returnType = some rt) (hrt : (∃ n, rt = .object n) ∨ ∃ t, rt = .array t) (hlocks : meth.locks = false) (hS : va_S A s.heap H locs) (hdg : decode cc pc = .ok (.areturn, 1)) (hpost : ∀ t : State, t.heap = H → s.vm.Alike t.vm → PR q t) :
    W p l e R s m args below meth c H locs cells slots (MQ below (va_Qr (fun _ : Unit => True) (fun _ a t => PR a t) A) args s cells slots A) (F0 m pc ls [.ref q]) :=
  W.aret (v := .ref q) hx hb hr (by first | exact hrt | exact hrt.symm) (Or.inr ⟨_, rfl⟩) (fun t ht hW => ⟨⟨(), q, rfl, trivial, hpost t ht hW.alike⟩, hS.F ht⟩) hS.2.2 hdg
end ZZ_ret
/-- a world's cells, told by who is in it -/
theorem kwP_mem {D : va_G} {cl : List vw_C} {ws : va_W} {H : Heap} (h : va_P D cl ws H) {x : Nat × va_E} (hx : x ∈ ws) : va_at D cl x H := by
  obtain ⟨i, hi⟩ := List.getElem?_of_mem hx
  exact h i x hi
theorem kwP_of {D : va_G} {cl : List vw_C} {ws : va_W} {H : Heap} (h : ∀ x ∈ ws, va_at D cl x H) : va_P D cl ws H := fun _ _ hk => h _ (List.mem_of_getElem? hk)
theorem kwD_l {A : Nat → Prop} {a b : va_W} (h : va_D A (a ++ b)) : va_D A a := by
  have hk : ∀ (k : Nat) (q : Nat × va_E), a[k]? = some q → (a ++ b)[k]? = some q := fun k q hq => by rw [List.getElem?_append_left (List.getElem?_eq_some_iff.mp hq).1]; exact hq
  exact ⟨fun i j x y hi hj hxy => h.1 i j x y (hk i x hi) (hk j y hj) hxy, fun k q hq => h.2 k q (hk k q hq)⟩
theorem kwD_at_r {a b : va_W} (k : Nat) (q : Nat × va_E) (hq : b[k]? = some q) : (a ++ b)[a.length + k]? = some q := by
  rw [List.getElem?_append_right (by omega), show a.length + k - a.length = k by omega]
  exact hq
theorem kwD_r {A : Nat → Prop} {a b : va_W} (h : va_D A (a ++ b)) : va_D A b :=
  ⟨fun i j x y hi hj hxy => by have := h.1 _ _ x y (kwD_at_r i x hi) (kwD_at_r j y hj) hxy; omega, fun k q hq => h.2 _ q (kwD_at_r k q hq)⟩
theorem kwD_x {A : Nat → Prop} {a b : va_W} (h : va_D A (a ++ b)) (i j : Nat) (x y : Nat × va_E) (hi : a[i]? = some x) (hj : b[j]? = some y) : x.1 ≠ y.1 := by
  intro hxy
  have hl := (List.getElem?_eq_some_iff.mp hi).1
  have := h.1 i (a.length + j) x y (by rw [List.getElem?_append_left hl]; exact hi) (kwD_at_r j y hj) hxy
  omega
theorem kwD_swap {A : Nat → Prop} {a b c : va_W} (h : va_D A ((a ++ b) ++ c)) : va_D A ((a ++ c) ++ b) := by
  have h1 := kwD_l h
  have h2 := kwD_r h
  refine va_D.app (va_D.app (kwD_l h1) h2 (fun i j x y hi hj => ?_)) (kwD_r h1) (fun i j x y hi hj => ?_)
  · exact kwD_x h i j x y (by rw [List.getElem?_append_left (List.getElem?_eq_some_iff.mp hi).1]; exact hi) hj
  · by_cases hl : i < a.length
    · rw [List.getElem?_append_left hl] at hi
      exact kwD_x h1 i j x y hi hj
    · rw [List.getElem?_append_right (by omega)] at hi
      exact fun z => kwD_x h (a.length + j) (i - a.length) y x (kwD_at_r j y hj) hi z.symm
theorem kwP_swap {D : va_G} {cl : List vw_C} {a b c : va_W} {H : Heap} (h : va_P D cl ((a ++ b) ++ c) H) : va_P D cl ((a ++ c) ++ b) H := kwP_of fun x hx => kwP_mem h (by simp only [List.mem_append] at hx ⊢; rcases hx with (h | h) | h <;> simp [h])
/-- cells of a world changed at some places -/
def kwSets (E : va_W) (us : List (Nat × (Nat × va_E))) : va_W := us.foldl (fun w u => w.set u.1 u.2) E
theorem kwSets_ne : ∀ (us : List (Nat × (Nat × va_E))) (E S : va_W) (k : Nat), k ∉ us.map Prod.fst → (kwSets E us ++ S)[k]? = (E ++ S)[k]? := by
  intro us
  induction us with
  | nil => intro E S k _; rfl
  | cons u us ih =>
    intro E S k hk
    simp only [List.map_cons, List.mem_cons, not_or] at hk
    show (kwSets (E.set u.1 u.2) us ++ S)[k]? = _
    rw [ih (E.set u.1 u.2) S k hk.2]
    by_cases hl : k < E.length
    · rw [List.getElem?_append_left (by rw [List.length_set]; exact hl), List.getElem?_append_left hl, List.getElem?_set_ne (fun z => hk.1 z.symm)]
    · rw [List.getElem?_append_right (by rw [List.length_set]; omega), List.getElem?_append_right (by omega), List.length_set]
theorem kw_join {A0 : Nat → Prop} {D : va_G} {cl : List vw_C} {E S wc wc1 wn : va_W} {H H1 : Heap} (hP : va_P D cl (E ++ S) H) (hD : va_D A0 (E ++ S)) (isC : List Nat) (hC : isC.map (fun i => (E ++ S)[i]?) = wc.map some) (us : List (Nat × (Nat × va_E))) (hu0 : (us.map Prod.fst).all (fun i => isC.contains i) = true) (ha : (kwSets E us).map Prod.fst = E.map Prod.fst) (hC1 : isC.map (fun i => (kwSets E us ++ S)[i]?) = wc1.map some) (hw : wc1.map Prod.fst = wc.map Prod.fst)
    (hk : ∀ q : Nat, q < H.size → ¬ va_A wc H.size q → H1[q]? = H[q]?) (hF : ∀ q, va_A wc H.size q → A0 q) (hP1 : va_P D cl (wc1 ++ wn) H1) (hD1 : va_D (va_A wc H.size) (wc1 ++ wn)) : va_P D cl ((kwSets E us ++ S) ++ wn) H1 ∧ va_D A0 ((kwSets E us ++ S) ++ wn) := by
  have hu : ∀ i ∈ us.map Prod.fst, i ∈ isC := fun i hi => List.contains_iff_mem.mp (List.all_eq_true.mp hu0 i hi)
  have at' : ∀ {ws w : va_W}, isC.map (fun i => ws[i]?) = w.map some → ∀ (k : Nat) (q : Nat × va_E), w[k]? = some q → ∃ i, isC[k]? = some i ∧ ws[i]? = some q := by
    intro ws w hs k q hq
    have h1 : (isC.map (fun i => ws[i]?))[k]? = some (some q) := by rw [hs, List.getElem?_map, hq]; rfl
    rw [List.getElem?_map] at h1
    cases hi : isC[k]? with
    | none => rw [hi] at h1; cases h1
    | some i => rw [hi] at h1; exact ⟨i, rfl, Option.some.inj h1⟩
  have fst1 : ∀ (k : Nat) (q : Nat × va_E), (kwSets E us ++ S)[k]? = some q → ∃ q0, (E ++ S)[k]? = some q0 ∧ q0.1 = q.1 := by
    intro k q hq
    have h1 : ((kwSets E us ++ S).map Prod.fst)[k]? = some q.1 := by rw [List.getElem?_map, hq]; rfl
    rw [List.map_append, ha, ← List.map_append, List.getElem?_map] at h1
    cases h2 : (E ++ S)[k]? with
    | none => rw [h2] at h1; cases h1
    | some q0 => rw [h2] at h1; exact ⟨q0, rfl, Option.some.inj h1⟩
  have hDn : va_D A0 (kwSets E us ++ S) := by
    refine ⟨fun i j x y hi hj hxy => ?_, fun k q hq => ?_⟩
    · obtain ⟨x0, h1, h2⟩ := fst1 i x hi
      obtain ⟨y0, h3, h4⟩ := fst1 j y hj
      exact hD.1 i j x0 y0 h1 h3 (h2.trans (hxy.trans h4.symm))
    · obtain ⟨q0, h1, h2⟩ := fst1 k q hq
      rw [← h2]
      exact hD.2 k q0 h1
  have hPn : va_P D cl (kwSets E us ++ S) H1 := by
    intro k q hq
    by_cases hkc : k ∈ isC
    · obtain ⟨j, hj⟩ := List.getElem?_of_mem hkc
      have h1 : (isC.map (fun i => (kwSets E us ++ S)[i]?))[j]? = some (some q) := by rw [List.getElem?_map, hj]; exact congrArg some hq
      rw [hC1, List.getElem?_map] at h1
      cases h2 : wc1[j]? with
      | none => rw [h2] at h1; cases h1
      | some x =>
        rw [h2] at h1
        have hx : x = q := Option.some.inj (Option.some.inj h1)
        subst hx
        exact kwP_mem hP1 (List.mem_append_left _ (List.mem_of_getElem? h2))
    · rw [kwSets_ne us E S k (fun z => hkc (hu k z))] at hq
      have hlt := (hP k q hq).lt
      refine (hP k q hq).kept (hk q.1 hlt (fun z => ?_))
      rcases z with ⟨k2, e2, h2⟩ | h2
      · obtain ⟨i, h3, h4⟩ := at' hC k2 (q.1, e2) h2
        have hik := hD.1 i k (q.1, e2) q h4 hq rfl
        subst hik
        exact hkc (List.mem_of_getElem? h3)
      · omega
  refine ⟨va_P.app hPn (kwP_of fun x hx => kwP_mem hP1 (List.mem_append_right _ hx)), va_D.app hDn ((kwD_r hD1).weaken (fun k q _ h => hF q.1 h)) (fun i j x y hi hj hxy => ?_)⟩
  obtain ⟨x0, h1, h2⟩ := fst1 i x hi
  have hlt := (hP i x0 h1).lt
  rcases (kwD_r hD1).2 j y hj with ⟨k2, e2, h3⟩ | h3
  · have h4 : (wc.map Prod.fst)[k2]? = some y.1 := by rw [List.getElem?_map, h3]; rfl
    rw [← hw, List.getElem?_map] at h4
    cases h5 : wc1[k2]? with
    | none => rw [h5] at h4; cases h4
    | some z => rw [h5] at h4; exact kwD_x hD1 k2 j z y h5 hj (Option.some.inj h4)
  · rw [h2, hxy] at hlt
    omega
/-- the null reference -/
theorem kw_nret {p : Program} {l : Launch} {e : Env} {R : Room} {s : State} {m : MethodId} {args : Array Value} {below : List Frame} {meth : Method} {c : Code} {H : Heap} {locs : List Loc} {cells slots : Nat} {cc : ByteArray} {pc : Nat} {ls : Array Slot} {A : Nat → Prop} {P : State → Prop} {rt : FieldType} (hx : p.tables.exec = Jvm.exec) (hb : c.code = cc) (hr : meth.sig.returnType = some rt) (hrt : (∃ n, rt = .object n) ∨ ∃ t, rt = .array t) (hlocks : meth.locks = false) (hS : va_S A s.heap H locs) (hdg : decode cc pc = .ok (.areturn, 1)) (hpost : ∀ t : State, t.heap = H → s.vm.Alike t.vm → P t) :
    W p l e R s m args below meth c H locs cells slots (MQ below (va_Qq (fun (r : Option Nat) (_ : Unit) => r = none) (fun _ t => P t) A) args s cells slots A) (F0 m pc ls [.null]) :=
  W.aret (v := .null) hx hb hr (by first | exact hrt | exact hrt.symm) (Or.inl rfl) (fun t ht hW => ⟨⟨none, (), rfl, rfl, hpost t ht hW.alike⟩, hS.F ht⟩) hS.2.2 hdg
/-- a counted loop: what holds at its head, from 0 to N -/
theorem kw_for {σ : Type} (N : Nat) (G : σ → Prop) (I : Nat → σ → Prop) (hs : ∀ (j : Nat) (z : σ), j < N → I j z → (∀ z', I (j + 1) z' → G z') → G z) (hx : ∀ z, I N z → G z) : ∀ z, I 0 z → G z := by
  have h : ∀ n j z, j + n = N → I j z → G z := by
    intro n
    induction n with
    | zero => intro j z e h; exact hx z (by rw [show N = j by omega]; exact h)
    | succ n ih => intro j z e h; exact hs j z (by omega) h (fun z' h' => ih (j + 1) z' (by omega) h')
  exact fun z h0 => h N 0 z (by omega) h0
theorem kwS_eq {l : List Value} {k : Nat} {v : Value} (h : k < l.length) : (l.set k v)[k]? = some v := List.getElem?_set_self h
theorem kwS_ne {l : List Value} {i j : Nat} {v : Value} {x : Option Value} (h : i ≠ j) (hx : l[j]? = x) : (l.set i v)[j]? = x := (List.getElem?_set_ne h).trans hx
theorem kwLt {l : List Value} {n k : Nat} (h : l.length = n) (hk : Nat.blt k n = true) : k < l.length := by rw [h]; exact Nat.lt_of_succ_le (Nat.le_of_ble_eq_true hk)
theorem kwU_eqi {f : Nat → Int32} {k : Nat} {x : Int32} : upd f k x k = x := pk_us
theorem kwU_nei {f : Nat → Int32} {k j : Nat} {x v : Int32} (h : j ≠ k) (q : f j = v) : upd f k x j = v := (pk_un h).trans q
theorem kwU_eql {f : Nat → Int64} {k : Nat} {x : Int64} : vp_updL f k x k = x := pk_uLs
theorem kwU_nel {f : Nat → Int64} {k j : Nat} {x v : Int64} (h : j ≠ k) (q : f j = v) : vp_updL f k x j = v := (pk_uLn h).trans q
theorem kwU_eqq {f : Nat → Option Nat} {k : Nat} {x : Option Nat} : va_up f k x k = x := if_pos rfl
theorem kwU_neq {f : Nat → Option Nat} {k j : Nat} {x v : Option Nat} (h : j ≠ k) (q : f j = v) : va_up f k x j = v := (if_neg h).trans q
def kwQ (l : List Nat) : Nat → Nat := fun n => l.getD n 0
def kwC (l : List ClassId) : Nat → ClassId := fun n => l.getD n default
theorem kwP_swap3 {D : va_G} {cl : List vw_C} {a b c : va_W} {H : Heap} (h : va_P D cl ((a ++ b) ++ c) H) : va_P D cl (a ++ (c ++ b)) H := kwP_of fun x hx => kwP_mem h (by simp only [List.mem_append] at hx ⊢; rcases hx with h | h | h <;> simp [h])
theorem kwD_swap3 {A : Nat → Prop} {a b c : va_W} (h : va_D A ((a ++ b) ++ c)) : va_D A (a ++ (c ++ b)) := by
  rw [← List.append_assoc]
  exact kwD_swap h
theorem kwP_swap2 {D : va_G} {cl : List vw_C} {a b c d : va_W} {H : Heap} (h : va_P D cl ((a ++ b) ++ (c ++ d)) H) : va_P D cl ((a ++ c) ++ (d ++ b)) H := kwP_of fun x hx => kwP_mem h (by simp only [List.mem_append] at hx ⊢; rcases hx with (h | h) | h | h <;> simp [h])
theorem kwD_swap2 {A : Nat → Prop} {a b c d : va_W} (h : va_D A ((a ++ b) ++ (c ++ d))) : va_D A ((a ++ c) ++ (d ++ b)) := by
  have h1 := kwD_swap h
  rw [show (a ++ c) ++ (d ++ b) = (a ++ (c ++ d)) ++ b by simp only [List.append_assoc]]
  exact h1
