/-! RULES: the rest, in the forms that dec.py prints -/
theorem rgh (h : XH) (a i : Nat) : rg (hI h a i) := by
  unfold hI
  cases el h a i with
  | int x => exact rgt x
  | long _ => exact rg0
  | float _ => exact rg0
  | double _ => exact rg0
  | null => exact rg0
  | ref _ => exact rg0
  | retAddr _ => exact rg0
theorem lt_len {h : XH} {a n : Nat} {i : Int} (e : hn h a = n) (q : i < (n : Int)) : i < (hn h a : Int) := by rw [e]; exact q
theorem HXk {h0 h : XH} {a c : Nat} (s : HX h0 h) (e : hk h0 a = c) (hb : Nat.blt c 9999 = true) : hk h a = c := HX_hk s e (Nat.le_of_ble_eq_true hb)
theorem nz_of {h : XH} {a c : Nat} (t : HT h) (e : hk h a = 100 + c) (hc : Nat.blt c 100 = true := by rfl) : ¬ a = 0 := by
  intro z
  subst z
  have := lyk (a := 0) (n := 0) t (c := 9999) rfl
  have := Nat.le_of_ble_eq_true hc
  omega
section RL
variable {sc : Nat × (Nat → Int32)} {goal : XO → XH → Prop} {fs : List XF} {mi pc pc1 k c f n j d m : Nat} {ls ls1 l0 : XL} {st rs : List Value} {h : XH} {o : Int} {x y i : Int} {b : BitVec 64} {a r q : Nat} {w : Value} {ty : FieldType} {s0 : String}
theorem r_pfI (hi : xP.code mi pc = some (.putfield k)) (hp : pc + 3 = pc1) (hs : xP.site mi k = some (0, c, f, .int, .ref m)) (t : HT h) (hc : hk h a = c) (h16 : Nat.blt c 16 = true) (hf : fk c f = 0) (hn : fin c f = false) (K : ∀ h1, h1 = sI h a f x → HT h1 → HX h h1 → RR sc goal fs mi pc1 ls st h1) : RR sc goal fs mi pc ls (.int (J x) :: rv a :: st) h :=
  r_pf hi hp hs t hc h16 hf rfl xok_I hn K
theorem r_pfB (hi : xP.code mi pc = some (.putfield k)) (hp : pc + 3 = pc1) (hs : xP.site mi k = some (0, c, f, .boolean, .ref m)) (t : HT h) (hc : hk h a = c) (h16 : Nat.blt c 16 = true) (hf : fk c f = 0) (hn : fin c f = false) (hx : x = 0 ∨ x = 1) (K : ∀ h1, h1 = sI h a f x → HT h1 → HX h h1 → RR sc goal fs mi pc1 ls st h1) : RR sc goal fs mi pc ls (.int (J x) :: rv a :: st) h :=
  r_pf hi hp hs t hc h16 hf rfl (xok_B hx) hn K
theorem r_pfL (hi : xP.code mi pc = some (.putfield k)) (hp : pc + 3 = pc1) (hs : xP.site mi k = some (0, c, f, .long, .ref m)) (t : HT h) (hc : hk h a = c) (h16 : Nat.blt c 16 = true) (hf : fk c f = 1) (hn : fin c f = false) (K : ∀ h1, h1 = sL h a f b → HT h1 → HX h h1 → RR sc goal fs mi pc1 ls st h1) : RR sc goal fs mi pc ls (.long (G b) :: rv a :: st) h :=
  r_pf hi hp hs t hc h16 hf rfl xok_L hn K
theorem r_pfO (hi : xP.code mi pc = some (.putfield k)) (hp : pc + 3 = pc1) (hs : xP.site mi k = some (0, c, f, .object s0, .ref m)) (t : HT h) (hc : hk h a = c) (h16 : Nat.blt c 16 = true) (hf : fk c f = 2) (hn : fin c f = false) (K : ∀ h1, h1 = sR h a f r → HT h1 → HX h h1 → RR sc goal fs mi pc1 ls st h1) : RR sc goal fs mi pc ls (rv r :: rv a :: st) h :=
  r_pf hi hp hs t hc h16 (hf.trans (vk_rv r).symm) (by rw [vk_rv]; rfl) xok_O hn K
theorem r_pfA {t0 : FieldType} (hi : xP.code mi pc = some (.putfield k)) (hp : pc + 3 = pc1) (hs : xP.site mi k = some (0, c, f, .array t0, .ref m)) (t : HT h) (hc : hk h a = c) (h16 : Nat.blt c 16 = true) (hf : fk c f = 2) (hn : fin c f = false) (K : ∀ h1, h1 = sR h a f r → HT h1 → HX h h1 → RR sc goal fs mi pc1 ls st h1) : RR sc goal fs mi pc ls (rv r :: rv a :: st) h :=
  r_pf hi hp hs t hc h16 (hf.trans (vk_rv r).symm) (by rw [vk_rv]; rfl) xok_A hn K
theorem r_lenC {u : Nat} (hi : xP.code mi pc = some .arraylength) (hp : pc + 1 = pc1) (t : HT h) (hc : hk h a = 100 + u) (hu : u < 9000) (hl : hn h a = n) (h9 : (n : Int) < 2147483648) (K : RR sc goal fs mi pc1 ls (.int (J (n : Int)) :: st) h) : RR sc goal fs mi pc ls (rv a :: st) h :=
  r_len hi hp t hc hu (fun _ => by rw [hl]; exact K) (by rw [hl]; exact h9)
theorem r_fI (hp : pc + 3 = pc1) (K : RR sc goal fs mi pc1 ls (.int (J x) :: rs) h) : XFin xP sc goal ((mi, pc, ls, rs) :: fs) (.inl (some (.int (J x)))) h := by subst hp; exact K
theorem r_fL (hp : pc + 3 = pc1) (K : RR sc goal fs mi pc1 ls (.long (G b) :: rs) h) : XFin xP sc goal ((mi, pc, ls, rs) :: fs) (.inl (some (.long (G b)))) h := by subst hp; exact K
theorem r_fR (hp : pc + 3 = pc1) (K : RR sc goal fs mi pc1 ls (rv r :: rs) h) : XFin xP sc goal ((mi, pc, ls, rs) :: fs) (.inl (some (rv r))) h := by subst hp; exact K
theorem r_fV (hp : pc + 3 = pc1) (K : RR sc goal fs mi pc1 ls rs h) : XFin xP sc goal ((mi, pc, ls, rs) :: fs) (.inl none) h := by subst hp; exact K
theorem r_fF {z : UInt32} (hp : pc + 3 = pc1) (K : RR sc goal fs mi pc1 ls (.float z :: rs) h) : XFin xP sc goal ((mi, pc, ls, rs) :: fs) (.inl (some (.float z))) h := by subst hp; exact K
theorem r_fD {z : UInt64} (hp : pc + 3 = pc1) (K : RR sc goal fs mi pc1 ls (.double z :: rs) h) : XFin xP sc goal ((mi, pc, ls, rs) :: fs) (.inl (some (.double z))) h := by subst hp; exact K
theorem r_an {u : Nat} (hi : xP.code mi pc = some (.anewarray k)) (hs : xP.site mi (k + 100000) = some (3, u, q, ty, w)) (hp : pc + 3 = pc1) (t : HT h) (hu : Nat.blt u 8 = true) (hu2 : Nat.blt 2 u = true) (hx : rg x) (h0 : 0 ≤ x) (h1 : x < 67108864) (K : ∀ a h1, a = h.length → h1 = nA h u x.toNat → HT h1 → HX h h1 → hk h1 a = 100 + u → hn h1 a = x.toNat → RR sc goal fs mi pc1 ls (rv a :: st) h1) : RR sc goal fs mi pc ls (.int (J x) :: st) h := by
  refine r_na (m := 3) hi ?_ hp t hu hx h0 h1 K
  show (match xP.site mi (k + 100000) with
    | some (3, t, _, _, _) => xnewarr pc 3 t .null ls (.int (J x) :: st) h
    | _ => none) = _
  rw [hs]
  have := Nat.le_of_ble_eq_true hu2
  have e : v0 u = .null := by unfold v0; rw [if_neg (by omega), if_neg (by omega)]
  rw [e]
  rfl
/-! copies -/
theorem HT_setA {u : Nat} {vs ws : List Value} (t : HT h) (e : xcell h a = some (.inr (u, vs))) (hl : ws.length = vs.length) (hv : ∀ v ∈ ws, vk v = tyA u) (hf : ∀ z, fin (100 + u) z = false) (he : ∀ v ∈ ws, elOK h (100 + u) v) : HT (h.set a (some (.inr (u, ws)))) ∧ HX h (h.set a (some (.inr (u, ws)))) := by
  have hla := xcell_lt e
  have hsh : ∀ b, sh (xcell (h.set a (some (.inr (u, ws)))) b) = sh (xcell h b) := by
    intro b
    rw [xcell_set h a b _ hla]
    split
    · next z => subst z; rw [e]; unfold sh; dsimp only; rw [hl]
    · rfl
  have hx : HX h (h.set a (some (.inr (u, ws)))) := ⟨by rw [List.length_set]; exact Nat.le_refl _, fun b _ => hsh b⟩
  refine ⟨⟨fun b => ?_, ⟨fun b s q => ?_, fun b f w h64 q => ?_, fun b hb => ?_, ?_⟩, fun b j => elOK_hx hx ?_⟩, hx⟩
  · rw [xcell_set h a b _ hla]
    split
    · have := t.1 a
      rw [e] at this
      exact ⟨this.1, hv⟩
    · exact t.1 b
  · rw [hsh]; exact t.2.1.1 b s q
  · have z := t.2.1.2.1 b f w h64 q
    obtain ⟨⟨s, q1, q2⟩, -⟩ := lyF_fin h64 q
    unfold hR el at z ⊢
    rw [xcell_set h a b _ hla]
    split
    · next y =>
      subst y
      have k1 := (ly_sh t q1).1
      unfold hk at k1
      rw [e] at k1
      have k1 : 100 + u = s.1 := k1
      rw [← k1, hf] at q2
      cases q2
    · exact z
  · unfold hk; rw [hsh]; exact t.2.1.2.2.1 b hb
  · rw [List.length_set]; exact t.2.1.2.2.2
  · have e0 : hk (h.set a (some (.inr (u, ws)))) b = hk h b := by unfold hk; rw [hsh]
    rw [e0]
    unfold el
    rw [xcell_set h a b _ hla]
    split
    · next y =>
      subst y
      have e1 : hk h a = 100 + u := by unfold hk; rw [e]; rfl
      rw [e1]
      show elOK h (100 + u) (ws[j]?.getD .null)
      cases q : ws[j]? with
      | none => exact elOK_z rfl rfl
      | some v => exact he v (List.mem_of_getElem? q)
    · exact t.2.2 b j
theorem fin_arr {u : Nat} (hu : u < 8) (h5 : ¬ u = 5) (z : Nat) : fin (100 + u) z = false := by
  unfold fin
  have e1 : Nat.beq (100 + u) 105 = false := by
    cases e : Nat.beq (100 + u) 105 with
    | false => rfl
    | true => have := Nat.eq_of_beq_eq_true e; omega
  rw [e1, Bool.false_or]
  cases e : xfind finX (64 * (100 + u) + z) with
  | none => rfl
  | some b2 =>
    obtain ⟨d, q1, q2⟩ := xfind_mem finX _ b2 e
    have y : (finX.all fun d => d.2.all fun q => Nat.blt q.1 6400) = true := by decide +kernel
    have := Nat.le_of_ble_eq_true (List.all_eq_true.mp (List.all_eq_true.mp y d q1) _ q2)
    dsimp only at this
    omega
theorem arr_of {u : Nat} (t : HT h) (hc : hk h a = 100 + u) (hu : u < 9000) : ∃ vs, xcell h a = some (.inr (u, vs)) ∧ vs.length = hn h a ∧ (∀ v ∈ vs, vk v = tyA u) ∧ ell (xcell h a) = vs ∧ u < 8 := by
  unfold hk at hc
  unfold hn
  have ok := t.1 a
  cases e : xcell h a with
  | none => rw [e] at hc; unfold sh at hc; dsimp only at hc; omega
  | some z =>
    rw [e] at hc ok
    cases z with
    | inl q => obtain ⟨c2, vs⟩ := q; have := ok.1; unfold sh at hc; dsimp only at hc; omega
    | inr q =>
      obtain ⟨c2, vs⟩ := q
      have hc : 100 + c2 = 100 + u := hc
      have : c2 = u := by omega
      subst this
      exact ⟨vs, rfl, rfl, ok.2, rfl, ok.1⟩
theorem r_cpk {u a2 : Nat} {sp dp n : Int} (hi : xP.code mi pc = some (.invokestatic k)) (hs : xP.site mi k = some (10, c, q, ty, w)) (hp : pc + 3 = pc1) (hr : Nat.ble st.length 4 = true) (t : HT h) (ha : hk h a = 100 + u) (hb : hk h a2 = 100 + u) (hu : u < 2 ∨ u = 6) (rsp : rg sp) (rdp : rg dp) (rn : rg n) (hab : ¬ a = a2) (h1 : 0 ≤ sp) (h2 : 0 ≤ dp) (h3 : 0 ≤ n) (h4 : sp + n ≤ (hn h a : Int)) (h5 : dp + n ≤ (hn h a2 : Int))
    (hall : ∀ vs, ell (xcell h a) = vs → ((vs.drop sp.toNat).take n.toNat).all (xcok h u) = true)
    (K : ∀ h1, h1 = cA h a sp.toNat a2 dp.toNat n.toNat → HT h1 → HX h h1 → RR sc goal fs mi pc1 ls st h1) : RR sc goal fs mi pc ls (.int (J n) :: .int (J dp) :: rv a2 :: .int (J sp) :: rv a :: st) h := by
  subst hp
  obtain ⟨vs, e1, e2, e3, e4, -⟩ := arr_of t ha (by omega)
  obtain ⟨ws, f1, f2, f3, f4, -⟩ := arr_of t hb (by omega)
  have hall := hall vs e4
  have eA : cA h a sp.toNat a2 dp.toNat n.toNat = h.set a2 (some (.inr (u, ws.take dp.toNat ++ (vs.drop sp.toNat).take n.toNat ++ ws.drop (dp.toNat + n.toNat)))) := by
    unfold cA
    rw [f1]
    dsimp only
    rw [e4]
  have hlen : (ws.take dp.toNat ++ (vs.drop sp.toNat).take n.toNat ++ ws.drop (dp.toNat + n.toNat)).length = ws.length := by
    simp only [List.length_append, List.length_take, List.length_drop]
    omega
  have T := HT_setA t f1 hlen (fun v hv => by
    rcases List.mem_append.mp hv with z | z
    · rcases List.mem_append.mp z with z | z
      · exact f3 v (List.mem_of_mem_take z)
      · exact e3 v (List.mem_of_mem_drop (List.mem_of_mem_take z))
    · exact f3 v (List.mem_of_mem_drop z)) (fin_arr (by omega) (by omega)) (fun v hv => by
    have gA : ∀ v ∈ vs, elOK h (100 + u) v := fun v hv => by
      obtain ⟨m, hm, em⟩ := List.mem_iff_getElem.mp hv
      have := t.2.2 a m
      rw [ha] at this
      unfold el at this
      rw [e4, List.getElem?_eq_getElem hm] at this
      rw [← em]
      exact this
    have gB : ∀ v ∈ ws, elOK h (100 + u) v := fun v hv => by
      obtain ⟨m, hm, em⟩ := List.mem_iff_getElem.mp hv
      have := t.2.2 a2 m
      rw [hb] at this
      unfold el at this
      rw [f4, List.getElem?_eq_getElem hm] at this
      rw [← em]
      exact this
    rcases List.mem_append.mp hv with z | z
    · rcases List.mem_append.mp z with z | z
      · exact gB v (List.mem_of_mem_take z)
      · exact gA v (List.mem_of_mem_drop (List.mem_of_mem_take z))
    · exact gB v (List.mem_of_mem_drop z))
  rw [← eA] at T
  have K := K _ rfl T.1 T.2
  rw [eA] at K
  rw [rv_hk t ha (by omega), rv_hk t hb (by omega)]
  refine xr_next hi ?_ K
  show (match xP.site mi k with
    | some (1, j, 0, ty, v) => xcall xP (1, j, 0, ty, v) _ h
    | some (10, _, _, _, _) => match xcopy h _ with
      | some (r, h1) => xnx (pc + 3) ls r h1
      | none => none
    | _ => none) = _
  rw [hs]
  have j1 : (J sp).toNatClampNeg = sp.toNat := by show (J sp).toInt.toNat = _; rw [J_rg rsp]
  have j2 : (J dp).toNatClampNeg = dp.toNat := by show (J dp).toInt.toNat = _; rw [J_rg rdp]
  have j3 : (J n).toNatClampNeg = n.toNat := by show (J n).toInt.toNat = _; rw [J_rg rn]
  have i1 : ¬ J sp < 0 := fun z => by have := (J_lt rsp rg0).mp z; omega
  have i2 : ¬ J dp < 0 := fun z => by have := (J_lt rdp rg0).mp z; omega
  have i3 : ¬ J n < 0 := fun z => by have := (J_lt rn rg0).mp z; omega
  have hx : xcopy h (.int (J n) :: .int (J dp) :: .ref a2 :: .int (J sp) :: .ref a :: st) = some (st, h.set a2 (some (.inr (u, ws.take dp.toNat ++ (vs.drop sp.toNat).take n.toNat ++ ws.drop (dp.toNat + n.toNat))))) := by
    unfold xcopy
    dsimp only
    rw [e1, f1]
    dsimp only
    rw [j1, j2, j3]
    have hs1 := xsum_le st
    have hs2 := Nat.le_of_ble_eq_true hr
    rw [if_pos ⟨rfl, hu, hab, i1, i2, i3, by omega, by omega, by omega, hall⟩]
  show (match xcopy h (.int (J n) :: .int (J dp) :: .ref a2 :: .int (J sp) :: .ref a :: st) with
      | some (r, h1) => xnx (pc + 3) ls r h1
      | none => none) = _
  rw [hx]
  rfl
theorem vk_xok0 {v : Value} (e : vk v = 0) : xok .int v = true := by rw [vk0 e]; rfl
theorem vk_xok1 {v : Value} (e : vk v = 1) : xok .long v = true := by rw [vk1 e]; rfl
theorem r_cp {u a2 na nb : Nat} {sp dp n : Int} (hi : xP.code mi pc = some (.invokestatic k)) (hs : xP.site mi k = some (10, c, q, ty, w)) (hp : pc + 3 = pc1) (hr : Nat.ble st.length 4 = true) (t : HT h) (ha : hk h a = 100 + u) (hb : hk h a2 = 100 + u) (hu : u < 2) (rsp : rg sp) (rdp : rg dp) (rn : rg n) (ea : hn h a = na) (eb : hn h a2 = nb) (ob : ¬ a = a2 ∧ 0 ≤ sp ∧ 0 ≤ dp ∧ 0 ≤ n ∧ sp + n ≤ (na : Int) ∧ dp + n ≤ (nb : Int)) (K : ∀ h1, h1 = cA h a sp.toNat a2 dp.toNat n.toNat → HT h1 → HX h h1 → RR sc goal fs mi pc1 ls st h1) : RR sc goal fs mi pc ls (.int (J n) :: .int (J dp) :: rv a2 :: .int (J sp) :: rv a :: st) h := by
  obtain ⟨o1, o2, o3, o4, o5, o6⟩ := ob
  obtain ⟨vs, e1, e2, e3, e4, -⟩ := arr_of t ha (by omega)
  refine r_cpk hi hs hp hr t ha hb (.inl hu) rsp rdp rn o1 o2 o3 o4 (by rw [ea]; exact o5) (by rw [eb]; exact o6) (fun vs2 ev => ?_) K
  rw [e4] at ev
  subst ev
  refine List.all_eq_true.mpr fun v hv => ?_
  have z := e3 v (List.mem_of_mem_drop (List.mem_of_mem_take hv))
  have : u = 0 ∨ u = 1 := by omega
  rcases this with rfl | rfl
  · exact vk_xok0 z
  · exact vk_xok1 z
theorem r_cp6 {u a2 na nb : Nat} {sp dp n : Int} (hi : xP.code mi pc = some (.invokestatic k)) (hs : xP.site mi k = some (10, c, q, ty, w)) (hp : pc + 3 = pc1) (hr : Nat.ble st.length 4 = true) (t : HT h) (ha : hk h a = 100 + u) (hb : hk h a2 = 100 + u) (hu : u = 6) (rsp : rg sp) (rdp : rg dp) (rn : rg n) (ea : hn h a = na) (eb : hn h a2 = nb) (ob : ¬ a = a2 ∧ 0 ≤ sp ∧ 0 ≤ dp ∧ 0 ≤ n ∧ sp + n ≤ (na : Int) ∧ dp + n ≤ (nb : Int)) (K : ∀ h1, h1 = cA h a sp.toNat a2 dp.toNat n.toNat → HT h1 → HX h h1 → RR sc goal fs mi pc1 ls st h1) : RR sc goal fs mi pc ls (.int (J n) :: .int (J dp) :: rv a2 :: .int (J sp) :: rv a :: st) h := by
  obtain ⟨o1, o2, o3, o4, o5, o6⟩ := ob
  subst hu
  obtain ⟨vs, e1, e2, e3, e4, -⟩ := arr_of t ha (by omega)
  refine r_cpk hi hs hp hr t ha hb (.inr rfl) rsp rdp rn o1 o2 o3 o4 (by rw [ea]; exact o5) (by rw [eb]; exact o6) (fun vs2 ev => ?_) K
  rw [e4] at ev
  subst ev
  refine List.all_eq_true.mpr fun v hv => ?_
  obtain ⟨m, hm, em⟩ := List.mem_iff_getElem.mp hv
  rw [List.length_take, List.length_drop] at hm
  have o7 : hR h a (sp.toNat + m) = 0 ∨ hk h (hR h a (sp.toNat + m)) = 14 := (t.2.2 a (sp.toNat + m)).2.2.2.1 ha
  have z := e3 v (List.mem_of_mem_drop (List.mem_of_mem_take hv))
  have ev : hR h a (sp.toNat + m) = gvR v := by
    unfold hR el
    rw [e4, ← em, List.getElem_take, List.getElem_drop, List.getElem?_eq_getElem (by omega)]
    rfl
  rw [ev] at o7
  have z2 : v = rv (gvR v) := vk2 z
  rw [z2]
  unfold rv
  by_cases y : gvR v = 0
  · rw [if_pos y]; rfl
  · rw [if_neg y]
    exact xhold_ok y (.inr (.inr (.inr (.inl ⟨rfl, o7.resolve_left y⟩)))) t
/-! floats, the script, a switch by values -/
theorem r_fdiv {z1 z2 : UInt32} (hi : xP.code mi pc = some .fdiv) (hp : pc + 1 = pc1) (c : xn32 (FP.fdiv z1 z2) = true) (K : RR sc goal fs mi pc1 ls (.float (FP.fdiv z1 z2) :: st) h) : RR sc goal fs mi pc ls (.float z2 :: .float z1 :: st) h := by
  subst hp
  refine xr_next hi ?_ K
  show (if xn32 (FP.fdiv z1 z2) then xnx (pc + 1) ls (.float (FP.fdiv z1 z2) :: st) h else none) = _
  rw [if_pos c]
  rfl
theorem r_ddiv {z1 z2 : UInt64} (hi : xP.code mi pc = some .ddiv) (hp : pc + 1 = pc1) (c : xn64 (FP.ddiv z1 z2) = true) (K : RR sc goal fs mi pc1 ls (.double (FP.ddiv z1 z2) :: st) h) : RR sc goal fs mi pc ls (.double z2 :: .double z1 :: st) h := by
  subst hp
  refine xr_next hi ?_ K
  show (if xn64 (FP.ddiv z1 z2) then xnx (pc + 1) ls (.double (FP.ddiv z1 z2) :: st) h else none) = _
  rw [if_pos c]
  rfl
theorem r_f2d {z1 : UInt32} (hi : xP.code mi pc = some .f2d) (hp : pc + 1 = pc1) (c : xn64 (FP.f2d z1) = true) (K : RR sc goal fs mi pc1 ls (.double (FP.f2d z1) :: st) h) : RR sc goal fs mi pc ls (.float z1 :: st) h := by
  subst hp
  refine xr_next hi ?_ K
  show (if xn64 (FP.f2d z1) then xnx (pc + 1) ls (.double (FP.f2d z1) :: st) h else none) = _
  rw [if_pos c]
  rfl
theorem r_dcmp {z1 z2 : UInt64} {op : ClassFile.CmpOp} (hi : xP.code mi pc = some (.dcmp op)) (hp : pc + 1 = pc1) (K : RR sc goal fs mi pc1 ls (.int (J (Op.cmpValue (FP.dcmp z1 z2) op).toInt) :: st) h) : RR sc goal fs mi pc ls (.double z2 :: .double z1 :: st) h := by
  subst hp
  rw [J_toInt] at K
  exact xr_next hi rfl K
theorem r_slen (hi : xP.code mi pc = some .arraylength) (hp : pc + 1 = pc1) (K : RR sc goal fs mi pc1 ls (.int (J (sc.1 : Int)) :: st) h) : RR sc goal fs mi pc ls (.ref 0 :: st) h := by
  subst hp
  rw [show J (sc.1 : Int) = Int32.ofNat sc.1 from Int32.ofInt_eq_ofNat] at K
  exact xr_next hi rfl K
theorem r_sal (hi : xP.code mi pc = some .iaload) (hp : pc + 1 = pc1) (t : HT h) (ri : rg i) (h0 : 0 ≤ i) (h1 : i < (sc.1 : Int)) (K : RR sc goal fs mi pc1 ls (.int (J (sc.2 i.toNat).toInt) :: st) h) : RR sc goal fs mi pc ls (.int (J i) :: .ref 0 :: st) h := by
  subst hp
  rw [J_toInt] at K
  obtain ⟨j1, j2⟩ := in_J (n := sc.1) ri h0 h1
  refine xr_next hi ?_ K
  show (match xload sc h 0 (J i) with
    | some v => if (xkind h 0 == 0) = true then xnx (pc + 1) ls (v :: st) h else none
    | none => none) = _
  have e : xload sc h 0 (J i) = some (.int (sc.2 i.toNat)) := by
    show (if xin (J i) sc.1 then some (Value.int (sc.2 (J i).toNatClampNeg)) else none) = _
    rw [j1, j2, if_pos rfl]
  rw [e]
  have e0 : xcell h 0 = none := by
    have := lyk (a := 0) (n := 0) (c := 9999) t rfl
    unfold hk at this
    cases q : xcell h 0 with
    | none => rfl
    | some z =>
      have ok := t.1 0
      rw [q] at this ok
      cases z with
      | inl y =>
        obtain ⟨c2, vs⟩ := y
        have k1 : c2 < 16 := ok.1
        have k2 : c2 = 9999 := this
        omega
      | inr y =>
        obtain ⟨c2, vs⟩ := y
        have k1 : c2 < 8 := ok.1
        have k2 : 100 + c2 = 9999 := this
        omega
  have e1 : xkind h 0 = 0 := by unfold xkind; rw [e0]
  dsimp only
  rw [e1]
  rfl
def lsN (x : Int) : List (Int × Int) → Prop
  | [] => True
  | p :: ps => ¬ x = p.1 ∧ lsN x ps
def lsA (sc : Nat × (Nat → Int32)) (goal : XO → XH → Prop) (fs : List XF) (mi pc : Nat) (ls : XL) (st : List Value) (h : XH) (x : Int) : List (Int × Int) → Prop
  | [] => True
  | p :: ps => (x = p.1 → ∃ t, (pc : Int) + p.2 = Int.ofNat t ∧ RR sc goal fs mi t ls st h) ∧ lsA sc goal fs mi pc ls st h x ps
theorem lsw_at {d0 : Int} {t0 : Nat} (ho : (pc : Int) + d0 = Int.ofNat t0) : ∀ (ps : List (Int × Int)), (lsN x ps → RR sc goal fs mi t0 ls st h) → lsA sc goal fs mi pc ls st h x ps → ∃ t, (pc : Int) + Op.lookupswitch.offset ps d0 x = Int.ofNat t ∧ RR sc goal fs mi t ls st h := by
  intro ps
  induction ps with
  | nil => intro D _; exact ⟨t0, ho, D trivial⟩
  | cons p ps ih =>
    intro D A
    obtain ⟨a, o⟩ := p
    rw [Op.lookupswitch.offset_cons]
    by_cases z : a = x
    · rw [if_pos z]; exact A.1 z.symm
    · rw [if_neg z]; exact ih (fun q => D ⟨fun y => z y.symm, q⟩) A.2
theorem r_lsw {d0 : Int} {ps : Array (Int × Int)} {t0 : Nat} (hi : xP.code mi pc = some (.lookupswitch d0 ps)) (hx : rg x) (hz : (ps.toList.zip (ps.toList.drop 1)).all (fun (a, next) => a.1 < next.1) = true) (ho : (pc : Int) + d0 = Int.ofNat t0) (D : lsN x ps.toList → RR sc goal fs mi t0 ls st h) (A : lsA sc goal fs mi pc ls st h x ps.toList) : RR sc goal fs mi pc ls (.int (J x) :: st) h := by
  obtain ⟨t, h1, h2⟩ := lsw_at ho ps.toList D A
  refine xr_next hi ?_ h2
  show (if (ps.toList.zip (ps.toList.drop 1)).all (fun (a, next) => a.1 < next.1) = true then xjmp pc (Op.lookupswitch.offset ps.toList d0 (J x).toInt) ls st h else none) = _
  rw [if_pos hz, J_rg hx]
  unfold xjmp
  rw [h1]
  rfl
end RL
theorem te2 {h : XH} {a i : Nat} (t : HT h) (e : hk h a = 102) : hI h a i = 0 ∨ hI h a i = 1 := by have := (t.2.2 a i).1 e; exact this
theorem te3 {h : XH} {a i : Nat} (t : HT h) (e : hk h a = 103) : hR h a i = 0 ∨ hk h (hR h a i) = 1 := (t.2.2 a i).2.1 e
theorem te4 {h : XH} {a i : Nat} (t : HT h) (e : hk h a = 104) : hR h a i = 0 ∨ hk h (hR h a i) = 11 := (t.2.2 a i).2.2.1 e
theorem te6 {h : XH} {a i : Nat} (t : HT h) (e : hk h a = 106) : hR h a i = 0 ∨ hk h (hR h a i) = 14 := (t.2.2 a i).2.2.2.1 e
theorem te7 {h : XH} {a i : Nat} (t : HT h) (e : hk h a = 107) : hR h a i = 0 ∨ hk h (hR h a i) = 100 := (t.2.2 a i).2.2.2.2 e
/-! where the receivers' own rows lie -/
theorem ly_q1 {h : XH} {a f o k n : Nat} (t : HT h) (e : ((xfind lyF (64 * a + f)).any (Nat.beq (a + o)) && (xfind lyS (a + o)).any (fun s => Nat.beq s.1 k && Nat.beq s.2 n)) = true) (hf : Nat.blt f 64 = true := by rfl) : hR h a f = a + o := by
  simp only [Bool.and_eq_true] at e
  cases q : xfind lyF (64 * a + f) with
  | none => rw [q] at e; cases e.1
  | some v =>
    rw [q] at e
    have e1 : Nat.beq (a + o) v = true := e.1
    rw [lyR t hf q, Nat.eq_of_beq_eq_true e1]
theorem ly_q2 {h : XH} {a f o k n : Nat} (t : HT h) (e : ((xfind lyF (64 * a + f)).any (Nat.beq (a + o)) && (xfind lyS (a + o)).any (fun s => Nat.beq s.1 k && Nat.beq s.2 n)) = true) : hk h (a + o) = k ∧ hn h (a + o) = n := by
  simp only [Bool.and_eq_true] at e
  cases q : xfind lyS (a + o) with
  | none => rw [q] at e; cases e.2
  | some v =>
    rw [q] at e
    have e1 : (Nat.beq v.1 k && Nat.beq v.2 n) = true := e.2
    simp only [Bool.and_eq_true] at e1
    have := ly_sh t q
    rw [← Nat.eq_of_beq_eq_true e1.1, ← Nat.eq_of_beq_eq_true e1.2]
    exact this
theorem lyz_7_1 : lyCls 7 (fun a => (xfind lyF (64 * a + 1)).any (Nat.beq (a + 1)) && (xfind lyS (a + 1)).any (fun s => Nat.beq s.1 103 && Nat.beq s.2 8)) = true := by decide +kernel
theorem lyr_7_1 {h : XH} {a : Nat} (t : HT h) (e : hk h a = 7) : hR h a 1 = a + 1 := ly_q1 t (ly_cls t lyz_7_1 (by decide) ly_all e)
theorem lyo_7_1 {h : XH} {a : Nat} (t : HT h) (e : hk h a = 7) : hk h (a + 1) = 103 ∧ hn h (a + 1) = 8 := ly_q2 t (ly_cls t lyz_7_1 (by decide) ly_all e)
theorem lyz_7_3 : lyCls 7 (fun a => (xfind lyF (64 * a + 3)).any (Nat.beq (a + 2)) && (xfind lyS (a + 2)).any (fun s => Nat.beq s.1 104 && Nat.beq s.2 12)) = true := by decide +kernel
theorem lyr_7_3 {h : XH} {a : Nat} (t : HT h) (e : hk h a = 7) : hR h a 3 = a + 2 := ly_q1 t (ly_cls t lyz_7_3 (by decide) ly_all e)
theorem lyo_7_3 {h : XH} {a : Nat} (t : HT h) (e : hk h a = 7) : hk h (a + 2) = 104 ∧ hn h (a + 2) = 12 := ly_q2 t (ly_cls t lyz_7_3 (by decide) ly_all e)
theorem lyz_7_8 : lyCls 7 (fun a => (xfind lyF (64 * a + 8)).any (Nat.beq (a + 3)) && (xfind lyS (a + 3)).any (fun s => Nat.beq s.1 101 && Nat.beq s.2 20)) = true := by decide +kernel
theorem lyr_7_8 {h : XH} {a : Nat} (t : HT h) (e : hk h a = 7) : hR h a 8 = a + 3 := ly_q1 t (ly_cls t lyz_7_8 (by decide) ly_all e)
theorem lyo_7_8 {h : XH} {a : Nat} (t : HT h) (e : hk h a = 7) : hk h (a + 3) = 101 ∧ hn h (a + 3) = 20 := ly_q2 t (ly_cls t lyz_7_8 (by decide) ly_all e)
theorem lyz_9_2 : lyCls 9 (fun a => (xfind lyF (64 * a + 2)).any (Nat.beq (a + 1)) && (xfind lyS (a + 1)).any (fun s => Nat.beq s.1 100 && Nat.beq s.2 12)) = true := by decide +kernel
theorem lyr_9_2 {h : XH} {a : Nat} (t : HT h) (e : hk h a = 9) : hR h a 2 = a + 1 := ly_q1 t (ly_cls t lyz_9_2 (by decide) ly_all e)
theorem lyo_9_2 {h : XH} {a : Nat} (t : HT h) (e : hk h a = 9) : hk h (a + 1) = 100 ∧ hn h (a + 1) = 12 := ly_q2 t (ly_cls t lyz_9_2 (by decide) ly_all e)
theorem lyz_9_3 : lyCls 9 (fun a => (xfind lyF (64 * a + 3)).any (Nat.beq (a + 2)) && (xfind lyS (a + 2)).any (fun s => Nat.beq s.1 101 && Nat.beq s.2 12)) = true := by decide +kernel
theorem lyr_9_3 {h : XH} {a : Nat} (t : HT h) (e : hk h a = 9) : hR h a 3 = a + 2 := ly_q1 t (ly_cls t lyz_9_3 (by decide) ly_all e)
theorem lyo_9_3 {h : XH} {a : Nat} (t : HT h) (e : hk h a = 9) : hk h (a + 2) = 101 ∧ hn h (a + 2) = 12 := ly_q2 t (ly_cls t lyz_9_3 (by decide) ly_all e)
theorem lyz_9_4 : lyCls 9 (fun a => (xfind lyF (64 * a + 4)).any (Nat.beq (a + 3)) && (xfind lyS (a + 3)).any (fun s => Nat.beq s.1 100 && Nat.beq s.2 96)) = true := by decide +kernel
theorem lyr_9_4 {h : XH} {a : Nat} (t : HT h) (e : hk h a = 9) : hR h a 4 = a + 3 := ly_q1 t (ly_cls t lyz_9_4 (by decide) ly_all e)
theorem lyo_9_4 {h : XH} {a : Nat} (t : HT h) (e : hk h a = 9) : hk h (a + 3) = 100 ∧ hn h (a + 3) = 96 := ly_q2 t (ly_cls t lyz_9_4 (by decide) ly_all e)
theorem lyz_9_5 : lyCls 9 (fun a => (xfind lyF (64 * a + 5)).any (Nat.beq (a + 4)) && (xfind lyS (a + 4)).any (fun s => Nat.beq s.1 100 && Nat.beq s.2 40)) = true := by decide +kernel
theorem lyr_9_5 {h : XH} {a : Nat} (t : HT h) (e : hk h a = 9) : hR h a 5 = a + 4 := ly_q1 t (ly_cls t lyz_9_5 (by decide) ly_all e)
theorem lyo_9_5 {h : XH} {a : Nat} (t : HT h) (e : hk h a = 9) : hk h (a + 4) = 100 ∧ hn h (a + 4) = 40 := ly_q2 t (ly_cls t lyz_9_5 (by decide) ly_all e)
theorem lyz_9_6 : lyCls 9 (fun a => (xfind lyF (64 * a + 6)).any (Nat.beq (a + 5)) && (xfind lyS (a + 5)).any (fun s => Nat.beq s.1 100 && Nat.beq s.2 40)) = true := by decide +kernel
theorem lyr_9_6 {h : XH} {a : Nat} (t : HT h) (e : hk h a = 9) : hR h a 6 = a + 5 := ly_q1 t (ly_cls t lyz_9_6 (by decide) ly_all e)
theorem lyo_9_6 {h : XH} {a : Nat} (t : HT h) (e : hk h a = 9) : hk h (a + 5) = 100 ∧ hn h (a + 5) = 40 := ly_q2 t (ly_cls t lyz_9_6 (by decide) ly_all e)
theorem lyz_9_7 : lyCls 9 (fun a => (xfind lyF (64 * a + 7)).any (Nat.beq (a + 6)) && (xfind lyS (a + 6)).any (fun s => Nat.beq s.1 100 && Nat.beq s.2 40)) = true := by decide +kernel
theorem lyr_9_7 {h : XH} {a : Nat} (t : HT h) (e : hk h a = 9) : hR h a 7 = a + 6 := ly_q1 t (ly_cls t lyz_9_7 (by decide) ly_all e)
theorem lyo_9_7 {h : XH} {a : Nat} (t : HT h) (e : hk h a = 9) : hk h (a + 6) = 100 ∧ hn h (a + 6) = 40 := ly_q2 t (ly_cls t lyz_9_7 (by decide) ly_all e)
theorem lyz_9_8 : lyCls 9 (fun a => (xfind lyF (64 * a + 8)).any (Nat.beq (a + 7)) && (xfind lyS (a + 7)).any (fun s => Nat.beq s.1 100 && Nat.beq s.2 40)) = true := by decide +kernel
theorem lyr_9_8 {h : XH} {a : Nat} (t : HT h) (e : hk h a = 9) : hR h a 8 = a + 7 := ly_q1 t (ly_cls t lyz_9_8 (by decide) ly_all e)
theorem lyo_9_8 {h : XH} {a : Nat} (t : HT h) (e : hk h a = 9) : hk h (a + 7) = 100 ∧ hn h (a + 7) = 40 := ly_q2 t (ly_cls t lyz_9_8 (by decide) ly_all e)
theorem lyz_9_9 : lyCls 9 (fun a => (xfind lyF (64 * a + 9)).any (Nat.beq (a + 8)) && (xfind lyS (a + 8)).any (fun s => Nat.beq s.1 100 && Nat.beq s.2 40)) = true := by decide +kernel
theorem lyr_9_9 {h : XH} {a : Nat} (t : HT h) (e : hk h a = 9) : hR h a 9 = a + 8 := ly_q1 t (ly_cls t lyz_9_9 (by decide) ly_all e)
theorem lyo_9_9 {h : XH} {a : Nat} (t : HT h) (e : hk h a = 9) : hk h (a + 8) = 100 ∧ hn h (a + 8) = 40 := ly_q2 t (ly_cls t lyz_9_9 (by decide) ly_all e)
theorem lyz_9_11 : lyCls 9 (fun a => (xfind lyF (64 * a + 11)).any (Nat.beq (a + 9)) && (xfind lyS (a + 9)).any (fun s => Nat.beq s.1 100 && Nat.beq s.2 40)) = true := by decide +kernel
theorem lyr_9_11 {h : XH} {a : Nat} (t : HT h) (e : hk h a = 9) : hR h a 11 = a + 9 := ly_q1 t (ly_cls t lyz_9_11 (by decide) ly_all e)
theorem lyo_9_11 {h : XH} {a : Nat} (t : HT h) (e : hk h a = 9) : hk h (a + 9) = 100 ∧ hn h (a + 9) = 40 := ly_q2 t (ly_cls t lyz_9_11 (by decide) ly_all e)
theorem lyz_9_12 : lyCls 9 (fun a => (xfind lyF (64 * a + 12)).any (Nat.beq (a + 10)) && (xfind lyS (a + 10)).any (fun s => Nat.beq s.1 103 && Nat.beq s.2 120)) = true := by decide +kernel
theorem lyr_9_12 {h : XH} {a : Nat} (t : HT h) (e : hk h a = 9) : hR h a 12 = a + 10 := ly_q1 t (ly_cls t lyz_9_12 (by decide) ly_all e)
theorem lyo_9_12 {h : XH} {a : Nat} (t : HT h) (e : hk h a = 9) : hk h (a + 10) = 103 ∧ hn h (a + 10) = 120 := ly_q2 t (ly_cls t lyz_9_12 (by decide) ly_all e)
theorem lyz_9_13 : lyCls 9 (fun a => (xfind lyF (64 * a + 13)).any (Nat.beq (a + 11)) && (xfind lyS (a + 11)).any (fun s => Nat.beq s.1 102 && Nat.beq s.2 120)) = true := by decide +kernel
theorem lyr_9_13 {h : XH} {a : Nat} (t : HT h) (e : hk h a = 9) : hR h a 13 = a + 11 := ly_q1 t (ly_cls t lyz_9_13 (by decide) ly_all e)
theorem lyo_9_13 {h : XH} {a : Nat} (t : HT h) (e : hk h a = 9) : hk h (a + 11) = 102 ∧ hn h (a + 11) = 120 := ly_q2 t (ly_cls t lyz_9_13 (by decide) ly_all e)
theorem lyz_9_14 : lyCls 9 (fun a => (xfind lyF (64 * a + 14)).any (Nat.beq (a + 12)) && (xfind lyS (a + 12)).any (fun s => Nat.beq s.1 100 && Nat.beq s.2 40)) = true := by decide +kernel
theorem lyr_9_14 {h : XH} {a : Nat} (t : HT h) (e : hk h a = 9) : hR h a 14 = a + 12 := ly_q1 t (ly_cls t lyz_9_14 (by decide) ly_all e)
theorem lyo_9_14 {h : XH} {a : Nat} (t : HT h) (e : hk h a = 9) : hk h (a + 12) = 100 ∧ hn h (a + 12) = 40 := ly_q2 t (ly_cls t lyz_9_14 (by decide) ly_all e)
theorem lyz_9_15 : lyCls 9 (fun a => (xfind lyF (64 * a + 15)).any (Nat.beq (a + 13)) && (xfind lyS (a + 13)).any (fun s => Nat.beq s.1 103 && Nat.beq s.2 80)) = true := by decide +kernel
theorem lyr_9_15 {h : XH} {a : Nat} (t : HT h) (e : hk h a = 9) : hR h a 15 = a + 13 := ly_q1 t (ly_cls t lyz_9_15 (by decide) ly_all e)
theorem lyo_9_15 {h : XH} {a : Nat} (t : HT h) (e : hk h a = 9) : hk h (a + 13) = 103 ∧ hn h (a + 13) = 80 := ly_q2 t (ly_cls t lyz_9_15 (by decide) ly_all e)
theorem lyz_9_16 : lyCls 9 (fun a => (xfind lyF (64 * a + 16)).any (Nat.beq (a + 14)) && (xfind lyS (a + 14)).any (fun s => Nat.beq s.1 100 && Nat.beq s.2 40)) = true := by decide +kernel
theorem lyr_9_16 {h : XH} {a : Nat} (t : HT h) (e : hk h a = 9) : hR h a 16 = a + 14 := ly_q1 t (ly_cls t lyz_9_16 (by decide) ly_all e)
theorem lyo_9_16 {h : XH} {a : Nat} (t : HT h) (e : hk h a = 9) : hk h (a + 14) = 100 ∧ hn h (a + 14) = 40 := ly_q2 t (ly_cls t lyz_9_16 (by decide) ly_all e)
theorem lyz_9_17 : lyCls 9 (fun a => (xfind lyF (64 * a + 17)).any (Nat.beq (a + 15)) && (xfind lyS (a + 15)).any (fun s => Nat.beq s.1 100 && Nat.beq s.2 80)) = true := by decide +kernel
theorem lyr_9_17 {h : XH} {a : Nat} (t : HT h) (e : hk h a = 9) : hR h a 17 = a + 15 := ly_q1 t (ly_cls t lyz_9_17 (by decide) ly_all e)
theorem lyo_9_17 {h : XH} {a : Nat} (t : HT h) (e : hk h a = 9) : hk h (a + 15) = 100 ∧ hn h (a + 15) = 80 := ly_q2 t (ly_cls t lyz_9_17 (by decide) ly_all e)
theorem lyz_9_18 : lyCls 9 (fun a => (xfind lyF (64 * a + 18)).any (Nat.beq (a + 16)) && (xfind lyS (a + 16)).any (fun s => Nat.beq s.1 100 && Nat.beq s.2 80)) = true := by decide +kernel
theorem lyr_9_18 {h : XH} {a : Nat} (t : HT h) (e : hk h a = 9) : hR h a 18 = a + 16 := ly_q1 t (ly_cls t lyz_9_18 (by decide) ly_all e)
theorem lyo_9_18 {h : XH} {a : Nat} (t : HT h) (e : hk h a = 9) : hk h (a + 16) = 100 ∧ hn h (a + 16) = 80 := ly_q2 t (ly_cls t lyz_9_18 (by decide) ly_all e)
theorem lyz_9_19 : lyCls 9 (fun a => (xfind lyF (64 * a + 19)).any (Nat.beq (a + 17)) && (xfind lyS (a + 17)).any (fun s => Nat.beq s.1 103 && Nat.beq s.2 40)) = true := by decide +kernel
theorem lyr_9_19 {h : XH} {a : Nat} (t : HT h) (e : hk h a = 9) : hR h a 19 = a + 17 := ly_q1 t (ly_cls t lyz_9_19 (by decide) ly_all e)
theorem lyo_9_19 {h : XH} {a : Nat} (t : HT h) (e : hk h a = 9) : hk h (a + 17) = 103 ∧ hn h (a + 17) = 40 := ly_q2 t (ly_cls t lyz_9_19 (by decide) ly_all e)
theorem lyz_12_0 : lyCls 12 (fun a => (xfind lyF (64 * a + 0)).any (Nat.beq (a + 1)) && (xfind lyS (a + 1)).any (fun s => Nat.beq s.1 9 && Nat.beq s.2 20)) = true := by decide +kernel
theorem lyr_12_0 {h : XH} {a : Nat} (t : HT h) (e : hk h a = 12) : hR h a 0 = a + 1 := ly_q1 t (ly_cls t lyz_12_0 (by decide) ly_all e)
theorem lyo_12_0 {h : XH} {a : Nat} (t : HT h) (e : hk h a = 12) : hk h (a + 1) = 9 ∧ hn h (a + 1) = 20 := ly_q2 t (ly_cls t lyz_12_0 (by decide) ly_all e)
theorem lyz_12_1 : lyCls 12 (fun a => (xfind lyF (64 * a + 1)).any (Nat.beq (a + 19)) && (xfind lyS (a + 19)).any (fun s => Nat.beq s.1 7 && Nat.beq s.2 12)) = true := by decide +kernel
theorem lyr_12_1 {h : XH} {a : Nat} (t : HT h) (e : hk h a = 12) : hR h a 1 = a + 19 := ly_q1 t (ly_cls t lyz_12_1 (by decide) ly_all e)
theorem lyo_12_1 {h : XH} {a : Nat} (t : HT h) (e : hk h a = 12) : hk h (a + 19) = 7 ∧ hn h (a + 19) = 12 := ly_q2 t (ly_cls t lyz_12_1 (by decide) ly_all e)
theorem lyz_12_2 : lyCls 12 (fun a => (xfind lyF (64 * a + 2)).any (Nat.beq (a + 23)) && (xfind lyS (a + 23)).any (fun s => Nat.beq s.1 7 && Nat.beq s.2 12)) = true := by decide +kernel
theorem lyr_12_2 {h : XH} {a : Nat} (t : HT h) (e : hk h a = 12) : hR h a 2 = a + 23 := ly_q1 t (ly_cls t lyz_12_2 (by decide) ly_all e)
theorem lyo_12_2 {h : XH} {a : Nat} (t : HT h) (e : hk h a = 12) : hk h (a + 23) = 7 ∧ hn h (a + 23) = 12 := ly_q2 t (ly_cls t lyz_12_2 (by decide) ly_all e)
theorem lyz_12_3 : lyCls 12 (fun a => (xfind lyF (64 * a + 3)).any (Nat.beq (a + 27)) && (xfind lyS (a + 27)).any (fun s => Nat.beq s.1 7 && Nat.beq s.2 12)) = true := by decide +kernel
theorem lyr_12_3 {h : XH} {a : Nat} (t : HT h) (e : hk h a = 12) : hR h a 3 = a + 27 := ly_q1 t (ly_cls t lyz_12_3 (by decide) ly_all e)
theorem lyo_12_3 {h : XH} {a : Nat} (t : HT h) (e : hk h a = 12) : hk h (a + 27) = 7 ∧ hn h (a + 27) = 12 := ly_q2 t (ly_cls t lyz_12_3 (by decide) ly_all e)
theorem lyz_12_5 : lyCls 12 (fun a => (xfind lyF (64 * a + 5)).any (Nat.beq (a + 31)) && (xfind lyS (a + 31)).any (fun s => Nat.beq s.1 101 && Nat.beq s.2 3)) = true := by decide +kernel
theorem lyr_12_5 {h : XH} {a : Nat} (t : HT h) (e : hk h a = 12) : hR h a 5 = a + 31 := ly_q1 t (ly_cls t lyz_12_5 (by decide) ly_all e)
theorem lyo_12_5 {h : XH} {a : Nat} (t : HT h) (e : hk h a = 12) : hk h (a + 31) = 101 ∧ hn h (a + 31) = 3 := ly_q2 t (ly_cls t lyz_12_5 (by decide) ly_all e)
theorem lyz_12_8 : lyCls 12 (fun a => (xfind lyF (64 * a + 8)).any (Nat.beq (a + 32)) && (xfind lyS (a + 32)).any (fun s => Nat.beq s.1 100 && Nat.beq s.2 3)) = true := by decide +kernel
theorem lyr_12_8 {h : XH} {a : Nat} (t : HT h) (e : hk h a = 12) : hR h a 8 = a + 32 := ly_q1 t (ly_cls t lyz_12_8 (by decide) ly_all e)
theorem lyo_12_8 {h : XH} {a : Nat} (t : HT h) (e : hk h a = 12) : hk h (a + 32) = 100 ∧ hn h (a + 32) = 3 := ly_q2 t (ly_cls t lyz_12_8 (by decide) ly_all e)
theorem lyz_12_9 : lyCls 12 (fun a => (xfind lyF (64 * a + 9)).any (Nat.beq (a + 33)) && (xfind lyS (a + 33)).any (fun s => Nat.beq s.1 101 && Nat.beq s.2 3)) = true := by decide +kernel
theorem lyr_12_9 {h : XH} {a : Nat} (t : HT h) (e : hk h a = 12) : hR h a 9 = a + 33 := ly_q1 t (ly_cls t lyz_12_9 (by decide) ly_all e)
theorem lyo_12_9 {h : XH} {a : Nat} (t : HT h) (e : hk h a = 12) : hk h (a + 33) = 101 ∧ hn h (a + 33) = 3 := ly_q2 t (ly_cls t lyz_12_9 (by decide) ly_all e)
theorem lyz_12_10 : lyCls 12 (fun a => (xfind lyF (64 * a + 10)).any (Nat.beq (a + 34)) && (xfind lyS (a + 34)).any (fun s => Nat.beq s.1 100 && Nat.beq s.2 120)) = true := by decide +kernel
theorem lyr_12_10 {h : XH} {a : Nat} (t : HT h) (e : hk h a = 12) : hR h a 10 = a + 34 := ly_q1 t (ly_cls t lyz_12_10 (by decide) ly_all e)
theorem lyo_12_10 {h : XH} {a : Nat} (t : HT h) (e : hk h a = 12) : hk h (a + 34) = 100 ∧ hn h (a + 34) = 120 := ly_q2 t (ly_cls t lyz_12_10 (by decide) ly_all e)
