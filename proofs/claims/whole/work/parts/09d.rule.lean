/-! RULES: the heap -/
section RH
variable {sc : Nat × (Nat → Int32)} {goal : XO → XH → Prop} {fs : List XF} {mi pc pc1 t k c f n : Nat} {ls ls1 : XL} {st : List Value} {h : XH} {o : Int} {x y i : Int} {b : BitVec 64} {a r q : Nat} {ty : FieldType} {w : Value}
theorem rv_hk (t : HT h) (hc : hk h a = c) (hc9 : c < 9999) : rv a = .ref a := by
  refine rv_pos fun z => ?_
  subst z
  have e : xfind lyS 0 = some (9999, 0) := rfl
  have := (ly_sh t e).1
  rw [hc] at this
  omega
theorem r_gf (hi : xP.code mi pc = some (.getfield k)) (hp : pc + 3 = pc1) (hs : xP.site mi k = some (0, c, f, ty, w)) (t : HT h) (hc : hk h a = c) (h16 : Nat.blt c 16 = true) (hf : Nat.blt (fk c f) 9 = true) (K : RR sc goal fs mi pc1 ls (el h a f :: st) h) : RR sc goal fs mi pc ls (rv a :: st) h := by
  subst hp
  have h16 : c < 16 := Nat.le_of_ble_eq_true h16
  obtain ⟨-, -, vs, e1, e2⟩ := el_obj t.1 hc h16 rfl (Nat.le_of_ble_eq_true hf)
  refine xr_next hi ?_ K
  rw [rv_hk t hc (by omega)]
  show (match xP.site mi k, (Value.ref a :: st : List Value) with
    | some (0, ci, f, _, _), .ref a :: r => match xcell h a with
      | some (.inl (c, vs)) => if c = ci then match vs[f]? with
        | some v => xnx (pc + 3) ls (v :: r) h
        | none => none
        else none
      | _ => none
    | _, _ => none) = _
  rw [hs]
  show (match xcell h a with
      | some (.inl (c', vs)) => if c' = c then match vs[f]? with
        | some v => xnx (pc + 3) ls (v :: st) h
        | none => none
        else none
      | _ => none) = _
  rw [e1]
  try dsimp only
  rw [if_pos rfl, e2]
  rfl
theorem el_I (t : HT h) (hc : hk h a = c) (h16 : Nat.blt c 16 = true) (hf : fk c f = 0) : el h a f = .int (J (hI h a f)) := vk0 (el_obj t.1 hc (Nat.le_of_ble_eq_true h16) hf (by decide)).2.1
theorem el_L (t : HT h) (hc : hk h a = c) (h16 : Nat.blt c 16 = true) (hf : fk c f = 1) : el h a f = .long (G (hL h a f)) := vk1 (el_obj t.1 hc (Nat.le_of_ble_eq_true h16) hf (by decide)).2.1
theorem el_R (t : HT h) (hc : hk h a = c) (h16 : Nat.blt c 16 = true) (hf : fk c f = 2) : el h a f = rv (hR h a f) := vk2 (el_obj t.1 hc (Nat.le_of_ble_eq_true h16) hf (by decide)).2.1
theorem r_gfI (hi : xP.code mi pc = some (.getfield k)) (hp : pc + 3 = pc1) (hs : xP.site mi k = some (0, c, f, ty, w)) (t : HT h) (hc : hk h a = c) (h16 : Nat.blt c 16 = true) (hf : fk c f = 0) (K : RR sc goal fs mi pc1 ls (.int (J (hI h a f)) :: st) h) : RR sc goal fs mi pc ls (rv a :: st) h :=
  r_gf hi hp hs t hc h16 (by rw [hf]; rfl) (by rw [el_I t hc h16 hf]; exact K)
theorem r_gfL (hi : xP.code mi pc = some (.getfield k)) (hp : pc + 3 = pc1) (hs : xP.site mi k = some (0, c, f, ty, w)) (t : HT h) (hc : hk h a = c) (h16 : Nat.blt c 16 = true) (hf : fk c f = 1) (K : RR sc goal fs mi pc1 ls (.long (G (hL h a f)) :: st) h) : RR sc goal fs mi pc ls (rv a :: st) h :=
  r_gf hi hp hs t hc h16 (by rw [hf]; rfl) (by rw [el_L t hc h16 hf]; exact K)
theorem r_gfR (hi : xP.code mi pc = some (.getfield k)) (hp : pc + 3 = pc1) (hs : xP.site mi k = some (0, c, f, ty, w)) (t : HT h) (hc : hk h a = c) (h16 : Nat.blt c 16 = true) (hf : fk c f = 2) (K : RR sc goal fs mi pc1 ls (rv (hR h a f) :: st) h) : RR sc goal fs mi pc ls (rv a :: st) h :=
  r_gf hi hp hs t hc h16 (by rw [hf]; rfl) (by rw [el_R t hc h16 hf]; exact K)
/-- a reference that stays: of a known cell -/
theorem r_gfC (hi : xP.code mi pc = some (.getfield k)) (hp : pc + 3 = pc1) (hs : xP.site mi k = some (0, c, f, ty, w)) (t : HT h) (hc : hk h a = c) (h16 : Nat.blt c 16 = true) (hf : fk c f = 2) (hr : hR h a f = q) (K : RR sc goal fs mi pc1 ls (rv q :: st) h) : RR sc goal fs mi pc ls (rv a :: st) h :=
  r_gfR hi hp hs t hc h16 hf (by rw [hr]; exact K)
theorem lyR (t : HT h) (h64 : Nat.blt f 64 = true) (e : xfind lyF (64 * a + f) = some q) : hR h a f = q := t.2.1.2.1 a f q (Nat.le_of_ble_eq_true h64) e
theorem lyk (t : HT h) (e : xfind lyS a = some (c, n)) : hk h a = c := (ly_sh t e).1
theorem lyn (t : HT h) (e : xfind lyS a = some (c, n)) : hn h a = n := (ly_sh t e).2
/-! stores -/
theorem HT_st (t : HT h) {v : Value} (hi : n < hn h a) (hv : vk v = vk (el h a n)) (hf : fin (hk h a) n = false) (he : elOK h (hk h a) v) : HT (sV h a n v) ∧ HX h (sV h a n v) := ⟨HT_sV t hi hv hf he, HX_sV _ _ _ _⟩
theorem r_pf {v : Value} {m : Nat} (hi : xP.code mi pc = some (.putfield k)) (hp : pc + 3 = pc1) (hs : xP.site mi k = some (0, c, f, ty, .ref m)) (t : HT h) (hc : hk h a = c) (h16 : Nat.blt c 16 = true) (hf : fk c f = vk v) (hf9 : Nat.blt (vk v) 9 = true) (hx : xok ty v = true) (hn : fin c f = false) (K : ∀ h1, h1 = sV h a f v → HT h1 → HX h h1 → RR sc goal fs mi pc1 ls st h1) : RR sc goal fs mi pc ls (v :: rv a :: st) h := by
  subst hp
  have h16 : c < 16 := Nat.le_of_ble_eq_true h16
  obtain ⟨e0, e3, vs, e1, e2⟩ := el_obj t.1 hc h16 hf (Nat.le_of_ble_eq_true hf9)
  have T := HT_st t (v := v) e0 e3.symm (by rw [hc]; exact hn) (elOK_no (by rw [hc]; omega))
  have K := K _ rfl T.1 T.2
  have e4 : sV h a f v = h.set a (some (.inl (c, vs.set f v))) := by unfold sV cset; rw [e1]
  rw [e4] at K
  refine xr_next hi ?_ K
  rw [rv_hk t hc (by omega)]
  have e5 : f < vs.length := (List.getElem?_eq_some_iff.mp e2).1
  show (match xP.site mi k, (v :: Value.ref a :: st : List Value) with
    | some (0, ci, f, ty, .ref _), v :: .ref a :: r => match xcell h a with
      | some (.inl (c, vs)) => if c = ci ∧ f < vs.length ∧ xok ty v = true then xnx (pc + 3) ls r (h.set a (some (.inl (c, vs.set f v)))) else none
      | _ => none
    | _, _ => none) = _
  rw [hs]
  show (match xcell h a with
      | some (.inl (c', vs)) => if c' = c ∧ f < vs.length ∧ xok ty v = true then xnx (pc + 3) ls st (h.set a (some (.inl (c', vs.set f v)))) else none
      | _ => none) = _
  rw [e1]
  try dsimp only
  rw [if_pos ⟨rfl, e5, hx⟩]
  rfl
theorem xok_I : xok .int (.int (J x)) = true := rfl
theorem xok_B (hx : x = 0 ∨ x = 1) : xok .boolean (.int (J x)) = true := by rcases hx with rfl | rfl <;> rfl
theorem xok_L : xok .long (.long (G b)) = true := rfl
theorem xok_O {s : String} : xok (.object s) (rv r) = true := by
  unfold rv
  by_cases z : r = 0
  · rw [if_pos z]; rfl
  · rw [if_neg z]; rfl
theorem xok_A {s : FieldType} : xok (.array s) (rv r) = true := by
  unfold rv
  by_cases z : r = 0
  · rw [if_pos z]; rfl
  · rw [if_neg z]; rfl
/-! rows -/
theorem in_J (hx : rg i) (h0 : 0 ≤ i) (h1 : i < (n : Int)) : xin (J i) n = true ∧ (J i).toNatClampNeg = i.toNat := by
  have e : (J i).toNatClampNeg = i.toNat := by show (J i).toInt.toNat = _; rw [J_rg hx]
  refine ⟨?_, e⟩
  unfold xin
  rw [e]
  have e1 : ¬ J i < 0 := fun z => by have := (J_lt hx rg0).mp z; omega
  rw [decide_eq_false e1]
  show Nat.blt i.toNat n = true
  exact Nat.ble_eq_true_of_le (by omega)
theorem xload_at (t : HT h) (hi0 : rg i) (h0 : 0 ≤ i) (h1 : i < (hn h a : Int)) {u : Nat} (hc : hk h a = 100 + u) (hu : u < 8) : xload sc h a (J i) = some (el h a i.toNat) ∧ xkind h a = u ∧ vk (el h a i.toNat) = tyA u := by
  obtain ⟨e1, vs, e2, e3, e4⟩ := el_arr t.1 (i := i.toNat) hc hu (by omega)
  have hz : rv a = .ref a := rv_hk t hc (by omega)
  have ha : ∃ k, a = k + 1 := by
    cases a with
    | zero => cases hz
    | succ k => exact ⟨k, rfl⟩
  obtain ⟨j1, j2⟩ := in_J (n := vs.length) hi0 h0 (by rw [e3]; exact h1)
  refine ⟨?_, ?_, e1⟩
  · obtain ⟨k, rfl⟩ := ha
    show (match xcell h (k + 1) with
      | some (.inr (_, vs)) => if xin (J i) vs.length then vs[(J i).toNatClampNeg]? else none
      | _ => none) = _
    rw [e2]
    try dsimp only
    rw [j1, j2, if_pos rfl, e4]
  · unfold xkind
    rw [e2]
theorem r_al {i0 : Instr} {okf : Nat → Value → Bool} {u : Nat} (hi : xP.code mi pc = some i0) (hs : xstep xP sc mi pc i0 ls (.int (J i) :: .ref a :: st) h = xaload sc pc ls (.int (J i) :: .ref a :: st) h okf) (hp : pc + 1 = pc1) (t : HT h) (hc : hk h a = 100 + u) (hu : Nat.blt u 8 = true) (ho : ∀ v, okf u v = true) (hi0 : rg i) (h0 : 0 ≤ i) (h1 : i < (hn h a : Int)) (K : RR sc goal fs mi pc1 ls (el h a i.toNat :: st) h) : RR sc goal fs mi pc ls (.int (J i) :: rv a :: st) h := by
  subst hp
  have hu : u < 8 := Nat.le_of_ble_eq_true hu
  obtain ⟨e1, e2, -⟩ := xload_at (sc := sc) t hi0 h0 h1 hc hu
  rw [rv_hk t hc (by omega)]
  refine xr_next hi ?_ K
  rw [hs]
  unfold xaload
  try dsimp only
  rw [e1]
  try dsimp only
  rw [e2, ho, if_pos rfl]
  rfl
theorem r_ial (hi : xP.code mi pc = some .iaload) (hp : pc + 1 = pc1) (t : HT h) (hc : hk h a = 100) (hi0 : rg i) (h0 : 0 ≤ i) (h1 : i < (hn h a : Int)) (K : RR sc goal fs mi pc1 ls (.int (J (hI h a i.toNat)) :: st) h) : RR sc goal fs mi pc ls (.int (J i) :: rv a :: st) h :=
  r_al (u := 0) (okf := fun t _ => t == 0) hi rfl hp t hc rfl (fun _ => rfl) hi0 h0 h1 (by rw [vk0 (xload_at (sc := sc) t hi0 h0 h1 (u := 0) hc (by decide)).2.2]; exact K)
theorem r_bal (hi : xP.code mi pc = some .baload) (hp : pc + 1 = pc1) (t : HT h) (hc : hk h a = 102) (hi0 : rg i) (h0 : 0 ≤ i) (h1 : i < (hn h a : Int)) (K : RR sc goal fs mi pc1 ls (.int (J (hI h a i.toNat)) :: st) h) : RR sc goal fs mi pc ls (.int (J i) :: rv a :: st) h :=
  r_al (u := 2) (okf := fun t _ => t == 2) hi rfl hp t hc rfl (fun _ => rfl) hi0 h0 h1 (by rw [vk0 (xload_at (sc := sc) t hi0 h0 h1 (u := 2) hc (by decide)).2.2]; exact K)
theorem r_lal (hi : xP.code mi pc = some .laload) (hp : pc + 1 = pc1) (t : HT h) (hc : hk h a = 101) (hi0 : rg i) (h0 : 0 ≤ i) (h1 : i < (hn h a : Int)) (K : RR sc goal fs mi pc1 ls (.long (G (hL h a i.toNat)) :: st) h) : RR sc goal fs mi pc ls (.int (J i) :: rv a :: st) h :=
  r_al (u := 1) (okf := fun t _ => t == 1) hi rfl hp t hc rfl (fun _ => rfl) hi0 h0 h1 (by rw [vk1 (xload_at (sc := sc) t hi0 h0 h1 (u := 1) hc (by decide)).2.2]; exact K)
theorem r_aal {u : Nat} (hi : xP.code mi pc = some .aaload) (hp : pc + 1 = pc1) (t : HT h) (hc : hk h a = 100 + u) (hu : Nat.blt u 8 = true) (hu2 : Nat.blt 2 u = true) (hi0 : rg i) (h0 : 0 ≤ i) (h1 : i < (hn h a : Int)) (K : RR sc goal fs mi pc1 ls (rv (hR h a i.toNat) :: st) h) : RR sc goal fs mi pc ls (.int (J i) :: rv a :: st) h := by
  have e := (xload_at (sc := sc) t hi0 h0 h1 (u := u) hc (Nat.le_of_ble_eq_true hu)).2.2
  have e2 : tyA u = 2 := by
    have := Nat.le_of_ble_eq_true hu2
    unfold tyA
    rw [if_neg (by omega), if_neg (by omega)]
  exact r_al (u := u) (okf := fun t _ => Nat.blt 2 t) hi rfl hp t hc hu (fun _ => hu2) hi0 h0 h1 (by rw [vk2 (e.trans e2)]; exact K)
theorem xast_at {v : Value} {u : Nat} (t : HT h) (hi0 : rg i) (h0 : 0 ≤ i) (h1 : i < (hn h a : Int)) (hc : hk h a = 100 + u) (hu : u < 8) : xastore h a (J i) v u = some (sV h a i.toNat v) ∧ ∃ vs, xcell h a = some (.inr (u, vs)) := by
  obtain ⟨-, vs, e2, e3, -⟩ := el_arr t.1 (i := i.toNat) hc hu (by omega)
  obtain ⟨j1, j2⟩ := in_J (n := vs.length) hi0 h0 (by rw [e3]; exact h1)
  refine ⟨?_, vs, e2⟩
  unfold xastore sV cset
  rw [e2]
  try dsimp only
  rw [if_pos ⟨rfl, j1⟩, j2]
theorem HT_as {v : Value} {u : Nat} (t : HT h) (h0 : 0 ≤ i) (h1 : i < (hn h a : Int)) (hc : hk h a = 100 + u) (hu : u < 8) (hv : vk v = tyA u) (hf : ¬ u = 5) (he : elOK h (100 + u) v) : HT (sV h a i.toNat v) ∧ HX h (sV h a i.toNat v) := by
  refine HT_st t (by omega) (by rw [(el_arr t.1 (i := i.toNat) hc hu (by omega)).1]; exact hv) ?_ (by rw [hc]; exact he)
  rw [hc]
  have : u = 0 ∨ u = 1 ∨ u = 2 ∨ u = 3 ∨ u = 4 ∨ u = 6 ∨ u = 7 := by omega
  unfold fin
  rcases this with rfl | rfl | rfl | rfl | rfl | rfl | rfl
  all_goals
    rw [show Nat.beq _ 105 = false from rfl, Bool.false_or]
    cases e : xfind finX _ with
    | none => rfl
    | some b2 =>
      obtain ⟨d, q1, q2⟩ := xfind_mem finX _ b2 e
      have z : (finX.all fun d => d.2.all fun q => Nat.blt q.1 6400) = true := by decide +kernel
      have := Nat.le_of_ble_eq_true (List.all_eq_true.mp (List.all_eq_true.mp z d q1) _ q2)
      dsimp only at this
      omega
theorem r_iast (hi : xP.code mi pc = some .iastore) (hp : pc + 1 = pc1) (t : HT h) (hc : hk h a = 100) (hi0 : rg i) (h0 : 0 ≤ i) (h1 : i < (hn h a : Int)) (K : ∀ h1, h1 = sI h a i.toNat x → HT h1 → HX h h1 → RR sc goal fs mi pc1 ls st h1) : RR sc goal fs mi pc ls (.int (J x) :: .int (J i) :: rv a :: st) h := by
  subst hp
  have T := HT_as (v := .int (J x)) (u := 0) t h0 h1 hc (by decide) rfl (by decide) (elOK_no (by decide))
  have K := K _ rfl T.1 T.2
  rw [rv_hk t hc (by omega)]
  refine xr_next hi ?_ K
  show ((xastore h a (J i) (.int (J x)) 0).bind fun h1 => xnx (pc + 1) ls st h1) = _
  rw [(xast_at t hi0 h0 h1 (u := 0) hc (by decide)).1]
  rfl
theorem r_last (hi : xP.code mi pc = some .lastore) (hp : pc + 1 = pc1) (t : HT h) (hc : hk h a = 101) (hi0 : rg i) (h0 : 0 ≤ i) (h1 : i < (hn h a : Int)) (K : ∀ h1, h1 = sL h a i.toNat b → HT h1 → HX h h1 → RR sc goal fs mi pc1 ls st h1) : RR sc goal fs mi pc ls (.long (G b) :: .int (J i) :: rv a :: st) h := by
  subst hp
  have T := HT_as (v := .long (G b)) (u := 1) t h0 h1 hc (by decide) rfl (by decide) (elOK_no (by decide))
  have K := K _ rfl T.1 T.2
  rw [rv_hk t hc (by omega)]
  refine xr_next hi ?_ K
  show ((xastore h a (J i) (.long (G b)) 1).bind fun h1 => xnx (pc + 1) ls st h1) = _
  rw [(xast_at t hi0 h0 h1 (u := 1) hc (by decide)).1]
  rfl
theorem J_and1 (hx : x = 0 ∨ x = 1) : J x &&& 1 = J x := by rcases hx with rfl | rfl <;> rfl
theorem r_bast (hi : xP.code mi pc = some .bastore) (hp : pc + 1 = pc1) (t : HT h) (hc : hk h a = 102) (hx : x = 0 ∨ x = 1) (hi0 : rg i) (h0 : 0 ≤ i) (h1 : i < (hn h a : Int)) (K : ∀ h1, h1 = sI h a i.toNat x → HT h1 → HX h h1 → RR sc goal fs mi pc1 ls st h1) : RR sc goal fs mi pc ls (.int (J x) :: .int (J i) :: rv a :: st) h := by
  subst hp
  have T := HT_as (v := .int (J x)) (u := 2) t h0 h1 hc (by decide) rfl (by decide) ⟨fun _ => by show (J x).toInt = 0 ∨ (J x).toInt = 1; rcases hx with rfl | rfl <;> decide, fun z => by omega, fun z => by omega, fun z => by omega, fun z => by omega⟩
  have K := K _ rfl T.1 T.2
  rw [rv_hk t hc (by omega)]
  refine xr_next hi ?_ K
  show ((xastore h a (J i) (.int (J x &&& 1)) 2).bind fun h1 => xnx (pc + 1) ls st h1) = _
  rw [J_and1 hx, (xast_at t hi0 h0 h1 (u := 2) hc (by decide)).1]
  rfl
/-- which cells a row of references may hold: by its kind -/
def cellOK (h : XH) (u r : Nat) : Prop := r = 0 ∨ (u = 3 ∧ hk h r = 1) ∨ (u = 4 ∧ hk h r = 11) ∨ (u = 6 ∧ hk h r = 14) ∨ (u = 7 ∧ hk h r = 100)
theorem xhold_ok {u : Nat} (hr : ¬ r = 0) (ok : cellOK h u r) (t : HT h) : xhold h u r = true := by
  unfold xhold
  rcases ok with z | ⟨rfl, z⟩ | ⟨rfl, z⟩ | ⟨rfl, z⟩ | ⟨rfl, z⟩
  · exact absurd z hr
  all_goals
    unfold hk at z
    have ok := t.1 r
    cases e : xcell h r with
    | none => rw [e] at z; cases z
    | some q =>
      rw [e] at z ok
      cases q with
      | inl q => obtain ⟨c2, vs⟩ := q; have := ok.1; unfold sh at z; dsimp only at z; (first | (subst z; rfl) | omega)
      | inr q =>
        obtain ⟨c2, vs⟩ := q
        unfold sh at z
        dsimp only at z
        first
          | omega
          | (have e9 : c2 = 0 := (by omega)); subst e9; rfl
theorem r_aast {u : Nat} (hi : xP.code mi pc = some .aastore) (hp : pc + 1 = pc1) (t : HT h) (hc : hk h a = 100 + u) (hu : u = 3 ∨ u = 4 ∨ u = 6 ∨ (u = 7 ∧ ¬ r = 0)) (ok : cellOK h u r) (hi0 : rg i) (h0 : 0 ≤ i) (h1 : i < (hn h a : Int)) (K : ∀ h1, h1 = sR h a i.toNat r → HT h1 → HX h h1 → RR sc goal fs mi pc1 ls st h1) : RR sc goal fs mi pc ls (rv r :: .int (J i) :: rv a :: st) h := by
  subst hp
  have hu8 : u < 8 := by omega
  have ht : tyA u = 2 := by unfold tyA; rw [if_neg (by omega), if_neg (by omega)]
  have T := HT_as (v := rv r) (u := u) t h0 h1 hc hu8 (by rw [vk_rv, ht]) (by omega) (by
    have e : gvR (rv r) = r := gvR_rv r
    refine ⟨fun z => by omega, fun z => ?_, fun z => ?_, fun z => ?_, fun z => ?_⟩ <;> rw [e] <;> rcases ok with y | ⟨y, q⟩ | ⟨y, q⟩ | ⟨y, q⟩ | ⟨y, q⟩ <;> first | exact .inl y | exact .inr q | omega)
  have K := K _ rfl T.1 T.2
  rw [rv_hk t hc (by omega)]
  obtain ⟨e1, vs, e2⟩ := xast_at (v := rv r) t hi0 h0 h1 hc hu8
  refine xr_next hi ?_ K
  by_cases z : r = 0
  · subst z
    show (match xcell h a with
      | some (.inr (t, _)) => if Nat.blt 2 t && Nat.blt t 7 then (xastore h a (J i) .null t).bind fun h1 => xnx (pc + 1) ls st h1 else none
      | _ => none) = _
    rw [e2]
    try dsimp only
    have e3 : (Nat.blt 2 u && Nat.blt u 7) = true := by
      rcases hu with rfl | rfl | rfl | ⟨-, w⟩
      · rfl
      · rfl
      · rfl
      · exact absurd rfl w
    rw [e3, if_pos rfl]
    rw [rv_0] at e1
    rw [e1]
    rfl
  · rw [rv_pos z] at e1 ⊢
    show (match xcell h a with
      | some (.inr (t, _)) => if xhold h t r then (xastore h a (J i) (.ref r) t).bind fun h1 => xnx (pc + 1) ls st h1 else none
      | _ => none) = _
    rw [e2]
    try dsimp only
    rw [xhold_ok z ok t, if_pos rfl, e1]
    show some (Sum.inl (pc + 1, ls, st, sV h a i.toNat (.ref r))) = some (Sum.inl (pc + 1, ls, st, sV h a i.toNat (rv r)))
    rw [rv_pos z]
theorem r_len {u : Nat} (hi : xP.code mi pc = some .arraylength) (hp : pc + 1 = pc1) (t : HT h) (hc : hk h a = 100 + u) (hu : u < 9000) (K : rg (hn h a : Int) → RR sc goal fs mi pc1 ls (.int (J (hn h a : Int)) :: st) h) (hl : (hn h a : Int) < 2147483648) : RR sc goal fs mi pc ls (rv a :: st) h := by
  subst hp
  have K := K ⟨by omega, hl⟩
  have hz := rv_hk t hc (by omega)
  rw [hz]
  refine xr_next hi ?_ K
  have e0 : hk h 0 = 9999 := lyk (n := 0) t rfl
  have e1 : hk h 1 = 9999 := lyk (n := 0) t rfl
  obtain ⟨j, rfl⟩ : ∃ j, a = j + 2 := ⟨a - 2, by
    have : ¬ a = 0 := fun z => by rw [z, e0] at hc; omega
    have : ¬ a = 1 := fun z => by rw [z, e1] at hc; omega
    omega⟩
  show (match xcell h (j + 2) with
    | some (.inr (_, vs)) => xnx (pc + 1) ls (.int (Int32.ofNat vs.length) :: st) h
    | _ => none) = _
  unfold hk at hc
  unfold hn
  cases e : xcell h (j + 2) with
  | none => rw [e] at hc; unfold sh at hc; dsimp only at hc; omega
  | some z =>
    have ok := t.1 (j + 2)
    rw [e] at hc ok
    cases z with
    | inl q => obtain ⟨c2, vs⟩ := q; have := ok.1; unfold sh at hc; dsimp only at hc; omega
    | inr q =>
      obtain ⟨c2, vs⟩ := q
      show some (Sum.inl (pc + 1, ls, Value.int (Int32.ofNat vs.length) :: st, h)) = some (Sum.inl (pc + 1, ls, Value.int (J (vs.length : Int)) :: st, h))
      rw [show J (vs.length : Int) = Int32.ofNat vs.length from Int32.ofInt_eq_ofNat]
theorem r_cast (hi : xP.code mi pc = some (.checkcast k)) (hp : pc + 3 = pc1) (hs : xP.site mi (k + 200000) = some (9, c, q, ty, w)) (t : HT h) (hc : hk h a = c) (h16 : Nat.blt c 16 = true) (K : RR sc goal fs mi pc1 ls (rv a :: st) h) : RR sc goal fs mi pc ls (rv a :: st) h := by
  subst hp
  have h16 : c < 16 := Nat.le_of_ble_eq_true h16
  rw [rv_hk t hc (by omega)] at K ⊢
  refine xr_next hi ?_ K
  show (match xP.site mi (k + 200000), (Value.ref a :: st : List Value) with
    | some (9, c, _, _, _), .ref a :: r => match xcell h a with
      | some (.inl (c2, _)) => if c2 = c then xnx (pc + 3) ls (.ref a :: r) h else none
      | _ => none
    | _, _ => none) = _
  rw [hs]
  show (match xcell h a with
      | some (.inl (c2, _)) => if c2 = c then xnx (pc + 3) ls (Value.ref a :: st) h else none
      | _ => none) = _
  unfold hk at hc
  have ok := t.1 a
  cases e : xcell h a with
  | none => rw [e] at hc; unfold sh at hc; dsimp only at hc; omega
  | some z =>
    rw [e] at hc ok
    cases z with
    | inr q => obtain ⟨c2, vs⟩ := q; unfold sh at hc; dsimp only at hc; omega
    | inl q =>
      obtain ⟨c2, vs⟩ := q
      have hc : c2 = c := hc
      subst hc
      show (if c2 = c2 then xnx (pc + 3) ls (Value.ref a :: st) h else none) = _
      rw [if_pos rfl]
      rfl
/-! growth -/
theorem r_new (hi : xP.code mi pc = some (.new k)) (hp : pc + 3 = pc1) (hs : xP.site mi k = some (2, c, q, ty, w)) (t : HT h) (hc : c = 1 ∨ c = 11 ∨ c = 14) (K : ∀ a h1, a = h.length → h1 = nO h c → HT h1 → HX h h1 → hk h1 a = c → RR sc goal fs mi pc1 ls (rv a :: st) h1) : RR sc goal fs mi pc ls st h := by
  subst hp
  have T : HT (nO h c) := HT_app t (cOK_new (by omega)) (by show c = 1 ∨ c = 11 ∨ c = 14 ∨ 100 ≤ c; omega) (fun j => elOK_no (by show c < 102 ∨ _; omega))
  have e : hk (nO h c) h.length = c := by unfold hk nO; rw [xcell_app, if_pos rfl]; rfl
  have K := K _ _ rfl rfl T (HX_app _ _) e
  have hl : ¬ h.length = 0 := by have := t.2.1.2.2.2; have : lyN = 468 := rfl; omega
  rw [rv_pos hl] at K
  refine xr_next hi ?_ K
  show (match xP.site mi k with
    | some (2, ci, _, _, _) => match xP.news ci with
      | some fs => xnx (pc + 3) ls (.ref h.length :: st) (h ++ [some (.inl (ci, fs))])
      | none => none
    | some (5, x, ic, _, _) => match xP.meth mi with
      | some M => if M.hh.isEmpty = true ∧ xsum st ≤ 8 ∧ xthr xP mi pc ic = true then some (.inr (.inr (.inr x))) else none
      | none => none
    | _ => none : Option XR) = _
  rw [hs]
  try dsimp only
  rcases hc with rfl | rfl | rfl <;> rfl
theorem r_na {i0 : Instr} {u m : Nat} (hi : xP.code mi pc = some i0) (hs : xstep xP sc mi pc i0 ls (.int (J x) :: st) h = xnewarr pc m u (v0 u) ls (.int (J x) :: st) h) (hp : pc + m = pc1) (t : HT h) (hu : Nat.blt u 8 = true) (hx : rg x) (h0 : 0 ≤ x) (h1 : x < 67108864) (K : ∀ a h1, a = h.length → h1 = nA h u x.toNat → HT h1 → HX h h1 → hk h1 a = 100 + u → hn h1 a = x.toNat → RR sc goal fs mi pc1 ls (rv a :: st) h1) : RR sc goal fs mi pc ls (.int (J x) :: st) h := by
  subst hp
  have hu : u < 8 := Nat.le_of_ble_eq_true hu
  have T : HT (nA h u x.toNat) := HT_app t (cOK_arr hu) (by show _ ∨ _ ∨ _ ∨ 100 ≤ 100 + u; omega) (fun j => by
    have e : ∀ v, v ∈ List.replicate x.toNat (v0 u) → v = v0 u := fun v hv => List.eq_of_mem_replicate hv
    show elOK h (100 + u) ((List.replicate x.toNat (v0 u))[j]?.getD .null)
    cases q : (List.replicate x.toNat (v0 u))[j]? with
    | none => exact elOK_z rfl rfl
    | some v =>
      rw [e v (List.mem_of_getElem? q)]
      unfold v0
      split
      · exact elOK_z rfl rfl
      · split
        · exact elOK_z rfl rfl
        · exact elOK_z rfl rfl)
  have e : sh (xcell (nA h u x.toNat) h.length) = (100 + u, x.toNat) := by unfold nA; rw [xcell_app, if_pos rfl]; unfold sh; dsimp only; rw [List.length_replicate]
  have K := K _ _ rfl rfl T (HX_app _ _) (by unfold hk; rw [e]) (by unfold hn; rw [e])
  have hl : ¬ h.length = 0 := by have := t.2.1.2.2.2; have : lyN = 468 := rfl; omega
  rw [rv_pos hl] at K
  refine xr_next hi ?_ K
  rw [hs]
  show (if J x < 0 then none else if Nat.blt (J x).toNatClampNeg 67108864 then xnx (pc + m) ls (.ref h.length :: st) (h ++ [some (.inr (u, List.replicate (J x).toNatClampNeg (v0 u)))]) else none) = _
  obtain ⟨-, j2⟩ := in_J (n := 67108864) hx h0 h1
  rw [if_neg (fun z => by have := (J_lt hx rg0).mp z; omega), j2, if_pos (show Nat.blt x.toNat 67108864 = true from Nat.ble_eq_true_of_le (by omega))]
  rfl
end RH
