/-! CALLS THAT SET, WIDER: what was worked out ahead and behind; needs that come -/
theorem CS_nd {h : XH} {b : Nat} {N : Nat → Int} {nd nd1 : Nat → ND} {m : Nat} (W : WF N m) (ag : ∀ i, i < m → nd1 i = nd i) (z : CS h b N nd) : CS h b N nd1 := by
  obtain ⟨z1, z2, z3, z4⟩ := z
  refine ⟨⟨z1.1, z1.2.1, fun v hv => ?_⟩, z2, fun r hr => ?_, z4⟩
  · obtain ⟨a1, a2, a3, a4, a5, a6, a7, a8, a9, a10, a11, a12, a13⟩ := z1.2.2 v hv
    have w := W.1.2.2.2.2.1 v hv
    refine ⟨a1, a2, a3, a4, a5, a6, ?_, a8, fun k hk hl => ?_, a10, fun k hk hl => ?_, a12, a13⟩
    · rcases a7 with y | ⟨y, A⟩
      · exact .inl y
      · exact .inr ⟨y, by rw [ag _ (by omega)]; exact A⟩
    · have := w.2.2.2.2.2.2.2.2.2.2.2.2.2.1 k hk hl
      rw [ag _ (by omega)]
      exact a9 k hk hl
    · have := w.2.2.2.2.2.2.2.2.2.2.2.2.2.2.2.2.2.2.1 k hk hl
      rw [ag _ (by omega)]
      exact a11 k hk hl
  · obtain ⟨a1, a2, a3, a4, a5⟩ := z3 r hr
    obtain ⟨-, -, r3, -, -, -, r7, -⟩ := W.2.1 r hr
    refine ⟨a1, fun w hw hl => ?_, a3, fun p hp => ?_, a5⟩
    · rcases a2 w hw hl with y | ⟨y, A⟩
      · exact .inl y
      · have := r3 w hw hl
        exact .inr ⟨y, by rw [ag _ (by omega)]; exact A⟩
    · rcases a4 p hp with y | ⟨y, A⟩
      · exact .inl y
      · have := r7 p hp
        exact .inr ⟨y, by rw [ag _ (by omega)]; exact A⟩
theorem WF_up {N : Nat → Int} {m m1 : Nat} (l : m ≤ m1) (W : WF N m) : WF N m1 := by
  obtain ⟨⟨a1, a2, a3, a4, a5, a6, a7⟩, b, c⟩ := W
  refine ⟨⟨a1, a2, a3, a4, fun v hv => ?_, a6, a7⟩, fun r hr => ?_, c⟩
  · obtain ⟨w1, w2, w3, w4, w5, w6, w7, w8, w9, w10, w11, w12, w13, w14, w15, w16, w17, w18, w19, w20⟩ := a5 v hv
    exact ⟨w1, w2, w3, w4, w5, w6, w7, w8, w9, w10, by omega, w12, w13, fun k hk hl => by have := w14 k hk hl; omega, w15, w16, w17, w18, fun k hk hl => by have := w19 k hk hl; omega, w20⟩
  · obtain ⟨r1, r2, r3, r4, r5, r6, r7, r8⟩ := b r hr
    exact ⟨r1, r2, fun w hw hl => by have := r3 w hw hl; omega, r4, r5, r6, fun p hp => by have := r7 p hp; exact ⟨this.1, by omega, this.2.2⟩, r8⟩
/-- rows of numbers alone are the same -/
def RK (h h1 : XH) : Prop := ∀ b, (446 ≤ b ∧ b ≤ 451 ∨ 458 ≤ b ∧ b ≤ 461 ∨ 468 ≤ b) → (hk h b = 100 ∨ hk h b = 101 ∨ hk h b = 102) → sameC h h1 b
theorem StR_fr2 {h h1 : XH} (S : RK h h1) (e : ∀ j, (24 ≤ j ∧ j ≤ 33) ∨ (52 ≤ j ∧ j ≤ 55) → el h1 437 j = el h 437 j) (z : StR h) : StR h1 := by
  obtain ⟨a3, a4, a5, a6, a7, ⟨b1, b2, b3, b4, b5, b6⟩, a8, a9, a10, a11, c1, c2, c3, c4, d1, d2, d3, d4, d5⟩ := z
  have os : ∀ {k a b : Nat}, own h k a b → (k = 100 ∨ k = 101 ∨ k = 102) → (446 ≤ b ∧ b ≤ 451 ∨ 458 ≤ b ∧ b ≤ 461) → sameC h h1 a := fun {k a b} o hk hb => S a (by rcases o.2 with x | x <;> omega) (by rw [o.1]; exact hk)
  have r : ∀ j, (24 ≤ j ∧ j ≤ 33) ∨ (52 ≤ j ∧ j ≤ 55) → hR h1 437 j = hR h 437 j := fun j hj => congrArg gvR (e j hj)
  have i : ∀ j, (24 ≤ j ∧ j ≤ 33) ∨ (52 ≤ j ∧ j ≤ 55) → hI h1 437 j = hI h 437 j := fun j hj => congrArg gvI (e j hj)
  have s24 := os a3 (by decide) (by omega)
  have s25 := os a4 (by decide) (by omega)
  have s26 := os a5 (by decide) (by omega)
  have s27 := os a6 (by decide) (by omega)
  have s28 := os a7 (by decide) (by omega)
  have s31 := os a9 (by decide) (by omega)
  have s52 := os c1 (by decide) (by omega)
  have s53 := os c2 (by decide) (by omega)
  have s54 := os c3 (by decide) (by omega)
  have s55 := os c4 (by decide) (by omega)
  unfold StR
  rw [r 24 (by omega), r 25 (by omega), r 26 (by omega), r 27 (by omega), r 28 (by omega), r 31 (by omega), r 52 (by omega), r 53 (by omega), r 54 (by omega), r 55 (by omega), sameC_n s24, sameC_n s25, sameC_n s26, sameC_n s27, sameC_n s28, sameC_n s31, sameC_n s52, sameC_n s53, sameC_n s54, sameC_n s55]
  exact ⟨own_fr a3 s24, own_fr a4 s25, own_fr a5 s26, own_fr a6 s27, own_fr a7 s28, ⟨b1, b2, b3, b4, b5, b6⟩, a8, own_fr a9 s31, a10, a11, own_fr c1 s52, own_fr c2 s53, own_fr c3 s54, own_fr c4 s55, d1, d2, d3, d4, d5⟩
theorem CapG_fr2 {h h1 : XH} {nd nd1 : Nat → ND} (t : StR h) (S : RK h h1) (e : ∀ j, (24 ≤ j ∧ j ≤ 33) ∨ j = 39 ∨ j = 45 ∨ (52 ≤ j ∧ j ≤ 55) → el h1 437 j = el h 437 j) (ag : ∀ i, 5000 ≤ i → nd1 i = nd i) (z : CapG h nd) : CapG h1 nd1 := by
  obtain ⟨a3, -, -, -, -, -, -, a9, -, -, c1, -⟩ := t
  have os : ∀ {k a b : Nat}, own h k a b → (k = 100 ∨ k = 101 ∨ k = 102) → (446 ≤ b ∧ b ≤ 451 ∨ 458 ≤ b ∧ b ≤ 461) → sameC h h1 a := fun {k a b} o hk hb => S a (by rcases o.2 with x | x <;> omega) (by rw [o.1]; exact hk)
  have r : ∀ j, (24 ≤ j ∧ j ≤ 33) ∨ j = 39 ∨ j = 45 ∨ (52 ≤ j ∧ j ≤ 55) → hR h1 437 j = hR h 437 j := fun j hj => congrArg gvR (e j hj)
  unfold CapG
  rw [r 24 (by omega), r 31 (by omega), r 52 (by omega), r 39 (by omega), r 45 (by omega), sameC_n (os a3 (by decide) (by omega)), sameC_n (os a9 (by decide) (by omega)), sameC_n (os c1 (by decide) (by omega)), ag 5000 (by decide), ag 5001 (by decide), ag 5002 (by decide)]
  refine ⟨z.1, z.2.1, z.2.2.1, z.2.2.2.1.imp_right (fun y => ?_), z.2.2.2.2.imp_right (fun y => ?_)⟩
  · rw [sameC_k (S _ (by omega) (.inl y.1))]; exact y
  · rw [sameC_k (S _ (by omega) (.inl y.1))]; exact y
theorem CaR_new2 {h h1 : XH} {N M : Nat → Int} {nd nd1 : Nat → ND} (S : RK h h1) (e : ∀ j, j = 12 ∨ (24 ≤ j ∧ j ≤ 33) ∨ j = 38 ∨ j = 39 ∨ j = 40 ∨ j = 44 ∨ j = 45 ∨ j = 46 ∨ (52 ≤ j ∧ j ≤ 55) → el h1 437 j = el h 437 j) (e4 : hI h1 437 4 = hI h 437 4 + 1) (dj : DJo h1) (ag : ∀ i, 5000 ≤ i → nd1 i = nd i) (z : CaR h N nd) : CaR h1 M nd1 := by
  obtain ⟨a1, a2, -, -, -, -, -, -, cg⟩ := z
  have i : ∀ j, j = 12 ∨ j = 30 ∨ j = 38 ∨ j = 40 ∨ j = 44 ∨ j = 46 → hI h1 437 j = hI h 437 j := fun j hj => congrArg gvI (e j (by omega))
  unfold CaR
  rw [i 12 (by omega), i 30 (by omega), i 38 (by omega), i 40 (by omega), i 44 (by omega), i 46 (by omega), e4]
  exact ⟨by omega, ⟨StR_fr2 S (fun j hj => e j (by omega)) a2.1, dj⟩, fun x => by omega, fun x => by omega, fun x => by omega, fun x => by omega, fun x => by omega, fun x => by omega, CapG_fr2 a2.1 S (fun j hj => e j (by omega)) ag cg⟩
/-- all but the tape -/
def Core0 (h : XH) (nd : Nat → ND) (o u : Int) : Prop := CS h 8 (nw h) nd ∧ WF (nw h) (hI h 437 7).toNat ∧ NT h nd ∧ PS h nd (hI h 437 7).toNat o u ∧ hI h 43 2 = 10
theorem Core_0 {h : XH} {nd : Nat → ND} {o u : Int} (R : Core h nd o u) : Core0 h nd o u := ⟨R.1, R.2.1, R.2.2.1, R.2.2.2.1, R.2.2.2.2.1⟩
/-- both have kept their state; what of the heap is asked for between -/
theorem PS_rec2 {h h1 h2 h3 : XH} {nd : Nat → ND} {m : Nat} {o u : Int} (T : HT h) (C : CS h 8 (nw h) nd) (W : WF (nw h) m) (z : PS h nd m o u) (r : Rmb o u h h1) (F : ∀ b, b < h1.length → (86 ≤ b ∧ b < 437 ∨ b = 438 ∨ b = 439 ∨ hk h1 b = 1 ∨ hk h1 b = 11) → sameC h1 h2 b) (l2 : h1.length ≤ h2.length) (e9 : hI h2 2 9 = hI h1 2 9) (e10 : hI h2 2 10 = hI h1 2 10) (r3 : Rrec ((o + u) % 10) u h2 h3) : ∃ o' u', PS h3 nd m o' u' := by
  obtain ⟨b0, -, -, -, -, z5⟩ := z
  obtain ⟨r1, rl, -, -, rc, rd, -⟩ := r
  obtain ⟨q1, ql, -, q3, q2, -, qn, qp, -⟩ := r3
  have L := HT_len T
  have B := bs_lt (k := ((o + u) % 10).toNat) (by omega)
  have F2 : ∀ b, b < h.length → (86 ≤ b ∧ b < 437 ∨ b = 438 ∨ b = 439) → ¬ (bs ((o + u) % 10).toNat ≤ b ∧ b < bs ((o + u) % 10).toNat + 35) → sameC h h2 b := fun b hb x n =>
    sameC_tr (r1 b hb (fun y => y.elim (fun y => by omega) n)) (F b (by omega) (by omega))
  have F3 : ∀ b, b < h.length → 86 ≤ b → b < 437 → ¬ (bs ((o + u) % 10).toNat ≤ b ∧ b < bs ((o + u) % 10).toNat + 35) → sameC h h3 b := fun b hb h86 n1 n =>
    sameC_tr (F2 b hb (by omega) n) (q1 b (by omega) (by omega))
  have X : ∀ a, hk h a = 1 ∨ hk h a = 11 → sameC h h3 a := fun a ha => by
    have ha4 : ¬ a < 468 := fun y => noTxt T y ha
    have hal : a < h.length := by rcases ha with e | e <;> exact hk_lt e (by decide)
    have s1 : sameC h h1 a := r1 a hal (by omega)
    rw [← sameC_k s1] at ha
    exact sameC_tr (sameC_tr s1 (F a (by omega) (by omega))) (q1 a (by omega) (by omega))
  have en : nw h2 = nw h := nw_fr (F2 438 (by omega) (by omega) (by omega))
  have ep : ∀ k, pst h2 k = pst h k := fun k => pst_fr (F2 439 (by omega) (by omega) (by omega)) k
  have new : CS h3 (bs ((o + u) % 10).toNat) (pst h3 ((o + u) % 10).toNat) nd ∧ WF (pst h3 ((o + u) % 10).toNat) m := by
    rw [qn, en]
    refine ⟨CS_copy (h := h) (b := 8) (fun j i hj f => ?_) X (WF_b W) C, W⟩
    rw [sameC_el (q1 (bs ((o + u) % 10).toNat + j) (by omega) (by omega)), sameC_el (F (bs ((o + u) % 10).toNat + j) (by omega) (by omega))]
    exact rd j i hj f
  have old : ∀ k : Nat, (k : Int) < u → ¬ ((o + k) % 10) = (o + u) % 10 → CS h3 (bs ((o + k) % 10).toNat) (pst h3 ((o + k) % 10).toNat) nd ∧ WF (pst h3 ((o + k) % 10).toNat) m := fun k hk n => by
    rw [qp _ (by omega) (by omega), ep]
    obtain ⟨y1, y2⟩ := z5 k hk
    have B2 := bs_lt (k := ((o + k) % 10).toNat) (by omega)
    have B3 := bs_ne (k := ((o + k) % 10).toNat) (l := ((o + u) % 10).toNat) (by omega) (by omega) (by omega)
    exact ⟨CS_fr (fun j hj => F3 _ (by omega) (by omega) (by omega) (by omega)) X (WF_b y2) y1, y2⟩
  have h2' : sameC h2 h3 2 := q1 2 (by omega) (by omega)
  have E9 : hI h3 2 9 = hI h1 2 9 := by rw [sameC_I h2', e9]
  have E10 : hI h3 2 10 = hI h1 2 10 := by rw [sameC_I h2', e10]
  rcases rc with ⟨u1, c9, c10⟩ | ⟨u1, c9, c10⟩
  · refine ⟨o, u + 1, by omega, by rw [E9]; exact c9, by rw [E10]; exact c10, by rw [q2]; omega, by rw [q3]; omega, fun k hk => ?_⟩
    by_cases y : (k : Int) = u
    · rw [y]; exact new
    · exact old k (by omega) (by omega)
  · refine ⟨(o + 1) % 10, 10, by omega, by rw [E9]; exact c9, by rw [E10]; exact c10, by rw [q2]; omega, by rw [q3]; omega, fun k hk => ?_⟩
    by_cases y : k = 9
    · have e : ((o + 1) % 10 + (k : Int)) % 10 = (o + u) % 10 := by omega
      rw [e]; exact new
    · have e : ((o + 1) % 10 + (k : Int)) % 10 = (o + ((k + 1 : Nat) : Int)) % 10 := by omega
      rw [e]; exact old (k + 1) (by omega) (by omega)
/-- both have kept their state, then set something of it: needs may have come -/
theorem Inv_chg {F : Nat → Prop} {h h1 h2 h3 h4 : XH} {nd nd1 : Nat → ND} {o u : Int} {c : Nat} (T : HT h) (R : Core0 h nd o u) (R2 : Bd h o u c) (hc : c < 1000) (r : Rmb o u h h1) (F2 : ∀ b, b < h1.length → (b = 43 ∨ 86 ≤ b ∧ b < 437 ∨ b = 438 ∨ b = 439 ∨ hk h1 b = 1 ∨ hk h1 b = 11) → sameC h1 h2 b) (l2 : h1.length ≤ h2.length) (e2 : ∀ j, j = 9 ∨ j = 10 → el h2 2 j = el h1 2 j) (e437 : ∀ j, (2 ≤ j ∧ j ≤ 4) ∨ j = 6 ∨ j = 7 → el h2 437 j = el h1 437 j) (CR : CaR h2 (nw h2) nd) (r3 : Rrec ((o + u) % 10) u h2 h3) (T3 : HT h3) (F4 : Fr F h3 h4) (f : ∀ b, F b → b = 437 ∨ b = 438 ∨ b = 440 ∨ (462 ≤ b ∧ b < 467) ∨ (468 ≤ b ∧ hk h3 b = 106)) (e4 : ∀ j, (2 ≤ j ∧ j ≤ 4) ∨ j = 12 ∨ (24 ≤ j ∧ j ≤ 33) ∨ j = 38 ∨ j = 39 ∨ j = 40 ∨ j = 44 ∨ j = 45 ∨ j = 46 ∨ (52 ≤ j ∧ j ≤ 55) → el h4 437 j = el h3 437 j) (nC : CS h4 8 (nw h4) nd1) (nW : WF (nw h4) (hI h4 437 7).toNat) (nT : NT h4 nd1) (mm : hI h 437 7 ≤ hI h4 437 7 ∧ hI h4 437 7 ≤ ((c + 1 : Nat) : Int)) (ag : ∀ i, i < (hI h 437 7).toNat → nd1 i = nd i) (ag2 : ∀ i, 5000 ≤ i → nd1 i = nd i) (dj : DJo h4) (CC : CaC h4 (nw h4) nd1) (tp : TP h4) (nb : BdN (nw h4) (c + 1)) : ∃ o' u', Inv h4 nd1 o' u' (c + 1) := by
  obtain ⟨C, W, Nt, P, B⟩ := R
  have L := HT_len T
  have rl := r.2.1
  have ql := r3.2.1
  have bb := P.1
  have Bs := bs_lt (k := ((o + u) % 10).toNat) (by omega)
  have e9 : hI h2 2 9 = hI h1 2 9 := congrArg gvI (e2 9 (.inl rfl))
  have e10 : hI h2 2 10 = hI h1 2 10 := congrArg gvI (e2 10 (.inr rfl))
  have n437 : ∀ j, el h1 437 j = el h 437 j := fun j => sameC_el (r.1 437 (by omega) (by omega)) j
  have i4 : hI h2 437 4 = hI h 437 4 := congrArg gvI ((e437 4 (by omega)).trans (n437 4))
  have i7 : hI h2 437 7 = hI h 437 7 := congrArg gvI ((e437 7 (by omega)).trans (n437 7))
  have j7 : hI h3 437 7 = hI h 437 7 := (congrArg gvI (r3.2.2.2.2.2.1 7 (by decide) (by decide) (by decide))).trans i7
  have n2 : nw h2 = nw h := nw_fr (sameC_tr (r.1 438 (by omega) (by omega)) (F2 438 (by omega) (by omega)))
  have n3 : nw h3 = nw h := (nw_fr (r3.1 438 (by omega) (by decide))).trans n2
  obtain ⟨o', u', P'⟩ := PS_rec2 T C W P r (fun b x y => F2 b x (by omega)) l2 e9 e10 r3
  have B3 : Bd h3 o' u' (c + 1) := by
    refine Bd_rec (S := fun b => ¬ (b = 438 ∨ b = 439)) (F := fun _ => False) T R2 P r (fun b hb n => F2 b hb (by omega)) (fun b y => by omega) l2 e9 e10 (congrArg gvI (e437 4 (by omega))) r3 (Fr_rf _ _) (fun b y => y.elim) ⟨P'.2.1, P'.2.2.1⟩ ?_ hc ?_
    · rw [n3]; exact BdN_mono (by omega) R2.2.2.2.1
    · rw [j7]; have := R2.2.2.1; omega
  have G : ∀ b, b < 462 → ¬ b = 437 → ¬ b = 438 → ¬ b = 440 → sameC h3 h4 b := fun b x y z w => F4 b (by omega) (fun q => by have := f b q; omega)
  have X : ∀ a, hk h3 a = 1 ∨ hk h3 a = 11 → sameC h3 h4 a := fun a ha => F4 a (by rcases ha with e | e <;> exact hk_lt e (by decide)) (fun q => by
    rcases f a q with y | y | y | y | ⟨y, z⟩
    · exact noTxt T3 (by omega) ha
    · exact noTxt T3 (by omega) ha
    · exact noTxt T3 (by omega) ha
    · exact noTxt T3 (by omega) ha
    · omega)
  obtain ⟨p0, p1, p2, p3, p4, p5⟩ := P'
  have c43 : hI h4 43 2 = 10 := by
    rw [sameC_I (G 43 (by decide) (by decide) (by decide) (by decide)), sameC_I (r3.1 43 (by omega) (by decide)), sameC_I (F2 43 (by omega) (by omega)), sameC_I (r.1 43 (by omega) (by omega))]
    exact B
  have ep : ∀ k, pst h4 k = pst h3 k := fun k => pst_fr (G 439 (by decide) (by decide) (by decide) (by decide)) k
  have P4 : PS h4 nd1 (hI h4 437 7).toNat o' u' := by
    refine ⟨p0, by rw [sameC_I (G 2 (by decide) (by decide) (by decide) (by decide))]; exact p1, by rw [sameC_I (G 2 (by decide) (by decide) (by decide) (by decide))]; exact p2, (congrArg gvI (e4 2 (by omega))).trans p3, (congrArg gvI (e4 3 (by omega))).trans p4, fun k hk => ?_⟩
    obtain ⟨y1, y2⟩ := p5 k hk
    have B2 := bs_lt (k := ((o' + k) % 10).toNat) (by omega)
    rw [ep]
    exact ⟨CS_nd y2 ag (CS_fr (fun j hj => G _ (by omega) (by omega) (by omega) (by omega)) X (WF_b y2) y1), WF_up (by omega) y2⟩
  have k4 : hI h4 437 4 = hI h3 437 4 := congrArg gvI (e4 4 (by omega))
  obtain ⟨d1, d2, d3, d4, d5⟩ := B3
  refine ⟨o', u', ⟨nC, nW, nT, P4, c43, tp⟩, ⟨by omega, by omega, mm.2, nb, fun k hk => by rw [ep]; exact d5 k hk⟩, CC, ?_⟩
  refine CaR_new2 (fun b x y => ?_) (fun j hj => (e4 j (by omega)).trans (r3.2.2.2.2.2.1 j (by omega) (by omega) (by omega))) ?_ dj ag2 CR
  · have lb : b < h2.length := by rcases y with y | y | y <;> exact hk_lt y (by decide)
    have s3 : sameC h2 h3 b := r3.1 b lb (by omega)
    refine sameC_tr s3 (F4 b (by omega) (fun q => ?_))
    rw [← sameC_k s3] at y
    rcases f b q with z | z | z | z | ⟨z, w⟩ <;> omega
  · rw [k4, r3.2.2.2.2.2.2.2.2, wr_of (by have := R2.1; omega) (by have := R2.2.1; omega)]
/-- both have set something; needs are as they were -/
theorem set2 {S : Nat → Prop} {N' : Nat → Int} {h h2 h4 h5 g1 g2 g5 g7 : XH} {nd : Nat → ND} {o u : Int} {c n0 s0 n1 s1 : Nat} (T : HT h) (R : Inv h nd o u c) (hc : c < 1000) (hs : ∀ b, S b → b = 2 ∨ (8 ≤ b ∧ b < 43) ∨ (44 ≤ b ∧ b < 86))
    (r : Rmb o u h h2) (Th2 : HT h2) (F4 : Fr S h2 h4) (l4 : h4.length = h2.length) (x4 : xhs h4 = xhs h2) (e2 : ∀ j, j = 9 ∨ j = 10 → el h4 2 j = el h2 2 j) (T4 : HT h4) (C4 : CS h4 8 N' nd) (CC4 : CaC h4 N' nd) (F5 : Fr (fun b => b = 467) h4 h5) (l5 : h5.length = h4.length) (x5 : xhs h5 = xhs h4) (T5 : HT h5)
    (e1 : g1 = sI h5 437 5 0) (T1 : HT g1) (q2 : RSt g1 g2 nd n0 s0) (T2 : HT g2) (r3 : Rrec ((o + u) % 10) u g2 g5) (T6 : HT g5) (F7 : Fr (fun b => b = 437 ∨ b = 438 ∨ (462 ≤ b ∧ b < 467)) g5 g7) (e7 : ∀ j, j ≤ 55 → el g7 437 j = el g5 437 j) (G7 : Gr n1 s1 g5 g7) (en : nw g7 = N') (W' : WF N' (hI h 437 7).toNat) (B' : BdN (nw h) c → BdN N' (c + 1)) :
    (∃ o' u', Inv g7 nd o' u' (c + 1)) ∧ Gr (n0 + n1) (s0 + s1) h g7 ∧ hI g7 437 5 = 0 ∧ hL g7 467 0 = hL h5 467 0 := by
  obtain ⟨R1, R2, R3, R4⟩ := R
  have L := HT_len T
  obtain ⟨b0, -⟩ := id R1.2.2.2.1
  have Bs := bs_lt (k := ((o + u) % 10).toNat) (by omega)
  have rl := r.2.1
  have l1 : g1.length = h5.length := by rw [e1, len_sV]
  have l12 := q2.2.2.2.2.1
  have ql := r3.2.1
  have F41 : Fr (fun b => b = 467 ∨ b = 437) h4 g1 := fun b hb n => sameC_tr (F5 b hb (fun y => n (.inl y))) (by rw [e1]; exact sameC_sV (fun z => n (.inr z.symm)))
  have s4 : ∀ b, b < h.length → (b = 3 ∨ b = 4 ∨ b = 43 ∨ 437 ≤ b) → sameC h h4 b := fun b hb x => sameC_tr (r.1 b hb (by omega)) (F4 b (by omega) (fun y => by have := hs _ y; omega))
  have s1' : ∀ b, b < h.length → (b = 3 ∨ b = 4 ∨ b = 43 ∨ 438 ≤ b) → ¬ b = 467 → sameC h g1 b := fun b hb x n => sameC_tr (s4 b hb (by omega)) (F41 b (by omega) (by omega))
  have b437 : ∀ j, ¬ j = 5 → el g1 437 j = el h 437 j := fun j n => by
    rw [e1, el_ni (fun z => n z.symm), sameC_el (F5 437 (by omega) (by decide))]
    exact sameC_el (s4 437 (by omega) (by omega)) j
  have c437 : ∀ j, 2 ≤ j → j ≤ 11 → ¬ j = 5 → el g2 437 j = el h 437 j := fun j x y n => (q2.2.2.1 j ⟨x, y⟩).trans (b437 j n)
  have n1' : nw g1 = nw h := nw_fr (s1' 438 (by omega) (by omega) (by omega))
  have CR1 : CaR g1 (nw g1) nd := by
    rw [n1']
    exact CaR_fr (fun b x y => s1' b y (by omega) (by omega)) (fun j hj => b437 j (by omega)) L R4
  have CR2 : CaR g2 (nw g2) nd := by
    rw [RSt_nw T1 q2]
    exact q2.1 CR1
  have NT1 : NT g1 nd := NT_fr (fun b x y => s1' b y (by omega) (by omega)) (s1' 440 (by omega) (by omega) (by omega)) (congrArg gvR (b437 6 (by decide))) (congrArg gvI (b437 7 (by decide))) R1.2.2.1
  have NT2 : NT g2 nd := RSt_NT T1 CR1.2.1.1 CR1.2.1.2 q2.2.1 (congrArg gvR (q2.2.2.1 6 (by decide))) (congrArg gvI (q2.2.2.1 7 (by decide))) NT1
  have F57 : Fr (fun b => b = 437 ∨ b = 438 ∨ b = 439 ∨ (462 ≤ b ∧ b < 467)) g2 g7 := fun b hb n => sameC_tr (r3.1 b hb (by omega)) (F7 b (by omega) (by omega))
  have f437 : ∀ j, j ≤ 55 → ¬ j = 2 → ¬ j = 3 → ¬ j = 4 → el g7 437 j = el g2 437 j := fun j x n2 n3 n4 => (e7 j x).trans (r3.2.2.2.2.2.1 j n2 n3 n4)
  have NT7 : NT g7 nd := NT_fr (fun b x y => F57 b y (by omega)) (F57 440 (by omega) (by decide)) (congrArg gvR (f437 6 (by decide) (by decide) (by decide) (by decide))) (congrArg gvI (f437 7 (by decide) (by decide) (by decide) (by decide))) NT2
  have wb := WF_b W'
  have C1 : CS g1 8 N' nd := CS_fr (fun j hj => F41 (8 + j) (by omega) (by omega)) (txt_fr T4 F41 (fun b y => by omega)) wb C4
  have C2 : CS g2 8 N' nd := CS_fr (fun j hj => RSt_s q2 (by omega) (by omega) (by omega) (by omega)) (RSt_X T1 CR1.2.1.1 q2.2.1) wb C1
  have nC : CS g7 8 (nw g7) nd := by
    rw [en]
    exact CS_fr (fun j hj => F57 (8 + j) (by omega) (by omega)) (txt_fr T2 F57 (fun b y => by omega)) wb C2
  have d437 : ∀ j, 6 ≤ j → j ≤ 11 → el g7 437 j = el h 437 j := fun j x y => (f437 j (by omega) (by omega) (by omega) (by omega)).trans (c437 j (by omega) y (by omega))
  have k7 : hI g7 437 7 = hI h 437 7 := congrArg gvI (d437 7 (by decide) (by decide))
  have s27 : ∀ b, b < 462 → ¬ b = 437 → ¬ b = 438 → ¬ b = 439 → ¬ (442 ≤ b ∧ b < 467) → sameC g1 g7 b := fun b x y z w v => sameC_tr (RSt_s q2 (by omega) (by omega) y v) (F57 b (by omega) (by omega))
  have s07 : ∀ b, (b = 3 ∨ b = 4 ∨ b = 440 ∨ b = 441) → sameC h g7 b := fun b x => sameC_tr (s1' b (by omega) (by omega) (by omega)) (s27 b (by omega) (by omega) (by omega) (by omega) (by omega))
  refine ⟨?_, ?_, ?_, ?_⟩
  · refine Inv_chg (h1 := h2) (F := fun b => b = 437 ∨ b = 438 ∨ (462 ≤ b ∧ b < 467)) T (Core_0 R1) R2 hc r (fun b hb y => ?_) (by omega) (fun j hj => ?_) (fun j hj => ?_) CR2 r3 T6 F7 (fun b y => by omega) (fun j hj => e7 j (by omega)) nC (by rw [k7, en]; exact W') NT7 ⟨by omega, by rw [k7]; have := R2.2.2.1; omega⟩ (fun _ _ => rfl) (fun _ _ => rfl) (DJo_fr (fun b x y => F57 b y (by omega)) (by omega) (fun j hj => f437 j (by unfold owP at hj; omega) (by unfold owP at hj; omega) (by unfold owP at hj; omega) (by unfold owP at hj; omega)) CR2.2.1.2) ?_ (TP_fr (s07 3 (by omega)) (s07 4 (by omega)) (s07 441 (by omega)) (congrArg gvI (d437 9 (by decide) (by decide))) (congrArg gvI (d437 10 (by decide) (by decide))) R1.2.2.2.2.2) (by rw [en]; exact B' R2.2.2.2.1)
    · have g4 : sameC h2 h4 b := F4 b hb (fun q => by
        have := hs b q
        rcases y with y | y | y | y | y | y
        · omega
        · omega
        · omega
        · omega
        · exact noTxt Th2 (b := b) (by omega) (.inl y)
        · exact noTxt Th2 (b := b) (by omega) (.inr y))
      have g1' : sameC h4 g1 b := F41 b (by omega) (by
        rcases y with y | y | y | y | y | y
        · omega
        · omega
        · omega
        · omega
        · intro q; exact noTxt T4 (b := b) (by omega) (by rw [sameC_k g4]; exact .inl y)
        · intro q; exact noTxt T4 (b := b) (by omega) (by rw [sameC_k g4]; exact .inr y))
      refine sameC_tr (sameC_tr g4 g1') ?_
      rcases y with y | y | y | y | y | y
      · exact RSt_s q2 (by omega) (by omega) (by omega) (by omega)
      · exact RSt_s q2 (by omega) (by omega) (by omega) (by omega)
      · exact RSt_s q2 (by omega) (by omega) (by omega) (by omega)
      · exact RSt_s q2 (by omega) (by omega) (by omega) (by omega)
      · exact RSt_X T1 CR1.2.1.1 q2.2.1 b (by rw [sameC_k g1', sameC_k g4]; exact .inl y)
      · exact RSt_X T1 CR1.2.1.1 q2.2.1 b (by rw [sameC_k g1', sameC_k g4]; exact .inr y)
    · rw [sameC_el (RSt_s q2 (by omega) (by decide) (by decide) (by decide)), sameC_el (F41 2 (by omega) (by decide))]; exact e2 j hj
    · rw [c437 j (by omega) (by omega) (by omega)]
      exact (sameC_el (r.1 437 (by omega) (by omega)) j).symm
    · rw [en]
      have q : ∀ b, b < 86 → sameC h4 g7 b := fun b x => sameC_tr (F41 b (by omega) (by omega)) (s27 b (by omega) (by omega) (by omega) (by omega) (by omega))
      exact CaC_fr (fun b x y => q b (by omega)) (sameC_el (q 2 (by decide)) 11) CC4
  · have y1 := r.2.2.1
    have y2 := r3.2.2.1
    have y3 : xhs g1 = xhs h5 := by rw [e1, xhs_sV]
    have z := q2.2.2.2.1
    exact ⟨by have := z.1; have := G7.1; omega, by have := z.2; have := G7.2; omega⟩
  · rw [show hI g7 437 5 = hI g2 437 5 from congrArg gvI (f437 5 (by decide) (by decide) (by decide) (by decide)), show hI g2 437 5 = hI g1 437 5 from congrArg gvI (q2.2.2.1 5 (by decide))]
    exact h5_0 T5 (rgk rfl) e1
  · rw [sameC_L (F57 467 (by omega) (by decide)), sameC_L (RSt_s q2 (by omega) (by decide) (by decide) (by decide)), e1, hL_ne (by decide)]
