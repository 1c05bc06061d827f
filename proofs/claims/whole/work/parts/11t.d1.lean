/-! CALLS OF THE LAW: root, quota -/
theorem fin_ {h3 : XH} {x y : Int} {J : XH → Prop} {K : Int → XH → Prop} (a : hI h3 437 5 = x) (b : x = 0 → hL h3 467 0 = i2l y) (c : J h3) : w_X14_thrown (fun z => rg z → ((z = x → ∃ J' : Prop, (J' → J h3) ∧ ((¬ x = 0 → J') ∧ (¬ (¬ x = 0) → ((hL h3 467 0 = i2l y → J') ∧ (¬ (hL h3 467 0 = i2l y) → K 0 h3))))) ∧ (¬ (z = x) → K 0 h3))) h3 := by
  refine c_X14_thrown ?_
  intro _
  exact ⟨fun _ => ⟨J h3, id, fun _ => c, fun n => ⟨fun _ => c, fun m => (m (b (by omega))).elim⟩⟩, fun n => (n a).elim⟩
theorem nT_s (h : XH) {b : Nat} (hb : b < h.length) : sameC h (nT h) b := (Fr_app (S := fun _ => False) : Fr _ h (nT h)) b hb id
theorem Gr_nT (h : XH) : Gr 1 (xcs none) h (nT h) := ⟨by unfold nT; rw [len_app]; omega, by rw [xhs_nT]; omega⟩
/-- refused: the class has thrown, the reference says so -/
theorem bad_ {h g1 g2 : XH} {nd : Nat → ND} {o u n : Int} {c : Nat} (T : HT h) (T1 : HT (nT h)) (R : Inv h nd o u c) (Tg : HT g1) (rn : rg n) (e1 : g1 = sI (nT h) 437 5 0) (e2 : g2 = sI g1 437 5 n)   : Inv g2 nd o u c ∧ hI g2 437 5 = n ∧ Gr 1 (xcs none) h g2 := by
  refine ⟨?_, h5_0 Tg rn e2, ?_⟩
  · rw [e2]
    exact Inv_5 Tg (by rw [e1]; exact Inv_5 T1 (Inv_nT T R))
  · have g := Gr_nT h
    rw [e2, e1]
    exact ⟨by rw [len_sV, len_sV]; exact g.1, by rw [xhs_sV, xhs_sV]; exact g.2⟩
/-- done: both have kept their state, set something -/
theorem Gr_set {h h2 h4 h5 g1 g5 g7 : XH} {o u q w x0 x1 : Int} {a i b j : Nat} {y : BitVec 64} (r : Rmb o u h h2) (e4 : h4 = sI h2 a i x0) (e5 : h5 = sL h4 467 0 y) (e1 : g1 = sI h5 437 5 0) (r3 : Rrec q w g1 g5) (e7 : g7 = sI g5 b j x1) : Gr 1 (xcs none) h g7 := by
  have := r.2.1
  have := r.2.2.1
  have := r3.2.1
  have := r3.2.2.1
  rw [e1, len_sV, e5, len_sV, e4, len_sV] at *
  have c1 := r3.2.1
  have c2 := r3.2.2.1
  rw [e1, len_sV, e5, len_sV, e4, len_sV] at c1
  rw [e1, xhs_sV, e5, xhs_sV, e4, xhs_sV] at c2
  rw [e7]
  exact ⟨by rw [len_sV]; omega, by rw [xhs_sV]; omega⟩
theorem d_root {h : XH} {nd : Nat → ND} {o u p : Int} {c : Nat} (T : HT h) (R0 : Inv h nd o u c) (hc : c < 1000) {K : Int → XH → Prop} {J : XH → Prop} (k : ∀ h' o' u', HT h' → Inv h' nd o' u' (c + 1) → Gr 1 (xcs none) h h' → J h') : w_L_root p (fun x h2 => HT h2 → HX h h2 → rg x → (w_X14_root p (fun y h3 => HT h3 → HX h2 h3 → rg y → (w_X14_thrown (fun z => rg z → (((z = x → (∃ J' : Prop, (J' → (J h3)) ∧ ((¬ x = 0 → J') ∧ (¬ (¬ x = 0) → (((hL h3 467 0 = i2l y → J') ∧ (¬ (hL h3 467 0 = i2l y) → (K 0 h3)))))))) ∧ (¬ (z = x) → (K 0 h3))))) h3)) h2)) h := by
  have R := R0.1
  obtain ⟨C, W, Nt, P, B, Tp⟩ := id R
  obtain ⟨b0, p1, p2, p3, p4, p5⟩ := id P
  have L := HT_len T
  refine c_L_root b0 T p1 p2 B (fun z => ?_) (fun z h2 h4 h5 r T2 s2 e4 T4 s4 e5 => ?_)
  · intro t1 u1 rx
    have s := nT_s h (b := 437) (by omega)
    refine c_X14_root (q := (o + u) % 10) (u := u) (by omega) t1 (by rw [sameC_I s]; exact p4) (by rw [sameC_I s]; exact p3) (fun _ g1 g2 tg e1 e2 => ?_) (fun z' => (z z').elim)
    intro t2 u2 ry
    obtain ⟨q1, q2, q3⟩ := bad_ T t1 R0 tg (rgk rfl) e1 e2
    exact fin_ q2 (fun n => by omega) (k g2 o u t2 (Inv_mono (Nat.le_succ c) q1) q3)
  · intro t1 u1 rx
    have s : ∀ j, el h5 437 j = el h 437 j := fun j => by
      rw [e5, el_ne (by decide), e4, el_ne (by decide), sameC_el (r.1 437 (by omega) (by have := bs_lt (k := ((o + u) % 10).toNat) (by omega); omega))]
    refine c_X14_root (q := (o + u) % 10) (u := u) (by omega) t1 ((congrArg gvI (s 3)).trans p4) ((congrArg gvI (s 2)).trans p3) (fun n => (n z).elim) (fun _ g1 g5 g7 tg e1 r3 T6 e7 => ?_)
    intro t2 u2 ry
    obtain ⟨⟨o', u', R'⟩, Z, Y⟩ := j_root T R z r T2 T4 e4 e5 t1 e1 r3 T6 e7
    exact fin_ Z (fun _ => Y) (k g7 o' u' t2 (Inv_set T R0 hc r (S := fun b => b = 8) (by rw [e4]; exact Fr_sV rfl) (fun b y => by omega) (by rw [e4, len_sV]) e5 e1 r3 (by rw [e7]; exact Fr_sV rfl) R' (fun e b => BdN_sI e7 (by omega) (by omega) (by omega) (by omega) (by omega) (WF_b W).2.2.2 e b)) (Gr_set r e4 e5 e1 r3 e7))
theorem d_quota {h : XH} {nd : Nat → ND} {o u p : Int} {c : Nat} (T : HT h) (R0 : Inv h nd o u c) (hc : c < 1000) {K : Int → XH → Prop} {J : XH → Prop} (k : ∀ h' o' u', HT h' → Inv h' nd o' u' (c + 1) → Gr 1 (xcs none) h h' → J h') : w_L_quota p (fun x h2 => HT h2 → HX h h2 → rg x → (w_X14_quota p (fun y h3 => HT h3 → HX h2 h3 → rg y → (w_X14_thrown (fun z => rg z → (((z = x → (∃ J' : Prop, (J' → (J h3)) ∧ ((¬ x = 0 → J') ∧ (¬ (¬ x = 0) → (((hL h3 467 0 = i2l y → J') ∧ (¬ (hL h3 467 0 = i2l y) → (K 0 h3)))))))) ∧ (¬ (z = x) → (K 0 h3))))) h3)) h2)) h := by
  have R := R0.1
  obtain ⟨C, W, Nt, P, B, Tp⟩ := id R
  obtain ⟨b0, p1, p2, p3, p4, p5⟩ := id P
  have L := HT_len T
  have a1 : hI h 8 4 = hI h 438 1 := C.2.2.2.1
  have a2 : 0 ≤ hI h 438 1 ∧ hI h 438 1 ≤ 2 := ⟨W.2.2.1, W.2.2.2.1⟩
  have hr : hI h 438 1 = ((hI h 8 4).toNat : Int) := by omega
  refine c_L_quota b0 T p1 p2 B (by omega) (fun z => ?_) (fun z h2 h4 h5 r T2 s2 e4 T4 s4 e5 => ?_)
  · intro t1 u1 rx
    have s := nT_s h (b := 437) (by omega)
    refine c_X14_quota (q := (o + u) % 10) (u := u) (by omega) t1 (by rw [sameC_I s]; exact p4) (by rw [sameC_I s]; exact p3) (by rw [sameC_I (nT_s h (b := 438) (by omega))]; exact hr) (by omega) (fun _ g1 g2 tg e1 e2 => ?_) (fun z' => (z z').elim)
    intro t2 u2 ry
    obtain ⟨q1, q2, q3⟩ := bad_ T t1 R0 tg (rgk rfl) e1 e2
    exact fin_ q2 (fun n => by omega) (k g2 o u t2 (Inv_mono (Nat.le_succ c) q1) q3)
  · intro t1 u1 rx
    have Bs := bs_lt (k := ((o + u) % 10).toNat) (by omega)
    have rb := rc_lt (r := (hI h 8 4).toNat) (by omega)
    have s : ∀ j, el h5 437 j = el h 437 j := fun j => by
      rw [e5, el_ne (by decide), e4, el_ne (by omega), sameC_el (r.1 437 (by omega) (by omega))]
    have s8 : hI h5 438 1 = hI h 438 1 := by
      rw [e5, hI_ne (by decide), e4, hI_ne (by omega), sameC_I (r.1 438 (by omega) (by omega))]
    refine c_X14_quota (q := (o + u) % 10) (u := u) (by omega) t1 ((congrArg gvI (s 3)).trans p4) ((congrArg gvI (s 2)).trans p3) (s8.trans hr) (by omega) (fun n => (n z).elim) (fun _ g1 g5 g7 tg e1 r3 T6 e7 => ?_)
    intro t2 u2 ry
    obtain ⟨⟨o', u', R'⟩, Z, Y⟩ := j_quota T R (by omega) z r T2 T4 e4 e5 t1 e1 r3 T6 e7
    exact fin_ Z (fun _ => Y) (k g7 o' u' t2 (Inv_set T R0 hc r (S := fun b => b = rc (hI h 8 4).toNat) (by rw [e4]; exact Fr_sV rfl) (fun b y => by omega) (by rw [e4, len_sV]) e5 e1 r3 (by rw [e7]; exact Fr_sV rfl) R' (fun e b => BdN_sI e7 (by omega) (by omega) (by omega) (by omega) (by omega) (WF_b W).2.2.2 e b)) (Gr_set r e4 e5 e1 r3 e7))
