/-! printed by dec.py: what each method wants, and that the machine keeps it -/ 
def w_X8_unlikePacks (p0 : BitVec 64) (p1 : BitVec 64) (K : Int → Prop) (h : XH) : Prop :=
  ((∃ (I3 : Int → Int → Prop) (m3 : Int → Int → Nat), I3 0 0 ∧ ∀ (x1 : Int) (x2 : Int), rg x1 → rg x2 → I3 x1 x2 → (((hI h 9 0 ≤ x2 → (K x1)) ∧ (¬ (hI h 9 0 ≤ x2) → ((0 ≤ x2 ∧ x2 < 12) ∧ ∃ J6 : Int → Prop, (∀ (x5 : Int), rg x5 → J6 x5 → (∀ x7 : Int, x7 = ior x1 x5 → rg x7 → ∀ x8 : Int, x8 = wr (x2 + 1) → rg x8 → (I3 x7 x8 ∧ m3 x7 x8 < m3 x1 x2))) ∧ (((p0 ^^^ p1) &&& (hL h 11 x2.toNat) = (0#64) → (J6 0)) ∧ (¬ ((p0 ^^^ p1) &&& (hL h 11 x2.toNat) = (0#64)) → (J6 (ishl 1 x2))))))))))
set_option maxHeartbeats 4000000 in
theorem a_X8_unlikePacks {sc : Nat × (Nat → Int32)} {goal : XO → XH → Prop} {fs : List XF} {h : XH} (p0 : BitVec 64) (p1 : BitVec 64) {K : Int → Prop} (hd : fs.length + 0 ≤ 1000) (w : w_X8_unlikePacks p0 p1 K h) (t0 : HT h) (k : ∀ (r : Int), rg r → K r → XFin xP sc goal fs (.inl (some (.int (J r)))) h) : RR sc goal fs 465 0 [some (rv 9), some (.long (G p0)), none, some (.long (G p1)), none, none, none] [] h := by
  unfold w_X8_unlikePacks at w
  refine r_n (pc1 := 1) [.int (J 0)] _ rfl rfl ?_
  refine r_ist (pc1 := 3) (ls1 := [some (rv 9), some (.long (G p0)), none, some (.long (G p1)), none, some (.int (J 0)), none]) rfl rfl rfl rfl ?_
  refine r_n (pc1 := 4) [.int (J 0)] _ rfl rfl ?_
  refine r_ist (pc1 := 6) (ls1 := [some (rv 9), some (.long (G p0)), none, some (.long (G p1)), none, some (.int (J 0)), some (.int (J 0))]) rfl rfl rfl rfl ?_
  obtain ⟨I3, m3, w, y3⟩ := w
  have Q3 : ∀ (n : Nat)  (x1 : Int) (x2 : Int), rg x1 → rg x2 → m3 x1 x2 < n → I3 x1 x2 → RR sc goal fs 465 6 [some (rv 9), some (.long (G p0)), none, some (.long (G p1)), none, some (.int (J x1)), some (.int (J x2))] [] h := by
    intro n
    induction n with
    | zero => intro x1 x2 rx1 rx2 q3 _; exact absurd q3 (Nat.not_lt_zero _)
    | succ n ih3 =>
      intro x1 x2 rx1 rx2 q3 z3
      have w := y3 x1 x2 rx1 rx2 z3
      refine r_n (pc1 := 8) [.int (J x2)] _ rfl rfl ?_
      refine r_aldn (pc1 := 9) rfl rfl rfl ?_
      refine r_gfI (pc1 := 12) rfl rfl rfl t0 (lyk t0 rfl) rfl rfl ?_
      refine r_ic (t := 50) (pc1 := 15) rfl rfl rfl rx2 (rgh _ _ _) (fun c10 => ?_) (fun c10 => ?_)
      · have w := w.1 c10
        refine r_n (pc1 := 52) [.int (J x1)] _ rfl rfl ?_
        exact r_retI rfl rfl rfl (k _ rx1 w)
      · have w := w.2 c10
        refine r_n (pc1 := 17) [.int (J x1)] _ rfl rfl ?_
        refine r_n (pc1 := 18) [.long (G p0), .int (J x1)] _ rfl rfl ?_
        refine r_n (pc1 := 19) [.long (G p1), .long (G p0), .int (J x1)] _ rfl rfl ?_
        refine r_lxor (pc1 := 20) rfl rfl ?_
        refine r_aldn (pc1 := 21) rfl rfl rfl ?_
        refine r_gfC (pc1 := 24) (q := 11) rfl rfl rfl t0 (lyk t0 rfl) rfl rfl (lyR t0 rfl rfl) ?_
        refine r_n (pc1 := 26) [.int (J x2), rv 11, .long (G (p0 ^^^ p1)), .int (J x1)] _ rfl rfl ?_
        obtain ⟨c4, w⟩ := w
        refine r_lal (pc1 := 27) rfl rfl t0 (lyk t0 rfl) rx2 c4.1 (lt_len (lyn t0 rfl) c4.2) ?_
        refine r_land (pc1 := 28) rfl rfl ?_
        refine r_n (pc1 := 29) [.long (G (0#64)), .long (G ((p0 ^^^ p1) &&& (hL h 11 x2.toNat))), .int (J x1)] _ rfl rfl ?_
        obtain ⟨J6, j6, w⟩ := w
        have Q6 : ∀ (x5 : Int), rg x5 → J6 x5 → RR sc goal fs 465 41 [some (rv 9), some (.long (G p0)), none, some (.long (G p1)), none, some (.int (J x1)), some (.int (J x2))] [.int (J x5), .int (J x1)] h := by
          intro x5 rx5 z6
          have w := j6 x5 rx5 z6
          refine r_ior (pc1 := 42) rfl rfl ?_
          refine r_vI (rgt _) (fun x7 ex7 rx7 => ?_)
          have w := w x7 ex7 rx7
          refine r_ist (pc1 := 44) (ls1 := [some (rv 9), some (.long (G p0)), none, some (.long (G p1)), none, some (.int (J x7)), some (.int (J x2))]) rfl rfl rfl rfl ?_
          refine r_inc (pc1 := 47) (g := fun zz => [some (rv 9), some (.long (G p0)), none, some (.long (G p1)), none, some (.int (J x7)), some (.int (J zz))]) rfl rfl rfl rfl (fun _ => rfl) (fun x8 ex8 rx8 => ?_)
          have w := w x8 ex8 rx8
          refine r_goto (t := 6) rfl rfl ?_
          exact ih3  x7 x8  rx7 rx8 (Nat.lt_of_lt_of_le w.2 (Nat.le_of_lt_succ q3)) w.1
        refine r_lc (pc2 := 30) (t := 40) (pc1 := 33) rfl rfl rfl rfl rfl (fun c9 => ?_) (fun c9 => ?_)
        · have w := w.1 c9
          refine r_n (pc1 := 41) [.int (J 0), .int (J x1)] _ rfl rfl ?_
          exact Q6  0  (rgk rfl) w
        · have w := w.2 c9
          refine r_n (pc1 := 34) [.int (J 1), .int (J x1)] _ rfl rfl ?_
          refine r_n (pc1 := 36) [.int (J x2), .int (J 1), .int (J x1)] _ rfl rfl ?_
          refine r_ishl (pc1 := 37) rfl rfl ?_
          refine r_goto (t := 41) rfl rfl ?_
          exact Q6  (ishl 1 x2)  (rgt _) w
  exact Q3 _  0 0  (rgk rfl) (rgk rfl) (Nat.lt_succ_self _) w
def w_X12_changesBetween (p0 : BitVec 64) (p1 : BitVec 64) (K : Int → Prop) (h : XH) : Prop :=
  (w_X8_unlikePacks p0 p1 (fun x1 => rg x1 → (w_J6_bitCount_0f7a4 x1 (fun x2 => rg x2 → (K x2)) h)) h)
set_option maxHeartbeats 4000000 in
theorem a_X12_changesBetween {sc : Nat × (Nat → Int32)} {goal : XO → XH → Prop} {fs : List XF} {h : XH} (p0 : BitVec 64) (p1 : BitVec 64) {K : Int → Prop} (hd : fs.length + 1 ≤ 1000) (w : w_X12_changesBetween p0 p1 K h) (t0 : HT h) (k : ∀ (r : Int), rg r → K r → XFin xP sc goal fs (.inl (some (.int (J r)))) h) : RR sc goal fs 88 0 [some (rv 2), some (.long (G p0)), none, some (.long (G p1)), none] [] h := by
  unfold w_X12_changesBetween at w
  refine r_aldn (pc1 := 1) rfl rfl rfl ?_
  refine r_gfC (pc1 := 4) (q := 8) rfl rfl rfl t0 (lyk t0 rfl) rfl rfl (lyR t0 rfl rfl) ?_
  refine r_gfC (pc1 := 7) (q := 9) rfl rfl rfl t0 (lyk t0 rfl) rfl rfl (lyR t0 rfl rfl) ?_
  refine r_n (pc1 := 8) [.long (G p0), rv 9] _ rfl rfl ?_
  refine r_n (pc1 := 9) [.long (G p1), .long (G p0), rv 9] _ rfl rfl ?_
  refine r_iv rfl rfl rfl rfl rfl rfl t0 (lyk t0 rfl) rfl (xe_of (xa_r (xa_l (xa_l xa_0))) rfl rfl) (r_d0 hd rfl) (a_X8_unlikePacks p0 p1 (r_d1 hd rfl)  w t0 (fun x1 rx1 w => ?_))
  refine r_fI (pc1 := 12) rfl ?_
  have w := w rx1
  refine r_iq rfl rfl rfl rfl rfl rfl (xe_of (xa_i xa_0) rfl rfl) (r_d0 hd rfl) (a_J6_bitCount_0f7a4 x1 (r_d1 hd rfl) rx1 w t0 (fun x2 rx2 w => ?_))
  refine r_fI (pc1 := 15) rfl ?_
  have w := w rx2
  exact r_retI rfl rfl rfl (k _ rx2 w)
def w_X12_backTo (p0 : Int) (K : Int → XH → Prop) (E : Nat → XH → Prop) (h : XH) : Prop :=
  (w_X11_atHand (fun a1 => (∃ J2 : Prop, (J2 → (w_X12_remember (fun h3 => HT h3 → HX h h3 → (∃ J5 : BitVec 64 → Prop, (∀ (b4 : BitVec 64), J5 b4 → (hk h3 a1 = 7 ∧ ∀ h7 : XH, h7 = sL h3 a1 5 b4 → HT h7 → HX h3 h7 → w_X12_changesBetween (hL h7 a1 6) (hL h7 a1 5) (fun x8 => rg x8 → (K x8 h7)) h7)) ∧ ((¬ p0 = (-1) → (hk h3 a1 = 7 ∧ w_X6_entryAt a1 p0 (fun b10 => J5 b10) h3)) ∧ (¬ (¬ p0 = (-1)) → (J5 (0#64)))))) h)) ∧ ((p0 = (-1) → J2) ∧ (¬ (p0 = (-1)) → (hk h a1 = 7 ∧ w_X6_isKept a1 p0 (fun x13 => rg x13 → (x13 = 0 ∨ x13 = 1) → (((¬ x13 = 0 → J2) ∧ (¬ (¬ x13 = 0) → (E 3 (nT h)))))) h))))) h)
set_option maxHeartbeats 4000000 in
theorem a_X12_backTo {sc : Nat × (Nat → Int32)} {goal : XO → XH → Prop} {fs : List XF} {h : XH} (p0 : Int) {K : Int → XH → Prop} {E : Nat → XH → Prop} (hd : fs.length + 4 ≤ 1000) (rp0 : rg p0) (w : w_X12_backTo p0 K E h) (t0 : HT h) (k : ∀ (r : Int) (h1 : XH), HT h1 → HX h h1 → rg r → K r h1 → XFin xP sc goal fs (.inl (some (.int (J r)))) h1) (kE : ∀ (x : Nat) (h1 : XH), HT h1 → HX h h1 → E x h1 → XFin xP sc goal fs (.inr x) h1) : RR sc goal fs 84 0 [some (rv 2), some (.int (J p0)), none] [] h := by
  unfold w_X12_backTo at w
  refine r_aldn (pc1 := 1) rfl rfl rfl ?_
  refine r_gfC (pc1 := 4) (q := 8) rfl rfl rfl t0 (lyk t0 rfl) rfl rfl (lyR t0 rfl rfl) ?_
  refine r_iv rfl rfl rfl rfl rfl rfl t0 (lyk t0 rfl) rfl (xe_of (xa_r xa_0) rfl rfl) (r_d0 hd rfl) (a_X11_atHand  (r_d1 hd rfl)  w t0 (fun a1 w => ?_))
  refine r_fR (pc1 := 7) rfl ?_
  refine r_astn (pc1 := 8) (ls1 := [some (rv 2), some (.int (J p0)), some (rv a1)]) rfl rfl rfl rfl ?_
  refine r_n (pc1 := 9) [.int (J p0)] _ rfl rfl ?_
  refine r_n (pc1 := 10) [.int (J (-1)), .int (J p0)] _ rfl rfl ?_
  obtain ⟨J2, j2, w⟩ := w
  have Q2 : J2 → RR sc goal fs 84 32 [some (rv 2), some (.int (J p0)), some (rv a1)] [] h := by
    intro z2
    have w := j2 z2
    refine r_aldn (pc1 := 33) rfl rfl rfl ?_
    refine r_iv rfl rfl rfl rfl rfl rfl t0 (lyk t0 rfl) rfl (xe_of (xa_r xa_0) rfl rfl) (r_d0 hd rfl) (a_X12_remember  (r_d1 hd rfl)  w t0 (fun h3 t3 u3 w => ?_))
    refine r_fV (pc1 := 36) rfl ?_
    have s3 := HX_trans (HX_refl h) u3
    have w := w t3 u3
    refine r_aldn (pc1 := 37) rfl rfl rfl ?_
    refine r_n (pc1 := 38) [.int (J p0), rv a1] _ rfl rfl ?_
    refine r_n (pc1 := 39) [.int (J (-1)), .int (J p0), rv a1] _ rfl rfl ?_
    obtain ⟨J5, j5, w⟩ := w
    have Q5 : ∀ (b4 : BitVec 64), J5 b4 → RR sc goal fs 84 51 [some (rv 2), some (.int (J p0)), some (rv a1)] [.long (G b4), rv a1] h3 := by
      intro b4 z5
      have w := j5 b4 z5
      obtain ⟨c6, w⟩ := w
      refine r_pfL (pc1 := 54) rfl rfl rfl t3 c6 rfl rfl rfl (fun h7 eh7 t7 u7 => ?_)
      have w := w h7 eh7 t7 u7
      have s7 := HX_trans s3 u7
      refine r_aldn (pc1 := 55) rfl rfl rfl ?_
      refine r_aldn (pc1 := 56) rfl rfl rfl ?_
      refine r_gfL (pc1 := 59) rfl rfl rfl t7 (HXk u7 c6 rfl) rfl rfl ?_
      refine r_aldn (pc1 := 60) rfl rfl rfl ?_
      refine r_gfL (pc1 := 63) rfl rfl rfl t7 (HXk u7 c6 rfl) rfl rfl ?_
      refine r_iv rfl rfl rfl rfl rfl rfl t7 (lyk t7 rfl) rfl (xe_of (xa_r (xa_l (xa_l xa_0))) rfl rfl) (r_d0 hd rfl) (a_X12_changesBetween (hL h7 a1 6) (hL h7 a1 5) (r_d1 hd rfl)  w t7 (fun x8 rx8 w => ?_))
      refine r_fI (pc1 := 66) rfl ?_
      have w := w rx8
      exact r_retI rfl rfl rfl (k _ _ t7 s7 rx8 w)
    refine r_ic (t := 46) (pc1 := 42) rfl rfl rfl rp0 (rgk rfl) (fun c11 => ?_) (fun c11 => ?_)
    · have w := w.1 c11
      refine r_aldn (pc1 := 47) rfl rfl rfl ?_
      refine r_n (pc1 := 48) [.int (J p0), rv a1, rv a1] _ rfl rfl ?_
      obtain ⟨c9, w⟩ := w
      refine r_iv rfl rfl rfl rfl rfl rfl t3 c9 rfl (xe_of (xa_r (xa_i xa_0)) rfl rfl) (r_d0 hd rfl) (a_X6_entryAt a1 p0 (r_d1 hd rfl) c9 rp0 w t3 (fun b10 w => ?_))
      refine r_fL (pc1 := 51) rfl ?_
      exact Q5  b10   w
    · have w := w.2 c11
      refine r_n (pc1 := 43) [.long (G (0#64)), rv a1] _ rfl rfl ?_
      refine r_goto (t := 51) rfl rfl ?_
      exact Q5  (0#64)   w
  refine r_ic (t := 32) (pc1 := 13) rfl rfl rfl rp0 (rgk rfl) (fun c15 => ?_) (fun c15 => ?_)
  · have w := w.1 c15
    exact Q2     w
  · have w := w.2 c15
    refine r_aldn (pc1 := 14) rfl rfl rfl ?_
    refine r_n (pc1 := 15) [.int (J p0), rv a1] _ rfl rfl ?_
    obtain ⟨c12, w⟩ := w
    refine r_iv rfl rfl rfl rfl rfl rfl t0 c12 rfl (xe_of (xa_r (xa_i xa_0)) rfl rfl) (r_d0 hd rfl) (a_X6_isKept a1 p0 (r_d1 hd rfl) c12 rp0 w t0 (fun x13 rx13 vx13 w => ?_))
    refine r_fI (pc1 := 18) rfl ?_
    have w := w rx13 vx13
    refine r_iz (t := 32) (pc1 := 21) rfl rfl rfl rx13 (fun c14 => ?_) (fun c14 => ?_)
    · have w := w.1 c14
      exact Q2     w
    · have w := w.2 c14
      exact r_thr rfl rfl rfl rfl rfl rfl (kE _ _ (HT_nT t0).1 (HX_trans (HX_refl h) (HT_nT t0).2) w)
def w_L_backTo (p1 : Int) (K : Int → XH → Prop) (h : XH) : Prop :=
  (w_X12_backTo p1 (fun x1 h2 => HT h2 → HX h h2 → rg x1 → (∀ h5 : XH, h5 = sL h2 467 0 (i2l x1) → HT h5 → HX h2 h5 → (K 0 h5))) (fun y4 h3 => ((y4 = 3 ∧ K 1 h3))) h)
set_option maxHeartbeats 4000000 in
theorem a_L_backTo {sc : Nat × (Nat → Int32)} {goal : XO → XH → Prop} {fs : List XF} {h : XH} (p1 : Int) {K : Int → XH → Prop} (hd : fs.length + 5 ≤ 1000) (rp1 : rg p1) (w : w_L_backTo p1 K h) (t0 : HT h) (k : ∀ (r : Int) (h1 : XH), HT h1 → HX h h1 → rg r → K r h1 → XFin xP sc goal fs (.inl (some (.int (J r)))) h1) : RR sc goal fs 28 0 [some (rv 2), some (.int (J p1)), some (rv 467), none] [] h := by
  unfold w_L_backTo at w
  refine r_aldn (pc1 := 1) rfl rfl rfl ?_
  refine r_n (pc1 := 2) [.int (J 0), rv 467] _ rfl rfl ?_
  refine r_aldn (pc1 := 3) rfl rfl rfl ?_
  refine r_n (pc1 := 4) [.int (J p1), rv 2, .int (J 0), rv 467] _ rfl rfl ?_
  refine r_iv rfl rfl rfl rfl rfl rfl t0 (lyk t0 rfl) rfl (xe_of (xa_r (xa_i xa_0)) rfl rfl) (r_d0 hd rfl) (a_X12_backTo p1 (r_d1 hd rfl) rp1 w t0 (fun x1 h2 t2 u2 rx1 w => ?_) (fun y4 h3 ty uy w => ?_))
  · refine r_fI (pc1 := 7) rfl ?_
    have s2 := HX_trans (HX_refl h) u2
    have w := w t2 u2
    have w := w rx1
    refine r_i2l (pc1 := 8) rfl rfl ?_
    refine r_last (pc1 := 9) rfl rfl t2 (lyk t2 rfl) (rgk rfl) (by decide) (lt_len (lyn t2 rfl) (by decide)) (fun h5 eh5 t5 u5 => ?_)
    have w := w h5 eh5 t5 u5
    have s5 := HX_trans s2 u5
    refine r_goto (t := 15) rfl rfl ?_
    refine r_n (pc1 := 16) [.int (J 0)] _ rfl rfl ?_
    exact r_retI rfl rfl rfl (k _ _ t5 s5 (rgk rfl) w)
  · obtain ⟨rfl, w⟩ := w
    exact r_fink (z := 1) rfl (by decide) rfl rfl (k _ _ ty (HX_trans (HX_refl h) uy) (rgk rfl) w)
def w_X12_checkPack (p0 : Int) (K : Prop) (E : Nat → XH → Prop) (h : XH) : Prop :=
  (∃ J1 : Prop, (J1 → (E 2 (nT h))) ∧ ((p0 < 0 → J1) ∧ (¬ (p0 < 0) → (((p0 < hI h 9 0 → (K)) ∧ (¬ (p0 < hI h 9 0) → J1))))))
set_option maxHeartbeats 4000000 in
theorem a_X12_checkPack {sc : Nat × (Nat → Int32)} {goal : XO → XH → Prop} {fs : List XF} {h : XH} (p0 : Int) {K : Prop} {E : Nat → XH → Prop} (hd : fs.length + 0 ≤ 1000) (rp0 : rg p0) (w : w_X12_checkPack p0 K E h) (t0 : HT h) (k : K → XFin xP sc goal fs (.inl none) h) (kE : ∀ (x : Nat) (h1 : XH), HT h1 → HX h h1 → E x h1 → XFin xP sc goal fs (.inr x) h1) : RR sc goal fs 92 0 [some (rv 2), some (.int (J p0))] [] h := by
  unfold w_X12_checkPack at w
  refine r_n (pc1 := 1) [.int (J p0)] _ rfl rfl ?_
  obtain ⟨J1, j1, w⟩ := w
  have Q1 : J1 → RR sc goal fs 92 18 [some (rv 2), some (.int (J p0))] [] h := by
    intro z1
    have w := j1 z1
    exact r_thr rfl rfl rfl rfl rfl rfl (kE _ _ (HT_nT t0).1 (HX_trans (HX_refl h) (HT_nT t0).2) w)
  refine r_iz (t := 18) (pc1 := 4) rfl rfl rfl rp0 (fun c3 => ?_) (fun c3 => ?_)
  · have w := w.1 c3
    exact Q1     w
  · have w := w.2 c3
    refine r_n (pc1 := 5) [.int (J p0)] _ rfl rfl ?_
    refine r_aldn (pc1 := 6) rfl rfl rfl ?_
    refine r_gfC (pc1 := 9) (q := 8) rfl rfl rfl t0 (lyk t0 rfl) rfl rfl (lyR t0 rfl rfl) ?_
    refine r_gfC (pc1 := 12) (q := 9) rfl rfl rfl t0 (lyk t0 rfl) rfl rfl (lyR t0 rfl rfl) ?_
    refine r_gfI (pc1 := 15) rfl rfl rfl t0 (lyk t0 rfl) rfl rfl ?_
    refine r_ic (t := 29) (pc1 := 18) rfl rfl rfl rp0 (rgh _ _ _) (fun c2 => ?_) (fun c2 => ?_)
    · have w := w.1 c2
      exact r_retV rfl rfl rfl (k  w)
    · have w := w.2 c2
      exact Q1     w
def w_X8_idOf (p0 : Int) (p1 : Int) (K : Int → Prop) (h : XH) : Prop :=
  ((∃ (I2 : Int → Prop) (m2 : Int → Nat), I2 0 ∧ ∀ (x1 : Int), rg x1 → I2 x1 → (((hI h 9 1 ≤ x1 → (K (-1))) ∧ (¬ (hI h 9 1 ≤ x1) → ((0 ≤ x1 ∧ x1 < 40) ∧ ∃ J4 : Prop, (J4 → (∀ x5 : Int, x5 = wr (x1 + 1) → rg x5 → (I2 x5 ∧ m2 x5 < m2 x1))) ∧ ((¬ hI h 13 x1.toNat = p0 → J4) ∧ (¬ (¬ hI h 13 x1.toNat = p0) → (((¬ hI h 14 x1.toNat = p1 → J4) ∧ (¬ (¬ hI h 14 x1.toNat = p1) → (K x1))))))))))))
set_option maxHeartbeats 4000000 in
theorem a_X8_idOf {sc : Nat × (Nat → Int32)} {goal : XO → XH → Prop} {fs : List XF} {h : XH} (p0 : Int) (p1 : Int) {K : Int → Prop} (hd : fs.length + 0 ≤ 1000) (rp0 : rg p0) (rp1 : rg p1) (w : w_X8_idOf p0 p1 K h) (t0 : HT h) (k : ∀ (r : Int), rg r → K r → XFin xP sc goal fs (.inl (some (.int (J r)))) h) : RR sc goal fs 459 0 [some (rv 9), some (.int (J p0)), some (.int (J p1)), none] [] h := by
  unfold w_X8_idOf at w
  refine r_n (pc1 := 1) [.int (J 0)] _ rfl rfl ?_
  refine r_istn (pc1 := 2) (ls1 := [some (rv 9), some (.int (J p0)), some (.int (J p1)), some (.int (J 0))]) rfl rfl rfl rfl ?_
  obtain ⟨I2, m2, w, y2⟩ := w
  have Q2 : ∀ (n : Nat)  (x1 : Int), rg x1 → m2 x1 < n → I2 x1 → RR sc goal fs 459 2 [some (rv 9), some (.int (J p0)), some (.int (J p1)), some (.int (J x1))] [] h := by
    intro n
    induction n with
    | zero => intro x1 rx1 q2 _; exact absurd q2 (Nat.not_lt_zero _)
    | succ n ih2 =>
      intro x1 rx1 q2 z2
      have w := y2 x1 rx1 z2
      refine r_n (pc1 := 3) [.int (J x1)] _ rfl rfl ?_
      refine r_aldn (pc1 := 4) rfl rfl rfl ?_
      refine r_gfI (pc1 := 7) rfl rfl rfl t0 (lyk t0 rfl) rfl rfl ?_
      refine r_ic (t := 38) (pc1 := 10) rfl rfl rfl rx1 (rgh _ _ _) (fun c8 => ?_) (fun c8 => ?_)
      · have w := w.1 c8
        refine r_n (pc1 := 39) [.int (J (-1))] _ rfl rfl ?_
        exact r_retI rfl rfl rfl (k _ (rgk rfl) w)
      · have w := w.2 c8
        refine r_aldn (pc1 := 11) rfl rfl rfl ?_
        refine r_gfC (pc1 := 14) (q := 13) rfl rfl rfl t0 (lyk t0 rfl) rfl rfl (lyR t0 rfl rfl) ?_
        refine r_n (pc1 := 15) [.int (J x1), rv 13] _ rfl rfl ?_
        obtain ⟨c3, w⟩ := w
        refine r_ial (pc1 := 16) rfl rfl t0 (lyk t0 rfl) rx1 c3.1 (lt_len (lyn t0 rfl) c3.2) ?_
        refine r_n (pc1 := 17) [.int (J p0), .int (J (hI h 13 x1.toNat))] _ rfl rfl ?_
        obtain ⟨J4, j4, w⟩ := w
        have Q4 : J4 → RR sc goal fs 459 32 [some (rv 9), some (.int (J p0)), some (.int (J p1)), some (.int (J x1))] [] h := by
          intro z4
          have w := j4 z4
          refine r_inc (pc1 := 35) (g := fun zz => [some (rv 9), some (.int (J p0)), some (.int (J p1)), some (.int (J zz))]) rfl rfl rfl rfl (fun _ => rfl) (fun x5 ex5 rx5 => ?_)
          have w := w x5 ex5 rx5
          refine r_goto (t := 2) rfl rfl ?_
          exact ih2  x5  rx5 (Nat.lt_of_lt_of_le w.2 (Nat.le_of_lt_succ q2)) w.1
        refine r_ic (t := 32) (pc1 := 20) rfl rfl rfl (rgh _ _ _) rp0 (fun c7 => ?_) (fun c7 => ?_)
        · have w := w.1 c7
          exact Q4     w
        · have w := w.2 c7
          refine r_aldn (pc1 := 21) rfl rfl rfl ?_
          refine r_gfC (pc1 := 24) (q := 14) rfl rfl rfl t0 (lyk t0 rfl) rfl rfl (lyR t0 rfl rfl) ?_
          refine r_n (pc1 := 25) [.int (J x1), rv 14] _ rfl rfl ?_
          refine r_ial (pc1 := 26) rfl rfl t0 (lyk t0 rfl) rx1 c3.1 (lt_len (lyn t0 rfl) c3.2) ?_
          refine r_n (pc1 := 27) [.int (J p1), .int (J (hI h 14 x1.toNat))] _ rfl rfl ?_
          refine r_ic (t := 32) (pc1 := 30) rfl rfl rfl (rgh _ _ _) rp1 (fun c6 => ?_) (fun c6 => ?_)
          · have w := w.1 c6
            exact Q4     w
          · have w := w.2 c6
            refine r_n (pc1 := 31) [.int (J x1)] _ rfl rfl ?_
            exact r_retI rfl rfl rfl (k _ rx1 w)
  exact Q2 _  0  (rgk rfl) (Nat.lt_succ_self _) w
def w_X12_checkedId (p0 : Int) (p1 : Int) (K : Int → Prop) (E : Nat → XH → Prop) (h : XH) : Prop :=
  (w_X12_checkPack p0 ((w_X8_idOf p0 p1 (fun x1 => rg x1 → (((¬ x1 = (-1) → (K x1)) ∧ (¬ (¬ x1 = (-1)) → (E 2 (nT h)))))) h)) E h)
set_option maxHeartbeats 4000000 in
theorem a_X12_checkedId {sc : Nat × (Nat → Int32)} {goal : XO → XH → Prop} {fs : List XF} {h : XH} (p0 : Int) (p1 : Int) {K : Int → Prop} {E : Nat → XH → Prop} (hd : fs.length + 1 ≤ 1000) (rp0 : rg p0) (rp1 : rg p1) (w : w_X12_checkedId p0 p1 K E h) (t0 : HT h) (k : ∀ (r : Int), rg r → K r → XFin xP sc goal fs (.inl (some (.int (J r)))) h) (kE : ∀ (x : Nat) (h1 : XH), HT h1 → HX h h1 → E x h1 → XFin xP sc goal fs (.inr x) h1) : RR sc goal fs 93 0 [some (rv 2), some (.int (J p0)), some (.int (J p1)), none] [] h := by
  unfold w_X12_checkedId at w
  refine r_aldn (pc1 := 1) rfl rfl rfl ?_
  refine r_n (pc1 := 2) [.int (J p0), rv 2] _ rfl rfl ?_
  refine r_iv rfl rfl rfl rfl rfl rfl t0 (lyk t0 rfl) rfl (xe_of (xa_r (xa_i xa_0)) rfl rfl) (r_d0 hd rfl) (a_X12_checkPack p0 (r_d1 hd rfl) rp0 w t0 (fun w => ?_) (fun x y ty uy w => r_finx rfl rfl (kE x y ty (HX_trans (HX_refl h) uy) w)))
  refine r_fV (pc1 := 5) rfl ?_
  refine r_aldn (pc1 := 6) rfl rfl rfl ?_
  refine r_gfC (pc1 := 9) (q := 8) rfl rfl rfl t0 (lyk t0 rfl) rfl rfl (lyR t0 rfl rfl) ?_
  refine r_gfC (pc1 := 12) (q := 9) rfl rfl rfl t0 (lyk t0 rfl) rfl rfl (lyR t0 rfl rfl) ?_
  refine r_n (pc1 := 13) [.int (J p0), rv 9] _ rfl rfl ?_
  refine r_n (pc1 := 14) [.int (J p1), .int (J p0), rv 9] _ rfl rfl ?_
  refine r_iv rfl rfl rfl rfl rfl rfl t0 (lyk t0 rfl) rfl (xe_of (xa_r (xa_i (xa_i xa_0))) rfl rfl) (r_d0 hd rfl) (a_X8_idOf p0 p1 (r_d1 hd rfl) rp0 rp1 w t0 (fun x1 rx1 w => ?_))
  refine r_fI (pc1 := 17) rfl ?_
  have w := w rx1
  refine r_istn (pc1 := 18) (ls1 := [some (rv 2), some (.int (J p0)), some (.int (J p1)), some (.int (J x1))]) rfl rfl rfl rfl ?_
  refine r_n (pc1 := 19) [.int (J x1)] _ rfl rfl ?_
  refine r_n (pc1 := 20) [.int (J (-1)), .int (J x1)] _ rfl rfl ?_
  refine r_ic (t := 34) (pc1 := 23) rfl rfl rfl rx1 (rgk rfl) (fun c2 => ?_) (fun c2 => ?_)
  · have w := w.1 c2
    refine r_n (pc1 := 35) [.int (J x1)] _ rfl rfl ?_
    exact r_retI rfl rfl rfl (k _ rx1 w)
  · have w := w.2 c2
    exact r_thr rfl rfl rfl rfl rfl rfl (kE _ _ (HT_nT t0).1 (HX_trans (HX_refl h) (HT_nT t0).2) w)
def w_X12_has (p0 : BitVec 64) (p1 : Int) (K : Int → Prop) (h : XH) : Prop :=
  (∃ J2 : Int → Prop, (∀ (x1 : Int), rg x1 → J2 x1 → ((x1 = 0 ∨ x1 = 1) ∧ K x1)) ∧ (((lshr p0 p1) &&& (1#64) = (0#64) → (J2 0)) ∧ (¬ ((lshr p0 p1) &&& (1#64) = (0#64)) → (J2 1))))
set_option maxHeartbeats 4000000 in
theorem a_X12_has {sc : Nat × (Nat → Int32)} {goal : XO → XH → Prop} {fs : List XF} {h : XH} (p0 : BitVec 64) (p1 : Int) {K : Int → Prop} (hd : fs.length + 0 ≤ 1000) (rp1 : rg p1) (w : w_X12_has p0 p1 K h) (t0 : HT h) (k : ∀ (r : Int), rg r → (r = 0 ∨ r = 1) → K r → XFin xP sc goal fs (.inl (some (.int (J r)))) h) : RR sc goal fs 110 0 [some (.long (G p0)), none, some (.int (J p1))] [] h := by
  unfold w_X12_has at w
  refine r_n (pc1 := 1) [.long (G p0)] _ rfl rfl ?_
  refine r_n (pc1 := 2) [.int (J p1), .long (G p0)] _ rfl rfl ?_
  refine r_lshr (pc1 := 3) rfl rfl ?_
  refine r_n (pc1 := 4) [.long (G (1#64)), .long (G (lshr p0 p1))] _ rfl rfl ?_
  refine r_land (pc1 := 5) rfl rfl ?_
  refine r_n (pc1 := 6) [.long (G (0#64)), .long (G ((lshr p0 p1) &&& (1#64)))] _ rfl rfl ?_
  obtain ⟨J2, j2, w⟩ := w
  have Q2 : ∀ (x1 : Int), rg x1 → J2 x1 → RR sc goal fs 110 15 [some (.long (G p0)), none, some (.int (J p1))] [.int (J x1)] h := by
    intro x1 rx1 z2
    have w := j2 x1 rx1 z2
    obtain ⟨c3, w⟩ := w
    exact r_retB rfl rfl rfl c3 (k _ rx1 c3 w)
  refine r_lc (pc2 := 7) (t := 14) (pc1 := 10) rfl rfl rfl rfl rfl (fun c4 => ?_) (fun c4 => ?_)
  · have w := w.1 c4
    refine r_n (pc1 := 15) [.int (J 0)] _ rfl rfl ?_
    exact Q2  0  (rgk rfl) w
  · have w := w.2 c4
    refine r_n (pc1 := 11) [.int (J 1)] _ rfl rfl ?_
    refine r_goto (t := 15) rfl rfl ?_
    exact Q2  1  (rgk rfl) w
def w_X11_isInUse (p0 : Int) (K : Int → Prop) (h : XH) : Prop :=
  (w_X12_has (((hL h 27 6) ||| (hL h 31 6)) ||| (hL h 35 6)) p0 (fun x1 => rg x1 → (x1 = 0 ∨ x1 = 1) → (K x1)) h)
set_option maxHeartbeats 4000000 in
theorem a_X11_isInUse {sc : Nat × (Nat → Int32)} {goal : XO → XH → Prop} {fs : List XF} {h : XH} (p0 : Int) {K : Int → Prop} (hd : fs.length + 1 ≤ 1000) (rp0 : rg p0) (w : w_X11_isInUse p0 K h) (t0 : HT h) (k : ∀ (r : Int), rg r → (r = 0 ∨ r = 1) → K r → XFin xP sc goal fs (.inl (some (.int (J r)))) h) : RR sc goal fs 79 0 [some (rv 8), some (.int (J p0))] [] h := by
  unfold w_X11_isInUse at w
  refine r_aldn (pc1 := 1) rfl rfl rfl ?_
  refine r_gfC (pc1 := 4) (q := 27) rfl rfl rfl t0 (lyk t0 rfl) rfl rfl (lyR t0 rfl rfl) ?_
  refine r_gfL (pc1 := 7) rfl rfl rfl t0 (lyk t0 rfl) rfl rfl ?_
  refine r_aldn (pc1 := 8) rfl rfl rfl ?_
  refine r_gfC (pc1 := 11) (q := 31) rfl rfl rfl t0 (lyk t0 rfl) rfl rfl (lyR t0 rfl rfl) ?_
  refine r_gfL (pc1 := 14) rfl rfl rfl t0 (lyk t0 rfl) rfl rfl ?_
  refine r_lor (pc1 := 15) rfl rfl ?_
  refine r_aldn (pc1 := 16) rfl rfl rfl ?_
  refine r_gfC (pc1 := 19) (q := 35) rfl rfl rfl t0 (lyk t0 rfl) rfl rfl (lyR t0 rfl rfl) ?_
  refine r_gfL (pc1 := 22) rfl rfl rfl t0 (lyk t0 rfl) rfl rfl ?_
  refine r_lor (pc1 := 23) rfl rfl ?_
  refine r_n (pc1 := 24) [.int (J p0), .long (G (((hL h 27 6) ||| (hL h 31 6)) ||| (hL h 35 6)))] _ rfl rfl ?_
  refine r_iq rfl rfl rfl rfl rfl rfl (xe_of (xa_l (xa_i xa_0)) rfl rfl) (r_d0 hd rfl) (a_X12_has (((hL h 27 6) ||| (hL h 31 6)) ||| (hL h 35 6)) p0 (r_d1 hd rfl) rp0 w t0 (fun x1 rx1 vx1 w => ?_))
  refine r_fI (pc1 := 27) rfl ?_
  have w := w rx1 vx1
  exact r_retB rfl rfl rfl vx1 (k _ rx1 vx1 w)
def w_X5_byteAt (p0 : Int) (K : Int → Prop) (h : XH) : Prop :=
  (∃ J2 : Int → Prop, (∀ (x1 : Int), rg x1 → J2 x1 → (K x1)) ∧ ∃ J3 : Prop, (J3 → (J2 0)) ∧ ((p0 < 0 → J3) ∧ (¬ (p0 < 0) → (((hI h 3 1 ≤ p0 → J3) ∧ (¬ (hI h 3 1 ≤ p0) → (((200 ≤ p0 → J3) ∧ (¬ (200 ≤ p0) → ((0 ≤ p0 ∧ p0 < 200) ∧ J2 (hI h 4 p0.toNat)))))))))))
set_option maxHeartbeats 4000000 in
theorem a_X5_byteAt {sc : Nat × (Nat → Int32)} {goal : XO → XH → Prop} {fs : List XF} {h : XH} (p0 : Int) {K : Int → Prop} (hd : fs.length + 0 ≤ 1000) (rp0 : rg p0) (w : w_X5_byteAt p0 K h) (t0 : HT h) (k : ∀ (r : Int), rg r → K r → XFin xP sc goal fs (.inl (some (.int (J r)))) h) : RR sc goal fs 391 0 [some (rv 3), some (.int (J p0))] [] h := by
  unfold w_X5_byteAt at w
  refine r_n (pc1 := 1) [.int (J p0)] _ rfl rfl ?_
  obtain ⟨J2, j2, w⟩ := w
  have Q2 : ∀ (x1 : Int), rg x1 → J2 x1 → RR sc goal fs 391 29 [some (rv 3), some (.int (J p0))] [.int (J x1)] h := by
    intro x1 rx1 z2
    have w := j2 x1 rx1 z2
    exact r_retI rfl rfl rfl (k _ rx1 w)
  obtain ⟨J3, j3, w⟩ := w
  have Q3 : J3 → RR sc goal fs 391 28 [some (rv 3), some (.int (J p0))] [] h := by
    intro z3
    have w := j3 z3
    refine r_n (pc1 := 29) [.int (J 0)] _ rfl rfl ?_
    exact Q2  0  (rgk rfl) w
  refine r_iz (t := 28) (pc1 := 4) rfl rfl rfl rp0 (fun c7 => ?_) (fun c7 => ?_)
  · have w := w.1 c7
    exact Q3     w
  · have w := w.2 c7
    refine r_n (pc1 := 5) [.int (J p0)] _ rfl rfl ?_
    refine r_aldn (pc1 := 6) rfl rfl rfl ?_
    refine r_gfI (pc1 := 9) rfl rfl rfl t0 (lyk t0 rfl) rfl rfl ?_
    refine r_ic (t := 28) (pc1 := 12) rfl rfl rfl rp0 (rgh _ _ _) (fun c6 => ?_) (fun c6 => ?_)
    · have w := w.1 c6
      exact Q3     w
    · have w := w.2 c6
      refine r_n (pc1 := 13) [.int (J p0)] _ rfl rfl ?_
      refine r_n (pc1 := 16) [.int (J 200), .int (J p0)] _ rfl rfl ?_
      refine r_ic (t := 28) (pc1 := 19) rfl rfl rfl rp0 (rgk rfl) (fun c5 => ?_) (fun c5 => ?_)
      · have w := w.1 c5
        exact Q3     w
      · have w := w.2 c5
        refine r_aldn (pc1 := 20) rfl rfl rfl ?_
        refine r_gfC (pc1 := 23) (q := 4) rfl rfl rfl t0 (lyk t0 rfl) rfl rfl (lyR t0 rfl rfl) ?_
        refine r_n (pc1 := 24) [.int (J p0), rv 4] _ rfl rfl ?_
        obtain ⟨c4, w⟩ := w
        refine r_ial (pc1 := 25) rfl rfl t0 (lyk t0 rfl) rp0 c4.1 (lt_len (lyn t0 rfl) c4.2) ?_
        refine r_goto (t := 29) rfl rfl ?_
        exact Q2  (hI h 4 p0.toNat)  (rgh _ _ _) w
def w_X5_isDigit (p0 : Int) (K : Int → Prop) (h : XH) : Prop :=
  (∃ J2 : Int → Prop, (∀ (x1 : Int), rg x1 → J2 x1 → ((x1 = 0 ∨ x1 = 1) ∧ K x1)) ∧ ∃ J4 : Prop, (J4 → (J2 0)) ∧ ((p0 < 48 → J4) ∧ (¬ (p0 < 48) → (((57 < p0 → J4) ∧ (¬ (57 < p0) → (J2 1)))))))
set_option maxHeartbeats 4000000 in
theorem a_X5_isDigit {sc : Nat × (Nat → Int32)} {goal : XO → XH → Prop} {fs : List XF} {h : XH} (p0 : Int) {K : Int → Prop} (hd : fs.length + 0 ≤ 1000) (rp0 : rg p0) (w : w_X5_isDigit p0 K h) (t0 : HT h) (k : ∀ (r : Int), rg r → (r = 0 ∨ r = 1) → K r → XFin xP sc goal fs (.inl (some (.int (J r)))) h) : RR sc goal fs 399 0 [some (.int (J p0))] [] h := by
  unfold w_X5_isDigit at w
  refine r_n (pc1 := 1) [.int (J p0)] _ rfl rfl ?_
  refine r_n (pc1 := 3) [.int (J 48), .int (J p0)] _ rfl rfl ?_
  obtain ⟨J2, j2, w⟩ := w
  have Q2 : ∀ (x1 : Int), rg x1 → J2 x1 → RR sc goal fs 399 17 [some (.int (J p0))] [.int (J x1)] h := by
    intro x1 rx1 z2
    have w := j2 x1 rx1 z2
    obtain ⟨c3, w⟩ := w
    exact r_retB rfl rfl rfl c3 (k _ rx1 c3 w)
  obtain ⟨J4, j4, w⟩ := w
  have Q4 : J4 → RR sc goal fs 399 16 [some (.int (J p0))] [] h := by
    intro z4
    have w := j4 z4
    refine r_n (pc1 := 17) [.int (J 0)] _ rfl rfl ?_
    exact Q2  0  (rgk rfl) w
  refine r_ic (t := 16) (pc1 := 6) rfl rfl rfl rp0 (rgk rfl) (fun c6 => ?_) (fun c6 => ?_)
  · have w := w.1 c6
    exact Q4     w
  · have w := w.2 c6
    refine r_n (pc1 := 7) [.int (J p0)] _ rfl rfl ?_
    refine r_n (pc1 := 9) [.int (J 57), .int (J p0)] _ rfl rfl ?_
    refine r_ic (t := 16) (pc1 := 12) rfl rfl rfl rp0 (rgk rfl) (fun c5 => ?_) (fun c5 => ?_)
    · have w := w.1 c5
      exact Q4     w
    · have w := w.2 c5
      refine r_n (pc1 := 13) [.int (J 1)] _ rfl rfl ?_
      refine r_goto (t := 17) rfl rfl ?_
      exact Q2  1  (rgk rfl) w
def w_X5_digitsFrom (p0 : Int) (K : Int → Prop) (h : XH) : Prop :=
  ((∃ (I4 : Int → Int → Prop) (m4 : Int → Int → Nat), I4 0 p0 ∧ ∀ (x2 : Int) (x3 : Int), rg x2 → rg x3 → I4 x2 x3 → (∃ J5 : Prop, (J5 → (K x2)) ∧ ((hI h 3 1 ≤ x3 → J5) ∧ (¬ (hI h 3 1 ≤ x3) → (w_X5_byteAt x3 (fun x6 => rg x6 → (w_X5_isDigit x6 (fun x7 => rg x7 → (x7 = 0 ∨ x7 = 1) → (((x7 = 0 → J5) ∧ (¬ (x7 = 0) → (∀ x8 : Int, x8 = wr (x2 + 1) → rg x8 → ∀ x9 : Int, x9 = wr (x3 + 1) → rg x9 → (I4 x8 x9 ∧ m4 x8 x9 < m4 x2 x3)))))) h)) h))))))
set_option maxHeartbeats 4000000 in
theorem a_X5_digitsFrom {sc : Nat × (Nat → Int32)} {goal : XO → XH → Prop} {fs : List XF} {h : XH} (p0 : Int) {K : Int → Prop} (hd : fs.length + 1 ≤ 1000) (rp0 : rg p0) (w : w_X5_digitsFrom p0 K h) (t0 : HT h) (k : ∀ (r : Int), rg r → K r → XFin xP sc goal fs (.inl (some (.int (J r)))) h) : RR sc goal fs 393 0 [some (rv 3), some (.int (J p0)), none, none] [] h := by
  unfold w_X5_digitsFrom at w
  refine r_n (pc1 := 1) [.int (J 0)] _ rfl rfl ?_
  refine r_istn (pc1 := 2) (ls1 := [some (rv 3), some (.int (J p0)), some (.int (J 0)), none]) rfl rfl rfl rfl ?_
  refine r_n (pc1 := 3) [.int (J p0)] _ rfl rfl ?_
  refine r_istn (pc1 := 4) (ls1 := [some (rv 3), some (.int (J p0)), some (.int (J 0)), some (.int (J p0))]) rfl rfl rfl rfl ?_
  obtain ⟨I4, m4, w, y4⟩ := w
  have Q4 : ∀ (n : Nat) (d1 : Option Value) (x2 : Int) (x3 : Int), rg x2 → rg x3 → m4 x2 x3 < n → I4 x2 x3 → RR sc goal fs 393 4 [some (rv 3), d1, some (.int (J x2)), some (.int (J x3))] [] h := by
    intro n
    induction n with
    | zero => intro d1 x2 x3 rx2 rx3 q4 _; exact absurd q4 (Nat.not_lt_zero _)
    | succ n ih4 =>
      intro d1 x2 x3 rx2 rx3 q4 z4
      have w := y4 x2 x3 rx2 rx3 z4
      refine r_n (pc1 := 5) [.int (J x3)] _ rfl rfl ?_
      refine r_aldn (pc1 := 6) rfl rfl rfl ?_
      refine r_gfI (pc1 := 9) rfl rfl rfl t0 (lyk t0 rfl) rfl rfl ?_
      obtain ⟨J5, j5, w⟩ := w
      have Q5 : J5 → RR sc goal fs 393 32 [some (rv 3), d1, some (.int (J x2)), some (.int (J x3))] [] h := by
        intro z5
        have w := j5 z5
        refine r_n (pc1 := 33) [.int (J x2)] _ rfl rfl ?_
        exact r_retI rfl rfl rfl (k _ rx2 w)
      refine r_ic (t := 32) (pc1 := 12) rfl rfl rfl rx3 (rgh _ _ _) (fun c11 => ?_) (fun c11 => ?_)
      · have w := w.1 c11
        exact Q5     w
      · have w := w.2 c11
        refine r_aldn (pc1 := 13) rfl rfl rfl ?_
        refine r_n (pc1 := 14) [.int (J x3), rv 3] _ rfl rfl ?_
        refine r_iv rfl rfl rfl rfl rfl rfl t0 (lyk t0 rfl) rfl (xe_of (xa_r (xa_i xa_0)) rfl rfl) (r_d0 hd rfl) (a_X5_byteAt x3 (r_d1 hd rfl) rx3 w t0 (fun x6 rx6 w => ?_))
        refine r_fI (pc1 := 17) rfl ?_
        have w := w rx6
        refine r_iq rfl rfl rfl rfl rfl rfl (xe_of (xa_i xa_0) rfl rfl) (r_d0 hd rfl) (a_X5_isDigit x6 (r_d1 hd rfl) rx6 w t0 (fun x7 rx7 vx7 w => ?_))
        refine r_fI (pc1 := 20) rfl ?_
        have w := w rx7 vx7
        refine r_iz (t := 32) (pc1 := 23) rfl rfl rfl rx7 (fun c10 => ?_) (fun c10 => ?_)
        · have w := w.1 c10
          exact Q5     w
        · have w := w.2 c10
          refine r_inc (pc1 := 26) (g := fun zz => [some (rv 3), (dcl d1), some (.int (J zz)), some (.int (J x3))]) rfl rfl rfl rfl (fun _ => xput1_d rfl rfl) (fun x8 ex8 rx8 => ?_)
          have w := w x8 ex8 rx8
          refine r_inc (pc1 := 29) (g := fun zz => [some (rv 3), (dcl d1), some (.int (J x8)), some (.int (J zz))]) rfl rfl rfl rfl (fun _ => rfl) (fun x9 ex9 rx9 => ?_)
          have w := w x9 ex9 rx9
          refine r_goto (t := 4) rfl rfl ?_
          exact ih4 _ x8 x9  rx8 rx9 (Nat.lt_of_lt_of_le w.2 (Nat.le_of_lt_succ q4)) w.1
  exact Q4 _ _ 0 p0  (rgk rfl) rp0 (Nat.lt_succ_self _) w
def w_X5_addToken (p0 : Int) (p1 : Int) (p2 : Int) (K : XH → Prop) (h : XH) : Prop :=
  (∃ J2 : XH → Prop, (∀ (h1 : XH), HT h1 → HX h h1 → J2 h1 → (K h1)) ∧ ((200 < hI h 3 6 → J2 h) ∧ (¬ (200 < hI h 3 6) → ((0 ≤ hI h 3 6 ∧ hI h 3 6 < 201) ∧ ∀ h4 : XH, h4 = sI h 5 (hI h 3 6).toNat p0 → HT h4 → HX h h4 → (0 ≤ hI h4 3 6 ∧ hI h4 3 6 < 201) ∧ ∀ h6 : XH, h6 = sI h4 6 (hI h4 3 6).toNat p1 → HT h6 → HX h4 h6 → (0 ≤ hI h6 3 6 ∧ hI h6 3 6 < 201) ∧ ∀ h8 : XH, h8 = sI h6 7 (hI h6 3 6).toNat p2 → HT h8 → HX h6 h8 → ∀ h9 : XH, h9 = sI h8 3 6 (wr ((hI h8 3 6) + 1)) → HT h9 → HX h8 h9 → J2 h9))))
set_option maxHeartbeats 4000000 in
theorem a_X5_addToken {sc : Nat × (Nat → Int32)} {goal : XO → XH → Prop} {fs : List XF} {h : XH} (p0 : Int) (p1 : Int) (p2 : Int) {K : XH → Prop} (hd : fs.length + 0 ≤ 1000) (rp0 : rg p0) (rp1 : rg p1) (rp2 : rg p2) (w : w_X5_addToken p0 p1 p2 K h) (t0 : HT h) (k : ∀ (h1 : XH), HT h1 → HX h h1 → K h1 → XFin xP sc goal fs (.inl none) h1) : RR sc goal fs 390 0 [some (rv 3), some (.int (J p0)), some (.int (J p1)), some (.int (J p2))] [] h := by
  unfold w_X5_addToken at w
  refine r_aldn (pc1 := 1) rfl rfl rfl ?_
  refine r_gfI (pc1 := 4) rfl rfl rfl t0 (lyk t0 rfl) rfl rfl ?_
  refine r_n (pc1 := 7) [.int (J 200), .int (J (hI h 3 6))] _ rfl rfl ?_
  obtain ⟨J2, j2, w⟩ := w
  have Q2 : ∀ (h1 : XH), HT h1 → HX h h1 → J2 h1 → RR sc goal fs 390 50 [some (rv 3), some (.int (J p0)), some (.int (J p1)), some (.int (J p2))] [] h1 := by
    intro h1 t1 s1 z2
    have w := j2 h1 t1 s1 z2
    exact r_retV rfl rfl rfl (k _ t1 s1 w)
  refine r_ic (t := 50) (pc1 := 10) rfl rfl rfl (rgh _ _ _) (rgk rfl) (fun c10 => ?_) (fun c10 => ?_)
  · have w := w.1 c10
    exact Q2   h t0 (HX_refl h)  w
  · have w := w.2 c10
    refine r_aldn (pc1 := 11) rfl rfl rfl ?_
    refine r_gfC (pc1 := 14) (q := 5) rfl rfl rfl t0 (lyk t0 rfl) rfl rfl (lyR t0 rfl rfl) ?_
    refine r_aldn (pc1 := 15) rfl rfl rfl ?_
    refine r_gfI (pc1 := 18) rfl rfl rfl t0 (lyk t0 rfl) rfl rfl ?_
    refine r_n (pc1 := 19) [.int (J p0), .int (J (hI h 3 6)), rv 5] _ rfl rfl ?_
    obtain ⟨c3, w⟩ := w
    refine r_iast (pc1 := 20) rfl rfl t0 (lyk t0 rfl) (rgh _ _ _) c3.1 (lt_len (lyn t0 rfl) c3.2) (fun h4 eh4 t4 u4 => ?_)
    have w := w h4 eh4 t4 u4
    have s4 := HX_trans (HX_refl h) u4
    refine r_aldn (pc1 := 21) rfl rfl rfl ?_
    refine r_gfC (pc1 := 24) (q := 6) rfl rfl rfl t4 (lyk t4 rfl) rfl rfl (lyR t4 rfl rfl) ?_
    refine r_aldn (pc1 := 25) rfl rfl rfl ?_
    refine r_gfI (pc1 := 28) rfl rfl rfl t4 (lyk t4 rfl) rfl rfl ?_
    refine r_n (pc1 := 29) [.int (J p1), .int (J (hI h4 3 6)), rv 6] _ rfl rfl ?_
    obtain ⟨c5, w⟩ := w
    refine r_iast (pc1 := 30) rfl rfl t4 (lyk t4 rfl) (rgh _ _ _) c5.1 (lt_len (lyn t4 rfl) c5.2) (fun h6 eh6 t6 u6 => ?_)
    have w := w h6 eh6 t6 u6
    have s6 := HX_trans s4 u6
    refine r_aldn (pc1 := 31) rfl rfl rfl ?_
    refine r_gfC (pc1 := 34) (q := 7) rfl rfl rfl t6 (lyk t6 rfl) rfl rfl (lyR t6 rfl rfl) ?_
    refine r_aldn (pc1 := 35) rfl rfl rfl ?_
    refine r_gfI (pc1 := 38) rfl rfl rfl t6 (lyk t6 rfl) rfl rfl ?_
    refine r_n (pc1 := 39) [.int (J p2), .int (J (hI h6 3 6)), rv 7] _ rfl rfl ?_
    obtain ⟨c7, w⟩ := w
    refine r_iast (pc1 := 40) rfl rfl t6 (lyk t6 rfl) (rgh _ _ _) c7.1 (lt_len (lyn t6 rfl) c7.2) (fun h8 eh8 t8 u8 => ?_)
    have w := w h8 eh8 t8 u8
    have s8 := HX_trans s6 u8
    refine r_aldn (pc1 := 41) rfl rfl rfl ?_
    refine r_dupR (pc1 := 42) rfl rfl ?_
    refine r_gfI (pc1 := 45) rfl rfl rfl t8 (lyk t8 rfl) rfl rfl ?_
    refine r_n (pc1 := 46) [.int (J 1), .int (J (hI h8 3 6)), rv 3] _ rfl rfl ?_
    refine r_iadd (pc1 := 47) rfl rfl ?_
    refine r_pfI (pc1 := 50) rfl rfl rfl t8 (lyk t8 rfl) rfl rfl rfl (fun h9 eh9 t9 u9 => ?_)
    have w := w h9 eh9 t9 u9
    have s9 := HX_trans s8 u9
    exact Q2   h9 t9 s9  w
def w_X5_isSpanSign (p0 : Int) (K : Int → Prop) (h : XH) : Prop :=
  (∃ J2 : Int → Prop, (∀ (x1 : Int), rg x1 → J2 x1 → ((x1 = 0 ∨ x1 = 1) ∧ K x1)) ∧ ∃ J4 : Prop, (J4 → (J2 1)) ∧ ((p0 = 61 → J4) ∧ (¬ (p0 = 61) → (((p0 = 62 → J4) ∧ (¬ (p0 = 62) → (((p0 = 60 → J4) ∧ (¬ (p0 = 60) → (((p0 = 94 → J4) ∧ (¬ (p0 = 94) → (((¬ p0 = 126 → (J2 0)) ∧ (¬ (¬ p0 = 126) → J4)))))))))))))))
set_option maxHeartbeats 4000000 in
theorem a_X5_isSpanSign {sc : Nat × (Nat → Int32)} {goal : XO → XH → Prop} {fs : List XF} {h : XH} (p0 : Int) {K : Int → Prop} (hd : fs.length + 0 ≤ 1000) (rp0 : rg p0) (w : w_X5_isSpanSign p0 K h) (t0 : HT h) (k : ∀ (r : Int), rg r → (r = 0 ∨ r = 1) → K r → XFin xP sc goal fs (.inl (some (.int (J r)))) h) : RR sc goal fs 403 0 [some (.int (J p0))] [] h := by
  unfold w_X5_isSpanSign at w
  refine r_n (pc1 := 1) [.int (J p0)] _ rfl rfl ?_
  refine r_n (pc1 := 3) [.int (J 61), .int (J p0)] _ rfl rfl ?_
  obtain ⟨J2, j2, w⟩ := w
  have Q2 : ∀ (x1 : Int), rg x1 → J2 x1 → RR sc goal fs 403 35 [some (.int (J p0))] [.int (J x1)] h := by
    intro x1 rx1 z2
    have w := j2 x1 rx1 z2
    obtain ⟨c3, w⟩ := w
    exact r_retB rfl rfl rfl c3 (k _ rx1 c3 w)
  obtain ⟨J4, j4, w⟩ := w
  have Q4 : J4 → RR sc goal fs 403 30 [some (.int (J p0))] [] h := by
    intro z4
    have w := j4 z4
    refine r_n (pc1 := 31) [.int (J 1)] _ rfl rfl ?_
    refine r_goto (t := 35) rfl rfl ?_
    exact Q2  1  (rgk rfl) w
  refine r_ic (t := 30) (pc1 := 6) rfl rfl rfl rp0 (rgk rfl) (fun c9 => ?_) (fun c9 => ?_)
  · have w := w.1 c9
    exact Q4     w
  · have w := w.2 c9
    refine r_n (pc1 := 7) [.int (J p0)] _ rfl rfl ?_
    refine r_n (pc1 := 9) [.int (J 62), .int (J p0)] _ rfl rfl ?_
    refine r_ic (t := 30) (pc1 := 12) rfl rfl rfl rp0 (rgk rfl) (fun c8 => ?_) (fun c8 => ?_)
    · have w := w.1 c8
      exact Q4     w
    · have w := w.2 c8
      refine r_n (pc1 := 13) [.int (J p0)] _ rfl rfl ?_
      refine r_n (pc1 := 15) [.int (J 60), .int (J p0)] _ rfl rfl ?_
      refine r_ic (t := 30) (pc1 := 18) rfl rfl rfl rp0 (rgk rfl) (fun c7 => ?_) (fun c7 => ?_)
      · have w := w.1 c7
        exact Q4     w
      · have w := w.2 c7
        refine r_n (pc1 := 19) [.int (J p0)] _ rfl rfl ?_
        refine r_n (pc1 := 21) [.int (J 94), .int (J p0)] _ rfl rfl ?_
        refine r_ic (t := 30) (pc1 := 24) rfl rfl rfl rp0 (rgk rfl) (fun c6 => ?_) (fun c6 => ?_)
        · have w := w.1 c6
          exact Q4     w
        · have w := w.2 c6
          refine r_n (pc1 := 25) [.int (J p0)] _ rfl rfl ?_
          refine r_n (pc1 := 27) [.int (J 126), .int (J p0)] _ rfl rfl ?_
          refine r_ic (t := 34) (pc1 := 30) rfl rfl rfl rp0 (rgk rfl) (fun c5 => ?_) (fun c5 => ?_)
          · have w := w.1 c5
            refine r_n (pc1 := 35) [.int (J 0)] _ rfl rfl ?_
            exact Q2  0  (rgk rfl) w
          · have w := w.2 c5
            exact Q4     w
def w_X5_isSign (p0 : Int) (K : Int → Prop) (h : XH) : Prop :=
  (∃ J2 : Int → Prop, (∀ (x1 : Int), rg x1 → J2 x1 → ((x1 = 0 ∨ x1 = 1) ∧ K x1)) ∧ ∃ J4 : Prop, (J4 → (J2 1)) ∧ ((p0 = 35 → J4) ∧ (¬ (p0 = 35) → (((p0 = 124 → J4) ∧ (¬ (p0 = 124) → (((p0 = 44 → J4) ∧ (¬ (p0 = 44) → (((p0 = 42 → J4) ∧ (¬ (p0 = 42) → (((p0 = 46 → J4) ∧ (¬ (p0 = 46) → (((p0 = 33 → J4) ∧ (¬ (p0 = 33) → (w_X5_isSpanSign p0 (fun x5 => rg x5 → (x5 = 0 ∨ x5 = 1) → (((x5 = 0 → (J2 0)) ∧ (¬ (x5 = 0) → J4)))) h)))))))))))))))))))
set_option maxHeartbeats 4000000 in
theorem a_X5_isSign {sc : Nat × (Nat → Int32)} {goal : XO → XH → Prop} {fs : List XF} {h : XH} (p0 : Int) {K : Int → Prop} (hd : fs.length + 1 ≤ 1000) (rp0 : rg p0) (w : w_X5_isSign p0 K h) (t0 : HT h) (k : ∀ (r : Int), rg r → (r = 0 ∨ r = 1) → K r → XFin xP sc goal fs (.inl (some (.int (J r)))) h) : RR sc goal fs 402 0 [some (.int (J p0))] [] h := by
  unfold w_X5_isSign at w
  refine r_n (pc1 := 1) [.int (J p0)] _ rfl rfl ?_
  refine r_n (pc1 := 3) [.int (J 35), .int (J p0)] _ rfl rfl ?_
  obtain ⟨J2, j2, w⟩ := w
  have Q2 : ∀ (x1 : Int), rg x1 → J2 x1 → RR sc goal fs 402 48 [some (.int (J p0))] [.int (J x1)] h := by
    intro x1 rx1 z2
    have w := j2 x1 rx1 z2
    obtain ⟨c3, w⟩ := w
    exact r_retB rfl rfl rfl c3 (k _ rx1 c3 w)
  obtain ⟨J4, j4, w⟩ := w
  have Q4 : J4 → RR sc goal fs 402 43 [some (.int (J p0))] [] h := by
    intro z4
    have w := j4 z4
    refine r_n (pc1 := 44) [.int (J 1)] _ rfl rfl ?_
    refine r_goto (t := 48) rfl rfl ?_
    exact Q2  1  (rgk rfl) w
  refine r_ic (t := 43) (pc1 := 6) rfl rfl rfl rp0 (rgk rfl) (fun c12 => ?_) (fun c12 => ?_)
  · have w := w.1 c12
    exact Q4     w
  · have w := w.2 c12
    refine r_n (pc1 := 7) [.int (J p0)] _ rfl rfl ?_
    refine r_n (pc1 := 9) [.int (J 124), .int (J p0)] _ rfl rfl ?_
    refine r_ic (t := 43) (pc1 := 12) rfl rfl rfl rp0 (rgk rfl) (fun c11 => ?_) (fun c11 => ?_)
    · have w := w.1 c11
      exact Q4     w
    · have w := w.2 c11
      refine r_n (pc1 := 13) [.int (J p0)] _ rfl rfl ?_
      refine r_n (pc1 := 15) [.int (J 44), .int (J p0)] _ rfl rfl ?_
      refine r_ic (t := 43) (pc1 := 18) rfl rfl rfl rp0 (rgk rfl) (fun c10 => ?_) (fun c10 => ?_)
      · have w := w.1 c10
        exact Q4     w
      · have w := w.2 c10
        refine r_n (pc1 := 19) [.int (J p0)] _ rfl rfl ?_
        refine r_n (pc1 := 21) [.int (J 42), .int (J p0)] _ rfl rfl ?_
        refine r_ic (t := 43) (pc1 := 24) rfl rfl rfl rp0 (rgk rfl) (fun c9 => ?_) (fun c9 => ?_)
        · have w := w.1 c9
          exact Q4     w
        · have w := w.2 c9
          refine r_n (pc1 := 25) [.int (J p0)] _ rfl rfl ?_
          refine r_n (pc1 := 27) [.int (J 46), .int (J p0)] _ rfl rfl ?_
          refine r_ic (t := 43) (pc1 := 30) rfl rfl rfl rp0 (rgk rfl) (fun c8 => ?_) (fun c8 => ?_)
          · have w := w.1 c8
            exact Q4     w
          · have w := w.2 c8
            refine r_n (pc1 := 31) [.int (J p0)] _ rfl rfl ?_
            refine r_n (pc1 := 33) [.int (J 33), .int (J p0)] _ rfl rfl ?_
            refine r_ic (t := 43) (pc1 := 36) rfl rfl rfl rp0 (rgk rfl) (fun c7 => ?_) (fun c7 => ?_)
            · have w := w.1 c7
              exact Q4     w
            · have w := w.2 c7
              refine r_n (pc1 := 37) [.int (J p0)] _ rfl rfl ?_
              refine r_iq rfl rfl rfl rfl rfl rfl (xe_of (xa_i xa_0) rfl rfl) (r_d0 hd rfl) (a_X5_isSpanSign p0 (r_d1 hd rfl) rp0 w t0 (fun x5 rx5 vx5 w => ?_))
              refine r_fI (pc1 := 40) rfl ?_
              have w := w rx5 vx5
              refine r_iz (t := 47) (pc1 := 43) rfl rfl rfl rx5 (fun c6 => ?_) (fun c6 => ?_)
              · have w := w.1 c6
                refine r_n (pc1 := 48) [.int (J 0)] _ rfl rfl ?_
                exact Q2  0  (rgk rfl) w
              · have w := w.2 c6
                exact Q4     w
def w_X5_addNextToken (p0 : Int) (p1 : Int) (K : Int → XH → Prop) (h : XH) : Prop :=
  (w_X5_byteAt p0 (fun x1 => rg x1 → (∃ J2 : Prop, (J2 → (K (wr (p0 + 1)) h)) ∧ ((x1 = 32 → J2) ∧ (¬ (x1 = 32) → (((¬ x1 = 10 → (w_X5_isDigit x1 (fun x3 => rg x3 → (x3 = 0 ∨ x3 = 1) → (((x3 = 0 → (∃ J4 : Prop, (J4 → (∃ J5 : Prop, (J5 → (w_X5_isSign x1 (fun x6 => rg x6 → (x6 = 0 ∨ x6 = 1) → (∃ J8 : Int → Prop, (∀ (x7 : Int), rg x7 → J8 x7 → (w_X5_addToken x7 p0 0 (fun h9 => HT h9 → HX h h9 → (K (wr (p0 + 1)) h9)) h)) ∧ ((x6 = 0 → (J8 1)) ∧ (¬ (x6 = 0) → (J8 x1))))) h)) ∧ ((x1 < 97 → J5) ∧ (¬ (x1 < 97) → (((108 < x1 → J5) ∧ (¬ (108 < x1) → (∃ J12 : Int → Prop, (∀ (x11 : Int), rg x11 → J12 x11 → (w_X5_addToken x11 p0 (wr (x1 - 97)) (fun h13 => HT h13 → HX h h13 → (K (wr (p0 + 1)) h13)) h)) ∧ ((p1 ≤ wr (x1 - 97) → (J12 1)) ∧ (¬ (p1 ≤ wr (x1 - 97)) → (J12 2))))))))))) ∧ ((¬ x1 = 46 → J4) ∧ (¬ (¬ x1 = 46) → (w_X5_byteAt (wr (p0 + 1)) (fun x17 => rg x17 → (((¬ x17 = 46 → J4) ∧ (¬ (¬ x17 = 46) → (w_X5_addToken 4 p0 0 (fun h18 => HT h18 → HX h h18 → (K (wr (p0 + 2)) h18)) h))))) h))))) ∧ (¬ (x3 = 0) → (w_X5_digitsFrom p0 (fun x21 => rg x21 → (∃ J23 : Int → Prop, (∀ (x22 : Int), rg x22 → J23 x22 → (∃ J25 : Int → Prop, (∀ (x24 : Int), rg x24 → J25 x24 → (w_X5_addToken x24 p0 x22 (fun h26 => HT h26 → HX h h26 → (K (wr (p0 + x21)) h26)) h)) ∧ ((2 < x21 → (J25 1)) ∧ (¬ (2 < x21) → (J25 3))))) ∧ ((¬ x21 = 2 → (J23 (wr (x1 - 48)))) ∧ (¬ (¬ x21 = 2) → (w_X5_byteAt (wr (p0 + 1)) (fun x28 => rg x28 → (J23 (wr ((wr ((wr (10 * (wr (x1 - 48)))) + x28)) - 48)))) h))))) h))))) h)) ∧ (¬ (¬ x1 = 10) → J2))))))) h)
set_option maxHeartbeats 4000000 in
theorem a_X5_addNextToken {sc : Nat × (Nat → Int32)} {goal : XO → XH → Prop} {fs : List XF} {h : XH} (p0 : Int) (p1 : Int) {K : Int → XH → Prop} (hd : fs.length + 2 ≤ 1000) (rp0 : rg p0) (rp1 : rg p1) (w : w_X5_addNextToken p0 p1 K h) (t0 : HT h) (k : ∀ (r : Int) (h1 : XH), HT h1 → HX h h1 → rg r → K r h1 → XFin xP sc goal fs (.inl (some (.int (J r)))) h1) : RR sc goal fs 389 0 [some (rv 3), some (.int (J p0)), some (.int (J p1)), none, none, none] [] h := by
  unfold w_X5_addNextToken at w
  refine r_aldn (pc1 := 1) rfl rfl rfl ?_
  refine r_n (pc1 := 2) [.int (J p0), rv 3] _ rfl rfl ?_
  refine r_iv rfl rfl rfl rfl rfl rfl t0 (lyk t0 rfl) rfl (xe_of (xa_r (xa_i xa_0)) rfl rfl) (r_d0 hd rfl) (a_X5_byteAt p0 (r_d1 hd rfl) rp0 w t0 (fun x1 rx1 w => ?_))
  refine r_fI (pc1 := 5) rfl ?_
  have w := w rx1
  refine r_istn (pc1 := 6) (ls1 := [some (rv 3), some (.int (J p0)), some (.int (J p1)), some (.int (J x1)), none, none]) rfl rfl rfl rfl ?_
  refine r_n (pc1 := 7) [.int (J x1)] _ rfl rfl ?_
  refine r_n (pc1 := 9) [.int (J 32), .int (J x1)] _ rfl rfl ?_
  obtain ⟨J2, j2, w⟩ := w
  have Q2 : J2 → RR sc goal fs 389 18 [some (rv 3), some (.int (J p0)), some (.int (J p1)), some (.int (J x1)), none, none] [] h := by
    intro z2
    have w := j2 z2
    refine r_n (pc1 := 19) [.int (J p0)] _ rfl rfl ?_
    refine r_n (pc1 := 20) [.int (J 1), .int (J p0)] _ rfl rfl ?_
    refine r_iadd (pc1 := 21) rfl rfl ?_
    exact r_retI rfl rfl rfl (k _ _ t0 (HX_refl h) (rgw _) w)
  refine r_ic (t := 18) (pc1 := 12) rfl rfl rfl rx1 (rgk rfl) (fun c32 => ?_) (fun c32 => ?_)
  · have w := w.1 c32
    exact Q2     w
  · have w := w.2 c32
    refine r_n (pc1 := 13) [.int (J x1)] _ rfl rfl ?_
    refine r_n (pc1 := 15) [.int (J 10), .int (J x1)] _ rfl rfl ?_
    refine r_ic (t := 22) (pc1 := 18) rfl rfl rfl rx1 (rgk rfl) (fun c31 => ?_) (fun c31 => ?_)
    · have w := w.1 c31
      refine r_n (pc1 := 23) [.int (J x1)] _ rfl rfl ?_
      refine r_iq rfl rfl rfl rfl rfl rfl (xe_of (xa_i xa_0) rfl rfl) (r_d0 hd rfl) (a_X5_isDigit x1 (r_d1 hd rfl) rx1 w t0 (fun x3 rx3 vx3 w => ?_))
      refine r_fI (pc1 := 26) rfl ?_
      have w := w rx3 vx3
      refine r_iz (t := 92) (pc1 := 29) rfl rfl rfl rx3 (fun c30 => ?_) (fun c30 => ?_)
      · have w := w.1 c30
        refine r_n (pc1 := 93) [.int (J x1)] _ rfl rfl ?_
        refine r_n (pc1 := 95) [.int (J 46), .int (J x1)] _ rfl rfl ?_
        obtain ⟨J4, j4, w⟩ := w
        have Q4 : J4 → RR sc goal fs 389 121 [some (rv 3), some (.int (J p0)), some (.int (J p1)), some (.int (J x1)), none, none] [] h := by
          intro z4
          have w := j4 z4
          refine r_n (pc1 := 122) [.int (J x1)] _ rfl rfl ?_
          refine r_n (pc1 := 124) [.int (J 97), .int (J x1)] _ rfl rfl ?_
          obtain ⟨J5, j5, w⟩ := w
          have Q5 : J5 → RR sc goal fs 389 159 [some (rv 3), some (.int (J p0)), some (.int (J p1)), some (.int (J x1)), none, none] [] h := by
            intro z5
            have w := j5 z5
            refine r_aldn (pc1 := 160) rfl rfl rfl ?_
            refine r_n (pc1 := 161) [.int (J x1), rv 3] _ rfl rfl ?_
            refine r_iq rfl rfl rfl rfl rfl rfl (xe_of (xa_i xa_0) rfl rfl) (r_d0 hd rfl) (a_X5_isSign x1 (r_d1 hd rfl) rx1 w t0 (fun x6 rx6 vx6 w => ?_))
            refine r_fI (pc1 := 164) rfl ?_
            have w := w rx6 vx6
            obtain ⟨J8, j8, w⟩ := w
            have Q8 : ∀ (x7 : Int), rg x7 → J8 x7 → RR sc goal fs 389 172 [some (rv 3), some (.int (J p0)), some (.int (J p1)), some (.int (J x1)), none, none] [.int (J x7), rv 3] h := by
              intro x7 rx7 z8
              have w := j8 x7 rx7 z8
              refine r_n (pc1 := 173) [.int (J p0), .int (J x7), rv 3] _ rfl rfl ?_
              refine r_n (pc1 := 174) [.int (J 0), .int (J p0), .int (J x7), rv 3] _ rfl rfl ?_
              refine r_iv rfl rfl rfl rfl rfl rfl t0 (lyk t0 rfl) rfl (xe_of (xa_r (xa_i (xa_i (xa_i xa_0)))) rfl rfl) (r_d0 hd rfl) (a_X5_addToken x7 p0 0 (r_d1 hd rfl) rx7 rp0 (rgk rfl) w t0 (fun h9 t9 u9 w => ?_))
              refine r_fV (pc1 := 177) rfl ?_
              have s9 := HX_trans (HX_refl h) u9
              have w := w t9 u9
              refine r_n (pc1 := 178) [.int (J p0)] _ rfl rfl ?_
              refine r_n (pc1 := 179) [.int (J 1), .int (J p0)] _ rfl rfl ?_
              refine r_iadd (pc1 := 180) rfl rfl ?_
              exact r_retI rfl rfl rfl (k _ _ t9 s9 (rgw _) w)
            refine r_iz (t := 171) (pc1 := 167) rfl rfl rfl rx6 (fun c10 => ?_) (fun c10 => ?_)
            · have w := w.1 c10
              refine r_n (pc1 := 172) [.int (J 1), rv 3] _ rfl rfl ?_
              exact Q8  1  (rgk rfl) w
            · have w := w.2 c10
              refine r_n (pc1 := 168) [.int (J x1), rv 3] _ rfl rfl ?_
              refine r_goto (t := 172) rfl rfl ?_
              exact Q8  x1  rx1 w
          refine r_ic (t := 159) (pc1 := 127) rfl rfl rfl rx1 (rgk rfl) (fun c16 => ?_) (fun c16 => ?_)
          · have w := w.1 c16
            exact Q5     w
          · have w := w.2 c16
            refine r_n (pc1 := 128) [.int (J x1)] _ rfl rfl ?_
            refine r_n (pc1 := 130) [.int (J 108), .int (J x1)] _ rfl rfl ?_
            refine r_ic (t := 159) (pc1 := 133) rfl rfl rfl rx1 (rgk rfl) (fun c15 => ?_) (fun c15 => ?_)
            · have w := w.1 c15
              exact Q5     w
            · have w := w.2 c15
              refine r_aldn (pc1 := 134) rfl rfl rfl ?_
              refine r_n (pc1 := 135) [.int (J x1), rv 3] _ rfl rfl ?_
              refine r_n (pc1 := 137) [.int (J 97), .int (J x1), rv 3] _ rfl rfl ?_
              refine r_isub (pc1 := 138) rfl rfl ?_
              refine r_n (pc1 := 139) [.int (J p1), .int (J (wr (x1 - 97))), rv 3] _ rfl rfl ?_
              obtain ⟨J12, j12, w⟩ := w
              have Q12 : ∀ (x11 : Int), rg x11 → J12 x11 → RR sc goal fs 389 147 [some (rv 3), some (.int (J p0)), some (.int (J p1)), some (.int (J x1)), none, none] [.int (J x11), rv 3] h := by
                intro x11 rx11 z12
                have w := j12 x11 rx11 z12
                refine r_n (pc1 := 148) [.int (J p0), .int (J x11), rv 3] _ rfl rfl ?_
                refine r_n (pc1 := 149) [.int (J x1), .int (J p0), .int (J x11), rv 3] _ rfl rfl ?_
                refine r_n (pc1 := 151) [.int (J 97), .int (J x1), .int (J p0), .int (J x11), rv 3] _ rfl rfl ?_
                refine r_isub (pc1 := 152) rfl rfl ?_
                refine r_iv rfl rfl rfl rfl rfl rfl t0 (lyk t0 rfl) rfl (xe_of (xa_r (xa_i (xa_i (xa_i xa_0)))) rfl rfl) (r_d0 hd rfl) (a_X5_addToken x11 p0 (wr (x1 - 97)) (r_d1 hd rfl) rx11 rp0 (rgw _) w t0 (fun h13 t13 u13 w => ?_))
                refine r_fV (pc1 := 155) rfl ?_
                have s13 := HX_trans (HX_refl h) u13
                have w := w t13 u13
                refine r_n (pc1 := 156) [.int (J p0)] _ rfl rfl ?_
                refine r_n (pc1 := 157) [.int (J 1), .int (J p0)] _ rfl rfl ?_
                refine r_iadd (pc1 := 158) rfl rfl ?_
                exact r_retI rfl rfl rfl (k _ _ t13 s13 (rgw _) w)
              refine r_ic (t := 146) (pc1 := 142) rfl rfl rfl (rgw _) rp1 (fun c14 => ?_) (fun c14 => ?_)
              · have w := w.1 c14
                refine r_n (pc1 := 147) [.int (J 1), rv 3] _ rfl rfl ?_
                exact Q12  1  (rgk rfl) w
              · have w := w.2 c14
                refine r_n (pc1 := 143) [.int (J 2), rv 3] _ rfl rfl ?_
                refine r_goto (t := 147) rfl rfl ?_
                exact Q12  2  (rgk rfl) w
        refine r_ic (t := 121) (pc1 := 98) rfl rfl rfl rx1 (rgk rfl) (fun c20 => ?_) (fun c20 => ?_)
        · have w := w.1 c20
          exact Q4     w
        · have w := w.2 c20
          refine r_aldn (pc1 := 99) rfl rfl rfl ?_
          refine r_n (pc1 := 100) [.int (J p0), rv 3] _ rfl rfl ?_
          refine r_n (pc1 := 101) [.int (J 1), .int (J p0), rv 3] _ rfl rfl ?_
          refine r_iadd (pc1 := 102) rfl rfl ?_
          refine r_iv rfl rfl rfl rfl rfl rfl t0 (lyk t0 rfl) rfl (xe_of (xa_r (xa_i xa_0)) rfl rfl) (r_d0 hd rfl) (a_X5_byteAt (wr (p0 + 1)) (r_d1 hd rfl) (rgw _) w t0 (fun x17 rx17 w => ?_))
          refine r_fI (pc1 := 105) rfl ?_
          have w := w rx17
          refine r_n (pc1 := 107) [.int (J 46), .int (J x17)] _ rfl rfl ?_
          refine r_ic (t := 121) (pc1 := 110) rfl rfl rfl rx17 (rgk rfl) (fun c19 => ?_) (fun c19 => ?_)
          · have w := w.1 c19
            exact Q4     w
          · have w := w.2 c19
            refine r_aldn (pc1 := 111) rfl rfl rfl ?_
            refine r_n (pc1 := 112) [.int (J 4), rv 3] _ rfl rfl ?_
            refine r_n (pc1 := 113) [.int (J p0), .int (J 4), rv 3] _ rfl rfl ?_
            refine r_n (pc1 := 114) [.int (J 0), .int (J p0), .int (J 4), rv 3] _ rfl rfl ?_
            refine r_iv rfl rfl rfl rfl rfl rfl t0 (lyk t0 rfl) rfl (xe_of (xa_r (xa_i (xa_i (xa_i xa_0)))) rfl rfl) (r_d0 hd rfl) (a_X5_addToken 4 p0 0 (r_d1 hd rfl) (rgk rfl) rp0 (rgk rfl) w t0 (fun h18 t18 u18 w => ?_))
            refine r_fV (pc1 := 117) rfl ?_
            have s18 := HX_trans (HX_refl h) u18
            have w := w t18 u18
            refine r_n (pc1 := 118) [.int (J p0)] _ rfl rfl ?_
            refine r_n (pc1 := 119) [.int (J 2), .int (J p0)] _ rfl rfl ?_
            refine r_iadd (pc1 := 120) rfl rfl ?_
            exact r_retI rfl rfl rfl (k _ _ t18 s18 (rgw _) w)
      · have w := w.2 c30
        refine r_aldn (pc1 := 30) rfl rfl rfl ?_
        refine r_n (pc1 := 31) [.int (J p0), rv 3] _ rfl rfl ?_
        refine r_iv rfl rfl rfl rfl rfl rfl t0 (lyk t0 rfl) rfl (xe_of (xa_r (xa_i xa_0)) rfl rfl) (r_d0 hd rfl) (a_X5_digitsFrom p0 (r_d1 hd rfl) rp0 w t0 (fun x21 rx21 w => ?_))
        refine r_fI (pc1 := 34) rfl ?_
        have w := w rx21
        refine r_ist (pc1 := 36) (ls1 := [some (rv 3), some (.int (J p0)), some (.int (J p1)), some (.int (J x1)), some (.int (J x21)), none]) rfl rfl rfl rfl ?_
        refine r_n (pc1 := 38) [.int (J x21)] _ rfl rfl ?_
        refine r_n (pc1 := 39) [.int (J 2), .int (J x21)] _ rfl rfl ?_
        obtain ⟨J23, j23, w⟩ := w
        have Q23 : ∀ (x22 : Int), rg x22 → J23 x22 → RR sc goal fs 389 67 [some (rv 3), some (.int (J p0)), some (.int (J p1)), some (.int (J x1)), some (.int (J x21)), none] [.int (J x22)] h := by
          intro x22 rx22 z23
          have w := j23 x22 rx22 z23
          refine r_ist (pc1 := 69) (ls1 := [some (rv 3), some (.int (J p0)), some (.int (J p1)), some (.int (J x1)), some (.int (J x21)), some (.int (J x22))]) rfl rfl rfl rfl ?_
          refine r_aldn (pc1 := 70) rfl rfl rfl ?_
          refine r_n (pc1 := 72) [.int (J x21), rv 3] _ rfl rfl ?_
          refine r_n (pc1 := 73) [.int (J 2), .int (J x21), rv 3] _ rfl rfl ?_
          obtain ⟨J25, j25, w⟩ := w
          have Q25 : ∀ (x24 : Int), rg x24 → J25 x24 → RR sc goal fs 389 81 [some (rv 3), some (.int (J p0)), some (.int (J p1)), some (.int (J x1)), some (.int (J x21)), some (.int (J x22))] [.int (J x24), rv 3] h := by
            intro x24 rx24 z25
            have w := j25 x24 rx24 z25
            refine r_n (pc1 := 82) [.int (J p0), .int (J x24), rv 3] _ rfl rfl ?_
            refine r_n (pc1 := 84) [.int (J x22), .int (J p0), .int (J x24), rv 3] _ rfl rfl ?_
            refine r_iv rfl rfl rfl rfl rfl rfl t0 (lyk t0 rfl) rfl (xe_of (xa_r (xa_i (xa_i (xa_i xa_0)))) rfl rfl) (r_d0 hd rfl) (a_X5_addToken x24 p0 x22 (r_d1 hd rfl) rx24 rp0 rx22 w t0 (fun h26 t26 u26 w => ?_))
            refine r_fV (pc1 := 87) rfl ?_
            have s26 := HX_trans (HX_refl h) u26
            have w := w t26 u26
            refine r_n (pc1 := 88) [.int (J p0)] _ rfl rfl ?_
            refine r_n (pc1 := 90) [.int (J x21), .int (J p0)] _ rfl rfl ?_
            refine r_iadd (pc1 := 91) rfl rfl ?_
            exact r_retI rfl rfl rfl (k _ _ t26 s26 (rgw _) w)
          refine r_ic (t := 80) (pc1 := 76) rfl rfl rfl rx21 (rgk rfl) (fun c27 => ?_) (fun c27 => ?_)
          · have w := w.1 c27
            refine r_n (pc1 := 81) [.int (J 1), rv 3] _ rfl rfl ?_
            exact Q25  1  (rgk rfl) w
          · have w := w.2 c27
            refine r_n (pc1 := 77) [.int (J 3), rv 3] _ rfl rfl ?_
            refine r_goto (t := 81) rfl rfl ?_
            exact Q25  3  (rgk rfl) w
        refine r_ic (t := 63) (pc1 := 42) rfl rfl rfl rx21 (rgk rfl) (fun c29 => ?_) (fun c29 => ?_)
        · have w := w.1 c29
          refine r_n (pc1 := 64) [.int (J x1)] _ rfl rfl ?_
          refine r_n (pc1 := 66) [.int (J 48), .int (J x1)] _ rfl rfl ?_
          refine r_isub (pc1 := 67) rfl rfl ?_
          exact Q23  (wr (x1 - 48))  (rgw _) w
        · have w := w.2 c29
          refine r_n (pc1 := 44) [.int (J 10)] _ rfl rfl ?_
          refine r_n (pc1 := 45) [.int (J x1), .int (J 10)] _ rfl rfl ?_
          refine r_n (pc1 := 47) [.int (J 48), .int (J x1), .int (J 10)] _ rfl rfl ?_
          refine r_isub (pc1 := 48) rfl rfl ?_
          refine r_imul (pc1 := 49) rfl rfl ?_
          refine r_aldn (pc1 := 50) rfl rfl rfl ?_
          refine r_n (pc1 := 51) [.int (J p0), rv 3, .int (J (wr (10 * (wr (x1 - 48)))))] _ rfl rfl ?_
          refine r_n (pc1 := 52) [.int (J 1), .int (J p0), rv 3, .int (J (wr (10 * (wr (x1 - 48)))))] _ rfl rfl ?_
          refine r_iadd (pc1 := 53) rfl rfl ?_
          refine r_iv rfl rfl rfl rfl rfl rfl t0 (lyk t0 rfl) rfl (xe_of (xa_r (xa_i xa_0)) rfl rfl) (r_d0 hd rfl) (a_X5_byteAt (wr (p0 + 1)) (r_d1 hd rfl) (rgw _) w t0 (fun x28 rx28 w => ?_))
          refine r_fI (pc1 := 56) rfl ?_
          have w := w rx28
          refine r_iadd (pc1 := 57) rfl rfl ?_
          refine r_n (pc1 := 59) [.int (J 48), .int (J (wr ((wr (10 * (wr (x1 - 48)))) + x28)))] _ rfl rfl ?_
          refine r_isub (pc1 := 60) rfl rfl ?_
          refine r_goto (t := 67) rfl rfl ?_
          exact Q23  (wr ((wr ((wr (10 * (wr (x1 - 48)))) + x28)) - 48))  (rgw _) w
    · have w := w.2 c31
      exact Q2     w
def w_X5_findTokens (p0 : Int) (K : XH → Prop) (h : XH) : Prop :=
  (∀ h1 : XH, h1 = sI h 3 2 (-1) → HT h1 → HX h h1 → ∀ h2 : XH, h2 = sI h1 3 7 0 → HT h2 → HX h1 h2 → ∀ h3 : XH, h3 = sI h2 3 6 0 → HT h3 → HX h2 h3 → (∃ (I7 : Int → Int → XH → Prop) (m7 : Int → Int → XH → Nat), I7 0 0 h3 ∧ ∀ (x4 : Int) (x5 : Int) (h6 : XH), HT h6 → HX h h6 → rg x4 → rg x5 → I7 x4 x5 h6 → (∃ J8 : Prop, (J8 → (w_X5_addToken 0 (hI h6 3 1) 0 (fun h9 => HT h9 → HX h6 h9 → (K h9)) h6)) ∧ ((200 ≤ x5 → J8) ∧ (¬ (200 ≤ x5) → (((hI h6 3 1 ≤ x4 → J8) ∧ (¬ (hI h6 3 1 ≤ x4) → (w_X5_addNextToken x4 p0 (fun x10 h11 => HT h11 → HX h6 h11 → rg x10 → (∀ x12 : Int, x12 = wr (x5 + 1) → rg x12 → (I7 x10 x12 h11 ∧ m7 x10 x12 h11 < m7 x4 x5 h6))) h6)))))))))
set_option maxHeartbeats 4000000 in
theorem a_X5_findTokens {sc : Nat × (Nat → Int32)} {goal : XO → XH → Prop} {fs : List XF} {h : XH} (p0 : Int) {K : XH → Prop} (hd : fs.length + 3 ≤ 1000) (rp0 : rg p0) (w : w_X5_findTokens p0 K h) (t0 : HT h) (k : ∀ (h1 : XH), HT h1 → HX h h1 → K h1 → XFin xP sc goal fs (.inl none) h1) : RR sc goal fs 396 0 [some (rv 3), some (.int (J p0)), none, none] [] h := by
  unfold w_X5_findTokens at w
  refine r_aldn (pc1 := 1) rfl rfl rfl ?_
  refine r_n (pc1 := 2) [.int (J (-1)), rv 3] _ rfl rfl ?_
  refine r_pfI (pc1 := 5) rfl rfl rfl t0 (lyk t0 rfl) rfl rfl rfl (fun h1 eh1 t1 u1 => ?_)
  have w := w h1 eh1 t1 u1
  have s1 := HX_trans (HX_refl h) u1
  refine r_aldn (pc1 := 6) rfl rfl rfl ?_
  refine r_n (pc1 := 7) [.int (J 0), rv 3] _ rfl rfl ?_
  refine r_pfI (pc1 := 10) rfl rfl rfl t1 (lyk t1 rfl) rfl rfl rfl (fun h2 eh2 t2 u2 => ?_)
  have w := w h2 eh2 t2 u2
  have s2 := HX_trans s1 u2
  refine r_aldn (pc1 := 11) rfl rfl rfl ?_
  refine r_n (pc1 := 12) [.int (J 0), rv 3] _ rfl rfl ?_
  refine r_pfI (pc1 := 15) rfl rfl rfl t2 (lyk t2 rfl) rfl rfl rfl (fun h3 eh3 t3 u3 => ?_)
  have w := w h3 eh3 t3 u3
  have s3 := HX_trans s2 u3
  refine r_n (pc1 := 16) [.int (J 0)] _ rfl rfl ?_
  refine r_istn (pc1 := 17) (ls1 := [some (rv 3), some (.int (J p0)), some (.int (J 0)), none]) rfl rfl rfl rfl ?_
  refine r_n (pc1 := 18) [.int (J 0)] _ rfl rfl ?_
  refine r_istn (pc1 := 19) (ls1 := [some (rv 3), some (.int (J p0)), some (.int (J 0)), some (.int (J 0))]) rfl rfl rfl rfl ?_
  obtain ⟨I7, m7, w, y7⟩ := w
  have Q7 : ∀ (n : Nat)  (x4 : Int) (x5 : Int) (h6 : XH), HT h6 → HX h h6 → rg x4 → rg x5 → m7 x4 x5 h6 < n → I7 x4 x5 h6 → RR sc goal fs 396 19 [some (rv 3), some (.int (J p0)), some (.int (J x4)), some (.int (J x5))] [] h6 := by
    intro n
    induction n with
    | zero => intro x4 x5 h6 t6 s6 rx4 rx5 q7 _; exact absurd q7 (Nat.not_lt_zero _)
    | succ n ih7 =>
      intro x4 x5 h6 t6 s6 rx4 rx5 q7 z7
      have w := y7 x4 x5 h6 t6 s6 rx4 rx5 z7
      refine r_n (pc1 := 20) [.int (J x5)] _ rfl rfl ?_
      refine r_n (pc1 := 23) [.int (J 200), .int (J x5)] _ rfl rfl ?_
      obtain ⟨J8, j8, w⟩ := w
      have Q8 : J8 → RR sc goal fs 396 47 [some (rv 3), some (.int (J p0)), some (.int (J x4)), some (.int (J x5))] [] h6 := by
        intro z8
        have w := j8 z8
        refine r_aldn (pc1 := 48) rfl rfl rfl ?_
        refine r_n (pc1 := 49) [.int (J 0), rv 3] _ rfl rfl ?_
        refine r_aldn (pc1 := 50) rfl rfl rfl ?_
        refine r_gfI (pc1 := 53) rfl rfl rfl t6 (lyk t6 rfl) rfl rfl ?_
        refine r_n (pc1 := 54) [.int (J 0), .int (J (hI h6 3 1)), .int (J 0), rv 3] _ rfl rfl ?_
        refine r_iv rfl rfl rfl rfl rfl rfl t6 (lyk t6 rfl) rfl (xe_of (xa_r (xa_i (xa_i (xa_i xa_0)))) rfl rfl) (r_d0 hd rfl) (a_X5_addToken 0 (hI h6 3 1) 0 (r_d1 hd rfl) (rgk rfl) (rgh _ _ _) (rgk rfl) w t6 (fun h9 t9 u9 w => ?_))
        refine r_fV (pc1 := 57) rfl ?_
        have s9 := HX_trans s6 u9
        have w := w t9 u9
        exact r_retV rfl rfl rfl (k _ t9 s9 w)
      refine r_ic (t := 47) (pc1 := 26) rfl rfl rfl rx5 (rgk rfl) (fun c14 => ?_) (fun c14 => ?_)
      · have w := w.1 c14
        exact Q8     w
      · have w := w.2 c14
        refine r_n (pc1 := 27) [.int (J x4)] _ rfl rfl ?_
        refine r_aldn (pc1 := 28) rfl rfl rfl ?_
        refine r_gfI (pc1 := 31) rfl rfl rfl t6 (lyk t6 rfl) rfl rfl ?_
        refine r_ic (t := 47) (pc1 := 34) rfl rfl rfl rx4 (rgh _ _ _) (fun c13 => ?_) (fun c13 => ?_)
        · have w := w.1 c13
          exact Q8     w
        · have w := w.2 c13
          refine r_aldn (pc1 := 35) rfl rfl rfl ?_
          refine r_n (pc1 := 36) [.int (J x4), rv 3] _ rfl rfl ?_
          refine r_n (pc1 := 37) [.int (J p0), .int (J x4), rv 3] _ rfl rfl ?_
          refine r_iv rfl rfl rfl rfl rfl rfl t6 (lyk t6 rfl) rfl (xe_of (xa_r (xa_i (xa_i xa_0))) rfl rfl) (r_d0 hd rfl) (a_X5_addNextToken x4 p0 (r_d1 hd rfl) rx4 rp0 w t6 (fun x10 h11 t11 u11 rx10 w => ?_))
          refine r_fI (pc1 := 40) rfl ?_
          have s11 := HX_trans s6 u11
          have w := w t11 u11
          have w := w rx10
          refine r_istn (pc1 := 41) (ls1 := [some (rv 3), some (.int (J p0)), some (.int (J x10)), some (.int (J x5))]) rfl rfl rfl rfl ?_
          refine r_inc (pc1 := 44) (g := fun zz => [some (rv 3), some (.int (J p0)), some (.int (J x10)), some (.int (J zz))]) rfl rfl rfl rfl (fun _ => rfl) (fun x12 ex12 rx12 => ?_)
          have w := w x12 ex12 rx12
          refine r_goto (t := 19) rfl rfl ?_
          exact ih7  x10 x12 h11 t11 s11 rx10 rx12 (Nat.lt_of_lt_of_le w.2 (Nat.le_of_lt_succ q7)) w.1
  exact Q7 _  0 0 h3 t3 s3 (rgk rfl) (rgk rfl) (Nat.lt_succ_self _) w
def w_X5_pass (p0 : Int) (K : Int → XH → Prop) (h : XH) : Prop :=
  (∀ x1 : Int, x1 = hI h 3 7 → rg x1 → (0 ≤ x1 ∧ x1 < 201) ∧ ((hI h 5 x1.toNat = p0 → (∀ x3 : Int, x3 = hI h 3 7 → rg x3 → (0 ≤ x3 ∧ x3 < 201) ∧ ∀ x5 : Int, x5 = hI h 7 x3.toNat → rg x5 → ∃ J7 : Int → Prop, (∀ (x6 : Int), rg x6 → J7 x6 → (∀ h8 : XH, h8 = sI h 3 7 (wr ((hI h 3 7) + x6)) → HT h8 → HX h h8 → K x5 h8)) ∧ ((¬ p0 = 0 → (J7 1)) ∧ (¬ (¬ p0 = 0) → (J7 0))))) ∧ (¬ (hI h 5 x1.toNat = p0) → (∃ J11 : Int → Prop, (∀ (x10 : Int), rg x10 → J11 x10 → (∀ h12 : XH, h12 = sI h 3 2 x10 → HT h12 → HX h h12 → K (-1) h12)) ∧ ((¬ hI h 3 2 = (-1) → (J11 (hI h 3 2))) ∧ (¬ (¬ hI h 3 2 = (-1)) → (∀ x13 : Int, x13 = hI h 3 7 → rg x13 → (0 ≤ x13 ∧ x13 < 201) ∧ J11 (hI h 6 x13.toNat))))))))
set_option maxHeartbeats 4000000 in
theorem a_X5_pass {sc : Nat × (Nat → Int32)} {goal : XO → XH → Prop} {fs : List XF} {h : XH} (p0 : Int) {K : Int → XH → Prop} (hd : fs.length + 0 ≤ 1000) (rp0 : rg p0) (w : w_X5_pass p0 K h) (t0 : HT h) (k : ∀ (r : Int) (h1 : XH), HT h1 → HX h h1 → rg r → K r h1 → XFin xP sc goal fs (.inl (some (.int (J r)))) h1) : RR sc goal fs 405 0 [some (rv 3), some (.int (J p0)), none] [] h := by
  unfold w_X5_pass at w
  refine r_aldn (pc1 := 1) rfl rfl rfl ?_
  refine r_gfC (pc1 := 4) (q := 5) rfl rfl rfl t0 (lyk t0 rfl) rfl rfl (lyR t0 rfl rfl) ?_
  refine r_aldn (pc1 := 5) rfl rfl rfl ?_
  refine r_gfI (pc1 := 8) rfl rfl rfl t0 (lyk t0 rfl) rfl rfl ?_
  refine r_vI (rgh _ _ _) (fun x1 ex1 rx1 => ?_)
  have w := w x1 ex1 rx1
  obtain ⟨c2, w⟩ := w
  refine r_ial (pc1 := 9) rfl rfl t0 (lyk t0 rfl) rx1 c2.1 (lt_len (lyn t0 rfl) c2.2) ?_
  refine r_n (pc1 := 10) [.int (J p0), .int (J (hI h 5 x1.toNat))] _ rfl rfl ?_
  refine r_ic (t := 43) (pc1 := 13) rfl rfl rfl (rgh _ _ _) rp0 (fun c16 => ?_) (fun c16 => ?_)
  · have w := w.1 c16
    refine r_aldn (pc1 := 44) rfl rfl rfl ?_
    refine r_gfC (pc1 := 47) (q := 7) rfl rfl rfl t0 (lyk t0 rfl) rfl rfl (lyR t0 rfl rfl) ?_
    refine r_aldn (pc1 := 48) rfl rfl rfl ?_
    refine r_gfI (pc1 := 51) rfl rfl rfl t0 (lyk t0 rfl) rfl rfl ?_
    refine r_vI (rgh _ _ _) (fun x3 ex3 rx3 => ?_)
    have w := w x3 ex3 rx3
    obtain ⟨c4, w⟩ := w
    refine r_ial (pc1 := 52) rfl rfl t0 (lyk t0 rfl) rx3 c4.1 (lt_len (lyn t0 rfl) c4.2) ?_
    refine r_vI (rgh _ _ _) (fun x5 ex5 rx5 => ?_)
    have w := w x5 ex5 rx5
    refine r_istn (pc1 := 53) (ls1 := [some (rv 3), some (.int (J p0)), some (.int (J x5))]) rfl rfl rfl rfl ?_
    refine r_aldn (pc1 := 54) rfl rfl rfl ?_
    refine r_dupR (pc1 := 55) rfl rfl ?_
    refine r_gfI (pc1 := 58) rfl rfl rfl t0 (lyk t0 rfl) rfl rfl ?_
    refine r_n (pc1 := 59) [.int (J p0), .int (J (hI h 3 7)), rv 3] _ rfl rfl ?_
    obtain ⟨J7, j7, w⟩ := w
    have Q7 : ∀ (x6 : Int), rg x6 → J7 x6 → RR sc goal fs 405 67 [some (rv 3), some (.int (J p0)), some (.int (J x5))] [.int (J x6), .int (J (hI h 3 7)), rv 3] h := by
      intro x6 rx6 z7
      have w := j7 x6 rx6 z7
      refine r_iadd (pc1 := 68) rfl rfl ?_
      refine r_pfI (pc1 := 71) rfl rfl rfl t0 (lyk t0 rfl) rfl rfl rfl (fun h8 eh8 t8 u8 => ?_)
      have w := w h8 eh8 t8 u8
      have s8 := HX_trans (HX_refl h) u8
      refine r_n (pc1 := 72) [.int (J x5)] _ rfl rfl ?_
      exact r_retI rfl rfl rfl (k _ _ t8 s8 rx5 w)
    refine r_iz (t := 66) (pc1 := 62) rfl rfl rfl rp0 (fun c9 => ?_) (fun c9 => ?_)
    · have w := w.1 c9
      refine r_n (pc1 := 67) [.int (J 1), .int (J (hI h 3 7)), rv 3] _ rfl rfl ?_
      exact Q7  1  (rgk rfl) w
    · have w := w.2 c9
      refine r_n (pc1 := 63) [.int (J 0), .int (J (hI h 3 7)), rv 3] _ rfl rfl ?_
      refine r_goto (t := 67) rfl rfl ?_
      exact Q7  0  (rgk rfl) w
  · have w := w.2 c16
    refine r_aldn (pc1 := 14) rfl rfl rfl ?_
    refine r_aldn (pc1 := 15) rfl rfl rfl ?_
    refine r_gfI (pc1 := 18) rfl rfl rfl t0 (lyk t0 rfl) rfl rfl ?_
    refine r_n (pc1 := 19) [.int (J (-1)), .int (J (hI h 3 2)), rv 3] _ rfl rfl ?_
    obtain ⟨J11, j11, w⟩ := w
    have Q11 : ∀ (x10 : Int), rg x10 → J11 x10 → RR sc goal fs 405 38 [some (rv 3), some (.int (J p0)), none] [.int (J x10), rv 3] h := by
      intro x10 rx10 z11
      have w := j11 x10 rx10 z11
      refine r_pfI (pc1 := 41) rfl rfl rfl t0 (lyk t0 rfl) rfl rfl rfl (fun h12 eh12 t12 u12 => ?_)
      have w := w h12 eh12 t12 u12
      have s12 := HX_trans (HX_refl h) u12
      refine r_n (pc1 := 42) [.int (J (-1))] _ rfl rfl ?_
      exact r_retI rfl rfl rfl (k _ _ t12 s12 (rgk rfl) w)
    refine r_ic (t := 34) (pc1 := 22) rfl rfl rfl (rgh _ _ _) (rgk rfl) (fun c15 => ?_) (fun c15 => ?_)
    · have w := w.1 c15
      refine r_aldn (pc1 := 35) rfl rfl rfl ?_
      refine r_gfI (pc1 := 38) rfl rfl rfl t0 (lyk t0 rfl) rfl rfl ?_
      exact Q11  (hI h 3 2)  (rgh _ _ _) w
    · have w := w.2 c15
      refine r_aldn (pc1 := 23) rfl rfl rfl ?_
      refine r_gfC (pc1 := 26) (q := 6) rfl rfl rfl t0 (lyk t0 rfl) rfl rfl (lyR t0 rfl rfl) ?_
      refine r_aldn (pc1 := 27) rfl rfl rfl ?_
      refine r_gfI (pc1 := 30) rfl rfl rfl t0 (lyk t0 rfl) rfl rfl ?_
      refine r_vI (rgh _ _ _) (fun x13 ex13 rx13 => ?_)
      have w := w x13 ex13 rx13
      obtain ⟨c14, w⟩ := w
      refine r_ial (pc1 := 31) rfl rfl t0 (lyk t0 rfl) rx13 c14.1 (lt_len (lyn t0 rfl) c14.2) ?_
      refine r_goto (t := 38) rfl rfl ?_
      exact Q11  (hI h 6 x13.toNat)  (rgh _ _ _) w
def w_X5_isNext (p0 : Int) (K : Int → Prop) (h : XH) : Prop :=
  (∀ x1 : Int, x1 = hI h 3 7 → rg x1 → (0 ≤ x1 ∧ x1 < 201) ∧ ∃ J4 : Int → Prop, (∀ (x3 : Int), rg x3 → J4 x3 → ((x3 = 0 ∨ x3 = 1) ∧ K x3)) ∧ ((¬ hI h 5 x1.toNat = p0 → (J4 0)) ∧ (¬ (¬ hI h 5 x1.toNat = p0) → (J4 1))))
set_option maxHeartbeats 4000000 in
theorem a_X5_isNext {sc : Nat × (Nat → Int32)} {goal : XO → XH → Prop} {fs : List XF} {h : XH} (p0 : Int) {K : Int → Prop} (hd : fs.length + 0 ≤ 1000) (rp0 : rg p0) (w : w_X5_isNext p0 K h) (t0 : HT h) (k : ∀ (r : Int), rg r → (r = 0 ∨ r = 1) → K r → XFin xP sc goal fs (.inl (some (.int (J r)))) h) : RR sc goal fs 401 0 [some (rv 3), some (.int (J p0))] [] h := by
  unfold w_X5_isNext at w
  refine r_aldn (pc1 := 1) rfl rfl rfl ?_
  refine r_gfC (pc1 := 4) (q := 5) rfl rfl rfl t0 (lyk t0 rfl) rfl rfl (lyR t0 rfl rfl) ?_
  refine r_aldn (pc1 := 5) rfl rfl rfl ?_
  refine r_gfI (pc1 := 8) rfl rfl rfl t0 (lyk t0 rfl) rfl rfl ?_
  refine r_vI (rgh _ _ _) (fun x1 ex1 rx1 => ?_)
  have w := w x1 ex1 rx1
  obtain ⟨c2, w⟩ := w
  refine r_ial (pc1 := 9) rfl rfl t0 (lyk t0 rfl) rx1 c2.1 (lt_len (lyn t0 rfl) c2.2) ?_
  refine r_n (pc1 := 10) [.int (J p0), .int (J (hI h 5 x1.toNat))] _ rfl rfl ?_
  obtain ⟨J4, j4, w⟩ := w
  have Q4 : ∀ (x3 : Int), rg x3 → J4 x3 → RR sc goal fs 401 18 [some (rv 3), some (.int (J p0))] [.int (J x3)] h := by
    intro x3 rx3 z4
    have w := j4 x3 rx3 z4
    obtain ⟨c5, w⟩ := w
    exact r_retB rfl rfl rfl c5 (k _ rx3 c5 w)
  refine r_ic (t := 17) (pc1 := 13) rfl rfl rfl (rgh _ _ _) rp0 (fun c6 => ?_) (fun c6 => ?_)
  · have w := w.1 c6
    refine r_n (pc1 := 18) [.int (J 0)] _ rfl rfl ?_
    exact Q4  0  (rgk rfl) w
  · have w := w.2 c6
    refine r_n (pc1 := 14) [.int (J 1)] _ rfl rfl ?_
    refine r_goto (t := 18) rfl rfl ?_
    exact Q4  1  (rgk rfl) w
def w_X10_init (t : Nat) (p0 : Int) (p1 : Int) (p2 : Int) (K : XH → Prop) (h : XH) : Prop :=
  (∀ h1 : XH, h1 = sI h t 0 p0 → HT h1 → HX h h1 → ∀ h2 : XH, h2 = sI h1 t 1 p1 → HT h2 → HX h1 h2 → ∀ h3 : XH, h3 = sI h2 t 2 p2 → HT h3 → HX h2 h3 → ∃ J5 : Int → Prop, (∀ (x4 : Int), rg x4 → J5 x4 → (∀ h6 : XH, h6 = sI h3 t 3 x4 → HT h6 → HX h3 h6 → ∃ J8 : Int → Prop, (∀ (x7 : Int), rg x7 → J8 x7 → (∀ h9 : XH, h9 = sI h6 t 4 x7 → HT h9 → HX h6 h9 → K h9)) ∧ ((¬ irem p2 100 = 99 → (J8 (idiv p2 100))) ∧ (¬ (¬ irem p2 100 = 99) → (J8 (-1)))))) ∧ ((¬ irem p1 100 = 99 → (J5 (idiv p1 100))) ∧ (¬ (¬ irem p1 100 = 99) → (J5 (-1)))))
set_option maxHeartbeats 4000000 in
theorem a_X10_init {sc : Nat × (Nat → Int32)} {goal : XO → XH → Prop} {fs : List XF} {h : XH} (t : Nat) (p0 : Int) (p1 : Int) (p2 : Int) {K : XH → Prop} (hd : fs.length + 0 ≤ 1000) (c0 : hk h t = 11) (rp0 : rg p0) (rp1 : rg p1) (rp2 : rg p2) (w : w_X10_init t p0 p1 p2 K h) (t0 : HT h) (k : ∀ (h1 : XH), HT h1 → HX h h1 → K h1 → XFin xP sc goal fs (.inl none) h1) : RR sc goal fs 73 0 [some (rv t), some (.int (J p0)), some (.int (J p1)), some (.int (J p2))] [] h := by
  unfold w_X10_init at w
  refine r_aldn (pc1 := 1) rfl rfl rfl ?_
  refine r_i7 (pc1 := 4) rfl rfl rfl t0 (HXk (HX_refl h) c0 rfl) rfl rfl ?_
  refine r_aldn (pc1 := 5) rfl rfl rfl ?_
  refine r_n (pc1 := 6) [.int (J p0), rv t] _ rfl rfl ?_
  refine r_pfI (pc1 := 9) rfl rfl rfl t0 (HXk (HX_refl h) c0 rfl) rfl rfl rfl (fun h1 eh1 t1 u1 => ?_)
  have w := w h1 eh1 t1 u1
  have s1 := HX_trans (HX_refl h) u1
  refine r_aldn (pc1 := 10) rfl rfl rfl ?_
  refine r_n (pc1 := 11) [.int (J p1), rv t] _ rfl rfl ?_
  refine r_pfI (pc1 := 14) rfl rfl rfl t1 (HXk s1 c0 rfl) rfl rfl rfl (fun h2 eh2 t2 u2 => ?_)
  have w := w h2 eh2 t2 u2
  have s2 := HX_trans s1 u2
  refine r_aldn (pc1 := 15) rfl rfl rfl ?_
  refine r_n (pc1 := 16) [.int (J p2), rv t] _ rfl rfl ?_
  refine r_pfI (pc1 := 19) rfl rfl rfl t2 (HXk s2 c0 rfl) rfl rfl rfl (fun h3 eh3 t3 u3 => ?_)
  have w := w h3 eh3 t3 u3
  have s3 := HX_trans s2 u3
  refine r_aldn (pc1 := 20) rfl rfl rfl ?_
  refine r_n (pc1 := 21) [.int (J p1), rv t] _ rfl rfl ?_
  refine r_n (pc1 := 23) [.int (J 100), .int (J p1), rv t] _ rfl rfl ?_
  refine r_irem (pc1 := 24) rfl rfl (rgk rfl) (by decide) ?_
  refine r_n (pc1 := 26) [.int (J 99), .int (J (irem p1 100)), rv t] _ rfl rfl ?_
  obtain ⟨J5, j5, w⟩ := w
  have Q5 : ∀ (x4 : Int), rg x4 → J5 x4 → RR sc goal fs 73 37 [some (rv t), some (.int (J p0)), some (.int (J p1)), some (.int (J p2))] [.int (J x4), rv t] h3 := by
    intro x4 rx4 z5
    have w := j5 x4 rx4 z5
    refine r_pfI (pc1 := 40) rfl rfl rfl t3 (HXk s3 c0 rfl) rfl rfl rfl (fun h6 eh6 t6 u6 => ?_)
    have w := w h6 eh6 t6 u6
    have s6 := HX_trans s3 u6
    refine r_aldn (pc1 := 41) rfl rfl rfl ?_
    refine r_n (pc1 := 42) [.int (J p2), rv t] _ rfl rfl ?_
    refine r_n (pc1 := 44) [.int (J 100), .int (J p2), rv t] _ rfl rfl ?_
    refine r_irem (pc1 := 45) rfl rfl (rgk rfl) (by decide) ?_
    refine r_n (pc1 := 47) [.int (J 99), .int (J (irem p2 100)), rv t] _ rfl rfl ?_
    obtain ⟨J8, j8, w⟩ := w
    have Q8 : ∀ (x7 : Int), rg x7 → J8 x7 → RR sc goal fs 73 58 [some (rv t), some (.int (J p0)), some (.int (J p1)), some (.int (J p2))] [.int (J x7), rv t] h6 := by
      intro x7 rx7 z8
      have w := j8 x7 rx7 z8
      refine r_pfI (pc1 := 61) rfl rfl rfl t6 (HXk s6 c0 rfl) rfl rfl rfl (fun h9 eh9 t9 u9 => ?_)
      have w := w h9 eh9 t9 u9
      have s9 := HX_trans s6 u9
      exact r_retV rfl rfl rfl (k _ t9 s9 w)
    refine r_ic (t := 54) (pc1 := 50) rfl rfl rfl (rgt _) (rgk rfl) (fun c10 => ?_) (fun c10 => ?_)
    · have w := w.1 c10
      refine r_n (pc1 := 55) [.int (J p2), rv t] _ rfl rfl ?_
      refine r_n (pc1 := 57) [.int (J 100), .int (J p2), rv t] _ rfl rfl ?_
      refine r_idiv (pc1 := 58) rfl rfl (rgk rfl) (by decide) ?_
      exact Q8  (idiv p2 100)  (rgt _) w
    · have w := w.2 c10
      refine r_n (pc1 := 51) [.int (J (-1)), rv t] _ rfl rfl ?_
      refine r_goto (t := 58) rfl rfl ?_
      exact Q8  (-1)  (rgk rfl) w
  refine r_ic (t := 33) (pc1 := 29) rfl rfl rfl (rgt _) (rgk rfl) (fun c11 => ?_) (fun c11 => ?_)
  · have w := w.1 c11
    refine r_n (pc1 := 34) [.int (J p1), rv t] _ rfl rfl ?_
    refine r_n (pc1 := 36) [.int (J 100), .int (J p1), rv t] _ rfl rfl ?_
    refine r_idiv (pc1 := 37) rfl rfl (rgk rfl) (by decide) ?_
    exact Q5  (idiv p1 100)  (rgt _) w
  · have w := w.2 c11
    refine r_n (pc1 := 30) [.int (J (-1)), rv t] _ rfl rfl ?_
    refine r_goto (t := 37) rfl rfl ?_
    exact Q5  (-1)  (rgk rfl) w
def w_X10_any  (K : Nat → XH → Prop) (h : XH) : Prop :=
  (∀ (a1 : Nat) (h2 : XH), a1 = h.length → h2 = nO h 11 → HT h2 → HX h h2 → hk h2 a1 = 11 → w_X10_init a1 42 99 99 (fun h3 => HT h3 → HX h2 h3 → (K a1 h3)) h2)
set_option maxHeartbeats 4000000 in
theorem a_X10_any {sc : Nat × (Nat → Int32)} {goal : XO → XH → Prop} {fs : List XF} {h : XH}  {K : Nat → XH → Prop} (hd : fs.length + 1 ≤ 1000) (w : w_X10_any  K h) (t0 : HT h) (k : ∀ (r : Nat) (h1 : XH), HT h1 → HX h h1 → K r h1 → XFin xP sc goal fs (.inl (some (rv r))) h1) : RR sc goal fs 72 0 [] [] h := by
  unfold w_X10_any at w
  refine r_new (pc1 := 3) rfl rfl rfl t0 (by decide) (fun a1 h2 ea1 eh2 t2 u2 ca1 => ?_)
  have w := w a1 h2 ea1 eh2 t2 u2 ca1
  have s2 := HX_trans (HX_refl h) u2
  refine r_dupR (pc1 := 4) rfl rfl ?_
  refine r_n (pc1 := 6) [.int (J 42), rv a1, rv a1] _ rfl rfl ?_
  refine r_n (pc1 := 8) [.int (J 99), .int (J 42), rv a1, rv a1] _ rfl rfl ?_
  refine r_n (pc1 := 10) [.int (J 99), .int (J 99), .int (J 42), rv a1, rv a1] _ rfl rfl ?_
  refine r_ip rfl rfl rfl rfl rfl rfl t2 ca1 rfl (xe_of (xa_r (xa_i (xa_i (xa_i xa_0)))) rfl rfl) (r_d0 hd rfl) (a_X10_init a1 42 99 99 (r_d1 hd rfl) ca1 (rgk rfl) (rgk rfl) (rgk rfl) w t2 (fun h3 t3 u3 w => ?_))
  refine r_fV (pc1 := 13) rfl ?_
  have s3 := HX_trans s2 u3
  have w := w t3 u3
  exact r_retR rfl rfl rfl xok_O xokr_O (k _ _ t3 s3 w)
def w_X5_readVersion  (K : Int → XH → Prop) (h : XH) : Prop :=
  (w_X5_pass 3 (fun x1 h2 => HT h2 → HX h h2 → rg x1 → (∃ J4 : XH → Prop, (∀ (h3 : XH), HT h3 → HX h h3 → J4 h3 → (K (-1) h3)) ∧ ((x1 = (-1) → J4 h2) ∧ (¬ (x1 = (-1)) → (w_X5_pass 46 (fun x5 h6 => HT h6 → HX h2 h6 → rg x5 → (((¬ x5 = (-1) → (w_X5_pass 3 (fun x7 h8 => HT h8 → HX h6 h8 → rg x7 → (∃ J9 : Prop, (J9 → (∃ J11 : Int → Prop, (∀ (x10 : Int), rg x10 → J11 x10 → (K x10 h8)) ∧ ((¬ x7 = (-1) → (J11 (wr ((wr ((wr (10000 * x1)) + (wr (100 * x7)))) + 99)))) ∧ (¬ (¬ x7 = (-1)) → (J11 (-1)))))) ∧ ((x7 = (-1) → J9) ∧ (¬ (x7 = (-1)) → (w_X5_isNext 33 (fun x13 => rg x13 → (x13 = 0 ∨ x13 = 1) → (((¬ x13 = 0 → (∀ h14 : XH, h14 = sI h8 3 7 (wr ((hI h8 3 7) + 1)) → HT h14 → HX h8 h14 → w_X5_isNext 3 (fun x15 => rg x15 → (x15 = 0 ∨ x15 = 1) → (∃ J17 : XH → Prop, (∀ (h16 : XH), HT h16 → HX h h16 → J17 h16 → (w_X5_pass 3 (fun x18 h19 => HT h19 → HX h16 h19 → rg x18 → (∃ J21 : Int → Prop, (∀ (x20 : Int), rg x20 → J21 x20 → (K x20 h19)) ∧ ((¬ x18 = (-1) → (J21 (wr ((wr ((wr (10000 * x1)) + (wr (100 * x7)))) + x18)))) ∧ (¬ (¬ x18 = (-1)) → (J21 (-1)))))) h16)) ∧ ((x15 = 0 → J17 h14) ∧ (¬ (x15 = 0) → (∀ x23 : Int, x23 = hI h14 3 7 → rg x23 → (0 ≤ x23 ∧ x23 < 201) ∧ ∃ J25 : Prop, (J25 → ((0 ≤ hI h14 3 7 ∧ hI h14 3 7 < 201) ∧ ∀ h27 : XH, h27 = sI h14 5 (hI h14 3 7).toNat 1 → HT h27 → HX h14 h27 → J17 h27)) ∧ ((hI h14 7 x23.toNat < 1 → J25) ∧ (¬ (hI h14 7 x23.toNat < 1) → (∀ x28 : Int, x28 = hI h14 3 7 → rg x28 → (0 ≤ x28 ∧ x28 < 201) ∧ ((hI h14 7 x28.toNat ≤ 98 → J17 h14) ∧ (¬ (hI h14 7 x28.toNat ≤ 98) → J25)))))))))) h14)) ∧ (¬ (¬ x13 = 0) → J9)))) h8))))) h6)) ∧ (¬ (¬ x5 = (-1)) → J4 h6)))) h2))))) h)
set_option maxHeartbeats 4000000 in
theorem a_X5_readVersion {sc : Nat × (Nat → Int32)} {goal : XO → XH → Prop} {fs : List XF} {h : XH}  {K : Int → XH → Prop} (hd : fs.length + 1 ≤ 1000) (w : w_X5_readVersion  K h) (t0 : HT h) (k : ∀ (r : Int) (h1 : XH), HT h1 → HX h h1 → rg r → K r h1 → XFin xP sc goal fs (.inl (some (.int (J r)))) h1) : RR sc goal fs 411 0 [some (rv 3), none, none, none] [] h := by
  unfold w_X5_readVersion at w
  refine r_aldn (pc1 := 1) rfl rfl rfl ?_
  refine r_n (pc1 := 2) [.int (J 3), rv 3] _ rfl rfl ?_
  refine r_iv rfl rfl rfl rfl rfl rfl t0 (lyk t0 rfl) rfl (xe_of (xa_r (xa_i xa_0)) rfl rfl) (r_d0 hd rfl) (a_X5_pass 3 (r_d1 hd rfl) (rgk rfl) w t0 (fun x1 h2 t2 u2 rx1 w => ?_))
  refine r_fI (pc1 := 5) rfl ?_
  have s2 := HX_trans (HX_refl h) u2
  have w := w t2 u2
  have w := w rx1
  refine r_istn (pc1 := 6) (ls1 := [some (rv 3), some (.int (J x1)), none, none]) rfl rfl rfl rfl ?_
  refine r_n (pc1 := 7) [.int (J x1)] _ rfl rfl ?_
  refine r_n (pc1 := 8) [.int (J (-1)), .int (J x1)] _ rfl rfl ?_
  obtain ⟨J4, j4, w⟩ := w
  have Q4 : ∀ (h3 : XH), HT h3 → HX h h3 → J4 h3 → RR sc goal fs 411 21 [some (rv 3), some (.int (J x1)), none, none] [] h3 := by
    intro h3 t3 s3 z4
    have w := j4 h3 t3 s3 z4
    refine r_n (pc1 := 22) [.int (J (-1))] _ rfl rfl ?_
    exact r_retI rfl rfl rfl (k _ _ t3 s3 (rgk rfl) w)
  refine r_ic (t := 21) (pc1 := 11) rfl rfl rfl rx1 (rgk rfl) (fun c36 => ?_) (fun c36 => ?_)
  · have w := w.1 c36
    exact Q4   h2 t2 s2  w
  · have w := w.2 c36
    refine r_aldn (pc1 := 12) rfl rfl rfl ?_
    refine r_n (pc1 := 14) [.int (J 46), rv 3] _ rfl rfl ?_
    refine r_iv rfl rfl rfl rfl rfl rfl t2 (lyk t2 rfl) rfl (xe_of (xa_r (xa_i xa_0)) rfl rfl) (r_d0 hd rfl) (a_X5_pass 46 (r_d1 hd rfl) (rgk rfl) w t2 (fun x5 h6 t6 u6 rx5 w => ?_))
    refine r_fI (pc1 := 17) rfl ?_
    have s6 := HX_trans s2 u6
    have w := w t6 u6
    have w := w rx5
    refine r_n (pc1 := 18) [.int (J (-1)), .int (J x5)] _ rfl rfl ?_
    refine r_ic (t := 23) (pc1 := 21) rfl rfl rfl rx5 (rgk rfl) (fun c35 => ?_) (fun c35 => ?_)
    · have w := w.1 c35
      refine r_aldn (pc1 := 24) rfl rfl rfl ?_
      refine r_n (pc1 := 25) [.int (J 3), rv 3] _ rfl rfl ?_
      refine r_iv rfl rfl rfl rfl rfl rfl t6 (lyk t6 rfl) rfl (xe_of (xa_r (xa_i xa_0)) rfl rfl) (r_d0 hd rfl) (a_X5_pass 3 (r_d1 hd rfl) (rgk rfl) w t6 (fun x7 h8 t8 u8 rx7 w => ?_))
      refine r_fI (pc1 := 28) rfl ?_
      have s8 := HX_trans s6 u8
      have w := w t8 u8
      have w := w rx7
      refine r_istn (pc1 := 29) (ls1 := [some (rv 3), some (.int (J x1)), some (.int (J x7)), none]) rfl rfl rfl rfl ?_
      refine r_n (pc1 := 30) [.int (J x7)] _ rfl rfl ?_
      refine r_n (pc1 := 31) [.int (J (-1)), .int (J x7)] _ rfl rfl ?_
      obtain ⟨J9, j9, w⟩ := w
      have Q9 : J9 → RR sc goal fs 411 43 [some (rv 3), some (.int (J x1)), some (.int (J x7)), none] [] h8 := by
        intro z9
        have w := j9 z9
        refine r_n (pc1 := 44) [.int (J x7)] _ rfl rfl ?_
        refine r_n (pc1 := 45) [.int (J (-1)), .int (J x7)] _ rfl rfl ?_
        obtain ⟨J11, j11, w⟩ := w
        have Q11 : ∀ (x10 : Int), rg x10 → J11 x10 → RR sc goal fs 411 65 [some (rv 3), some (.int (J x1)), some (.int (J x7)), none] [.int (J x10)] h8 := by
          intro x10 rx10 z11
          have w := j11 x10 rx10 z11
          exact r_retI rfl rfl rfl (k _ _ t8 s8 rx10 w)
        refine r_ic (t := 52) (pc1 := 48) rfl rfl rfl rx7 (rgk rfl) (fun c12 => ?_) (fun c12 => ?_)
        · have w := w.1 c12
          refine r_n (pc1 := 55) [.int (J 10000)] _ rfl rfl ?_
          refine r_n (pc1 := 56) [.int (J x1), .int (J 10000)] _ rfl rfl ?_
          refine r_imul (pc1 := 57) rfl rfl ?_
          refine r_n (pc1 := 59) [.int (J 100), .int (J (wr (10000 * x1)))] _ rfl rfl ?_
          refine r_n (pc1 := 60) [.int (J x7), .int (J 100), .int (J (wr (10000 * x1)))] _ rfl rfl ?_
          refine r_imul (pc1 := 61) rfl rfl ?_
          refine r_iadd (pc1 := 62) rfl rfl ?_
          refine r_n (pc1 := 64) [.int (J 99), .int (J (wr ((wr (10000 * x1)) + (wr (100 * x7)))))] _ rfl rfl ?_
          refine r_iadd (pc1 := 65) rfl rfl ?_
          exact Q11  (wr ((wr ((wr (10000 * x1)) + (wr (100 * x7)))) + 99))  (rgw _) w
        · have w := w.2 c12
          refine r_n (pc1 := 49) [.int (J (-1))] _ rfl rfl ?_
          refine r_goto (t := 65) rfl rfl ?_
          exact Q11  (-1)  (rgk rfl) w
      refine r_ic (t := 43) (pc1 := 34) rfl rfl rfl rx7 (rgk rfl) (fun c34 => ?_) (fun c34 => ?_)
      · have w := w.1 c34
        exact Q9     w
      · have w := w.2 c34
        refine r_aldn (pc1 := 35) rfl rfl rfl ?_
        refine r_n (pc1 := 37) [.int (J 33), rv 3] _ rfl rfl ?_
        refine r_iv rfl rfl rfl rfl rfl rfl t8 (lyk t8 rfl) rfl (xe_of (xa_r (xa_i xa_0)) rfl rfl) (r_d0 hd rfl) (a_X5_isNext 33 (r_d1 hd rfl) (rgk rfl) w t8 (fun x13 rx13 vx13 w => ?_))
        refine r_fI (pc1 := 40) rfl ?_
        have w := w rx13 vx13
        refine r_iz (t := 66) (pc1 := 43) rfl rfl rfl rx13 (fun c33 => ?_) (fun c33 => ?_)
        · have w := w.1 c33
          refine r_aldn (pc1 := 67) rfl rfl rfl ?_
          refine r_dupR (pc1 := 68) rfl rfl ?_
          refine r_gfI (pc1 := 71) rfl rfl rfl t8 (lyk t8 rfl) rfl rfl ?_
          refine r_n (pc1 := 72) [.int (J 1), .int (J (hI h8 3 7)), rv 3] _ rfl rfl ?_
          refine r_iadd (pc1 := 73) rfl rfl ?_
          refine r_pfI (pc1 := 76) rfl rfl rfl t8 (lyk t8 rfl) rfl rfl rfl (fun h14 eh14 t14 u14 => ?_)
          have w := w h14 eh14 t14 u14
          have s14 := HX_trans s8 u14
          refine r_aldn (pc1 := 77) rfl rfl rfl ?_
          refine r_n (pc1 := 78) [.int (J 3), rv 3] _ rfl rfl ?_
          refine r_iv rfl rfl rfl rfl rfl rfl t14 (lyk t14 rfl) rfl (xe_of (xa_r (xa_i xa_0)) rfl rfl) (r_d0 hd rfl) (a_X5_isNext 3 (r_d1 hd rfl) (rgk rfl) w t14 (fun x15 rx15 vx15 w => ?_))
          refine r_fI (pc1 := 81) rfl ?_
          have w := w rx15 vx15
          obtain ⟨J17, j17, w⟩ := w
          have Q17 : ∀ (h16 : XH), HT h16 → HX h h16 → J17 h16 → RR sc goal fs 411 121 [some (rv 3), some (.int (J x1)), some (.int (J x7)), none] [] h16 := by
            intro h16 t16 s16 z17
            have w := j17 h16 t16 s16 z17
            refine r_aldn (pc1 := 122) rfl rfl rfl ?_
            refine r_n (pc1 := 123) [.int (J 3), rv 3] _ rfl rfl ?_
            refine r_iv rfl rfl rfl rfl rfl rfl t16 (lyk t16 rfl) rfl (xe_of (xa_r (xa_i xa_0)) rfl rfl) (r_d0 hd rfl) (a_X5_pass 3 (r_d1 hd rfl) (rgk rfl) w t16 (fun x18 h19 t19 u19 rx18 w => ?_))
            refine r_fI (pc1 := 126) rfl ?_
            have s19 := HX_trans s16 u19
            have w := w t19 u19
            have w := w rx18
            refine r_istn (pc1 := 127) (ls1 := [some (rv 3), some (.int (J x1)), some (.int (J x7)), some (.int (J x18))]) rfl rfl rfl rfl ?_
            refine r_n (pc1 := 128) [.int (J x18)] _ rfl rfl ?_
            refine r_n (pc1 := 129) [.int (J (-1)), .int (J x18)] _ rfl rfl ?_
            obtain ⟨J21, j21, w⟩ := w
            have Q21 : ∀ (x20 : Int), rg x20 → J21 x20 → RR sc goal fs 411 148 [some (rv 3), some (.int (J x1)), some (.int (J x7)), some (.int (J x18))] [.int (J x20)] h19 := by
              intro x20 rx20 z21
              have w := j21 x20 rx20 z21
              exact r_retI rfl rfl rfl (k _ _ t19 s19 rx20 w)
            refine r_ic (t := 136) (pc1 := 132) rfl rfl rfl rx18 (rgk rfl) (fun c22 => ?_) (fun c22 => ?_)
            · have w := w.1 c22
              refine r_n (pc1 := 139) [.int (J 10000)] _ rfl rfl ?_
              refine r_n (pc1 := 140) [.int (J x1), .int (J 10000)] _ rfl rfl ?_
              refine r_imul (pc1 := 141) rfl rfl ?_
              refine r_n (pc1 := 143) [.int (J 100), .int (J (wr (10000 * x1)))] _ rfl rfl ?_
              refine r_n (pc1 := 144) [.int (J x7), .int (J 100), .int (J (wr (10000 * x1)))] _ rfl rfl ?_
              refine r_imul (pc1 := 145) rfl rfl ?_
              refine r_iadd (pc1 := 146) rfl rfl ?_
              refine r_n (pc1 := 147) [.int (J x18), .int (J (wr ((wr (10000 * x1)) + (wr (100 * x7)))))] _ rfl rfl ?_
              refine r_iadd (pc1 := 148) rfl rfl ?_
              exact Q21  (wr ((wr ((wr (10000 * x1)) + (wr (100 * x7)))) + x18))  (rgw _) w
            · have w := w.2 c22
              refine r_n (pc1 := 133) [.int (J (-1))] _ rfl rfl ?_
              refine r_goto (t := 148) rfl rfl ?_
              exact Q21  (-1)  (rgk rfl) w
          refine r_iz (t := 121) (pc1 := 84) rfl rfl rfl rx15 (fun c32 => ?_) (fun c32 => ?_)
          · have w := w.1 c32
            exact Q17   h14 t14 s14  w
          · have w := w.2 c32
            refine r_aldn (pc1 := 85) rfl rfl rfl ?_
            refine r_gfC (pc1 := 88) (q := 7) rfl rfl rfl t14 (lyk t14 rfl) rfl rfl (lyR t14 rfl rfl) ?_
            refine r_aldn (pc1 := 89) rfl rfl rfl ?_
            refine r_gfI (pc1 := 92) rfl rfl rfl t14 (lyk t14 rfl) rfl rfl ?_
            refine r_vI (rgh _ _ _) (fun x23 ex23 rx23 => ?_)
            have w := w x23 ex23 rx23
            obtain ⟨c24, w⟩ := w
            refine r_ial (pc1 := 93) rfl rfl t14 (lyk t14 rfl) rx23 c24.1 (lt_len (lyn t14 rfl) c24.2) ?_
            refine r_n (pc1 := 94) [.int (J 1), .int (J (hI h14 7 x23.toNat))] _ rfl rfl ?_
            obtain ⟨J25, j25, w⟩ := w
            have Q25 : J25 → RR sc goal fs 411 111 [some (rv 3), some (.int (J x1)), some (.int (J x7)), none] [] h14 := by
              intro z25
              have w := j25 z25
              refine r_aldn (pc1 := 112) rfl rfl rfl ?_
              refine r_gfC (pc1 := 115) (q := 5) rfl rfl rfl t14 (lyk t14 rfl) rfl rfl (lyR t14 rfl rfl) ?_
              refine r_aldn (pc1 := 116) rfl rfl rfl ?_
              refine r_gfI (pc1 := 119) rfl rfl rfl t14 (lyk t14 rfl) rfl rfl ?_
              refine r_n (pc1 := 120) [.int (J 1), .int (J (hI h14 3 7)), rv 5] _ rfl rfl ?_
              obtain ⟨c26, w⟩ := w
              refine r_iast (pc1 := 121) rfl rfl t14 (lyk t14 rfl) (rgh _ _ _) c26.1 (lt_len (lyn t14 rfl) c26.2) (fun h27 eh27 t27 u27 => ?_)
              have w := w h27 eh27 t27 u27
              have s27 := HX_trans s14 u27
              exact Q17   h27 t27 s27  w
            refine r_ic (t := 111) (pc1 := 97) rfl rfl rfl (rgh _ _ _) (rgk rfl) (fun c31 => ?_) (fun c31 => ?_)
            · have w := w.1 c31
              exact Q25     w
            · have w := w.2 c31
              refine r_aldn (pc1 := 98) rfl rfl rfl ?_
              refine r_gfC (pc1 := 101) (q := 7) rfl rfl rfl t14 (lyk t14 rfl) rfl rfl (lyR t14 rfl rfl) ?_
              refine r_aldn (pc1 := 102) rfl rfl rfl ?_
              refine r_gfI (pc1 := 105) rfl rfl rfl t14 (lyk t14 rfl) rfl rfl ?_
              refine r_vI (rgh _ _ _) (fun x28 ex28 rx28 => ?_)
              have w := w x28 ex28 rx28
              obtain ⟨c29, w⟩ := w
              refine r_ial (pc1 := 106) rfl rfl t14 (lyk t14 rfl) rx28 c29.1 (lt_len (lyn t14 rfl) c29.2) ?_
              refine r_n (pc1 := 108) [.int (J 98), .int (J (hI h14 7 x28.toNat))] _ rfl rfl ?_
              refine r_ic (t := 121) (pc1 := 111) rfl rfl rfl (rgh _ _ _) (rgk rfl) (fun c30 => ?_) (fun c30 => ?_)
              · have w := w.1 c30
                exact Q17   h14 t14 s14  w
              · have w := w.2 c30
                exact Q25     w
        · have w := w.2 c33
          exact Q9     w
    · have w := w.2 c35
      exact Q4   h6 t6 s6  w
def w_X5_readSpan  (K : Nat → XH → Prop) (h : XH) : Prop :=
  (w_X5_isNext 42 (fun x1 => rg x1 → (x1 = 0 ∨ x1 = 1) → (((x1 = 0 → (∀ x2 : Int, x2 = hI h 3 7 → rg x2 → (0 ≤ x2 ∧ x2 < 201) ∧ w_X5_isSpanSign (hI h 5 x2.toNat) (fun x4 => rg x4 → (x4 = 0 ∨ x4 = 1) → (∃ J6 : Int → Prop, (∀ (x5 : Int), rg x5 → J6 x5 → (∃ J8 : Int → Prop, (∀ (x7 : Int), rg x7 → J8 x7 → (∀ h9 : XH, h9 = sI h 3 7 (wr ((hI h 3 7) + x7)) → HT h9 → HX h h9 → w_X5_readVersion (fun x10 h11 => HT h11 → HX h9 h11 → rg x10 → (∃ J12 : Prop, (J12 → (∃ J15 : Nat → XH → Prop, (∀ (a13 : Nat) (h14 : XH), HT h14 → HX h h14 → J15 a13 h14 → (K a13 h14)) ∧ ((¬ x10 = (-1) → (∀ (a16 : Nat) (h17 : XH), a16 = h11.length → h17 = nO h11 11 → HT h17 → HX h11 h17 → hk h17 a16 = 11 → w_X10_init a16 x5 x10 x10 (fun h18 => HT h18 → HX h17 h18 → J15 a16 h18) h17)) ∧ (¬ (¬ x10 = (-1)) → (J15 0 h11))))) ∧ ((x10 = (-1) → J12) ∧ (¬ (x10 = (-1)) → (((¬ x4 = 0 → J12) ∧ (¬ (¬ x4 = 0) → (w_X5_isNext 4 (fun x20 => rg x20 → (x20 = 0 ∨ x20 = 1) → (((¬ x20 = 0 → (∀ x21 : Int, x21 = hI h11 3 7 → rg x21 → (0 ≤ x21 ∧ x21 < 201) ∧ ∀ x23 : Int, x23 = hI h11 6 x21.toNat → rg x23 → ∀ h24 : XH, h24 = sI h11 3 7 (wr ((hI h11 3 7) + 1)) → HT h24 → HX h11 h24 → w_X5_readVersion (fun x25 h26 => HT h26 → HX h24 h26 → rg x25 → (∃ J28 : XH → Prop, (∀ (h27 : XH), HT h27 → HX h h27 → J28 h27 → (∃ J31 : Nat → XH → Prop, (∀ (a29 : Nat) (h30 : XH), HT h30 → HX h h30 → J31 a29 h30 → (K a29 h30)) ∧ ((x10 ≤ x25 → (∀ (a32 : Nat) (h33 : XH), a32 = h27.length → h33 = nO h27 11 → HT h33 → HX h27 h33 → hk h33 a32 = 11 → w_X10_init a32 46 x10 x25 (fun h34 => HT h34 → HX h33 h34 → J31 a32 h34) h33)) ∧ (¬ (x10 ≤ x25) → (J31 0 h27))))) ∧ ((x25 = (-1) → J28 h26) ∧ (¬ (x25 = (-1)) → (((x10 ≤ x25 → J28 h26) ∧ (¬ (x10 ≤ x25) → (∀ h36 : XH, h36 = sI h26 3 2 x23 → HT h36 → HX h26 h36 → J28 h36)))))))) h24)) ∧ (¬ (¬ x20 = 0) → J12)))) h11)))))))) h9)) ∧ ((x4 = 0 → (J8 0)) ∧ (¬ (x4 = 0) → (J8 1))))) ∧ ((x4 = 0 → (J6 61)) ∧ (¬ (x4 = 0) → (∀ x43 : Int, x43 = hI h 3 7 → rg x43 → (0 ≤ x43 ∧ x43 < 201) ∧ J6 (hI h 5 x43.toNat)))))) h)) ∧ (¬ (x1 = 0) → (∀ h46 : XH, h46 = sI h 3 7 (wr ((hI h 3 7) + 1)) → HT h46 → HX h h46 → w_X10_any (fun a47 h48 => HT h48 → HX h46 h48 → (K a47 h48)) h46))))) h)
set_option maxHeartbeats 4000000 in
theorem a_X5_readSpan {sc : Nat × (Nat → Int32)} {goal : XO → XH → Prop} {fs : List XF} {h : XH}  {K : Nat → XH → Prop} (hd : fs.length + 2 ≤ 1000) (w : w_X5_readSpan  K h) (t0 : HT h) (k : ∀ (r : Nat) (h1 : XH), HT h1 → HX h h1 → K r h1 → XFin xP sc goal fs (.inl (some (rv r))) h1) : RR sc goal fs 410 0 [some (rv 3), none, none, none, none, none] [] h := by
  unfold w_X5_readSpan at w
  refine r_aldn (pc1 := 1) rfl rfl rfl ?_
  refine r_n (pc1 := 3) [.int (J 42), rv 3] _ rfl rfl ?_
  refine r_iv rfl rfl rfl rfl rfl rfl t0 (lyk t0 rfl) rfl (xe_of (xa_r (xa_i xa_0)) rfl rfl) (r_d0 hd rfl) (a_X5_isNext 42 (r_d1 hd rfl) (rgk rfl) w t0 (fun x1 rx1 vx1 w => ?_))
  refine r_fI (pc1 := 6) rfl ?_
  have w := w rx1 vx1
  refine r_iz (t := 23) (pc1 := 9) rfl rfl rfl rx1 (fun c49 => ?_) (fun c49 => ?_)
  · have w := w.1 c49
    refine r_aldn (pc1 := 24) rfl rfl rfl ?_
    refine r_gfC (pc1 := 27) (q := 5) rfl rfl rfl t0 (lyk t0 rfl) rfl rfl (lyR t0 rfl rfl) ?_
    refine r_aldn (pc1 := 28) rfl rfl rfl ?_
    refine r_gfI (pc1 := 31) rfl rfl rfl t0 (lyk t0 rfl) rfl rfl ?_
    refine r_vI (rgh _ _ _) (fun x2 ex2 rx2 => ?_)
    have w := w x2 ex2 rx2
    obtain ⟨c3, w⟩ := w
    refine r_ial (pc1 := 32) rfl rfl t0 (lyk t0 rfl) rx2 c3.1 (lt_len (lyn t0 rfl) c3.2) ?_
    refine r_iq rfl rfl rfl rfl rfl rfl (xe_of (xa_i xa_0) rfl rfl) (r_d0 hd rfl) (a_X5_isSpanSign (hI h 5 x2.toNat) (r_d1 hd rfl) (rgh _ _ _) w t0 (fun x4 rx4 vx4 w => ?_))
    refine r_fI (pc1 := 35) rfl ?_
    have w := w rx4 vx4
    refine r_istn (pc1 := 36) (ls1 := [some (rv 3), some (.int (J x4)), none, none, none, none]) rfl rfl rfl rfl ?_
    refine r_n (pc1 := 37) [.int (J x4)] _ rfl rfl ?_
    obtain ⟨J6, j6, w⟩ := w
    have Q6 : ∀ (x5 : Int), rg x5 → J6 x5 → RR sc goal fs 410 54 [some (rv 3), some (.int (J x4)), none, none, none, none] [.int (J x5)] h := by
      intro x5 rx5 z6
      have w := j6 x5 rx5 z6
      refine r_istn (pc1 := 55) (ls1 := [some (rv 3), some (.int (J x4)), some (.int (J x5)), none, none, none]) rfl rfl rfl rfl ?_
      refine r_aldn (pc1 := 56) rfl rfl rfl ?_
      refine r_dupR (pc1 := 57) rfl rfl ?_
      refine r_gfI (pc1 := 60) rfl rfl rfl t0 (lyk t0 rfl) rfl rfl ?_
      refine r_n (pc1 := 61) [.int (J x4), .int (J (hI h 3 7)), rv 3] _ rfl rfl ?_
      obtain ⟨J8, j8, w⟩ := w
      have Q8 : ∀ (x7 : Int), rg x7 → J8 x7 → RR sc goal fs 410 69 [some (rv 3), some (.int (J x4)), some (.int (J x5)), none, none, none] [.int (J x7), .int (J (hI h 3 7)), rv 3] h := by
        intro x7 rx7 z8
        have w := j8 x7 rx7 z8
        refine r_iadd (pc1 := 70) rfl rfl ?_
        refine r_pfI (pc1 := 73) rfl rfl rfl t0 (lyk t0 rfl) rfl rfl rfl (fun h9 eh9 t9 u9 => ?_)
        have w := w h9 eh9 t9 u9
        have s9 := HX_trans (HX_refl h) u9
        refine r_aldn (pc1 := 74) rfl rfl rfl ?_
        refine r_iv rfl rfl rfl rfl rfl rfl t9 (lyk t9 rfl) rfl (xe_of (xa_r xa_0) rfl rfl) (r_d0 hd rfl) (a_X5_readVersion  (r_d1 hd rfl)  w t9 (fun x10 h11 t11 u11 rx10 w => ?_))
        refine r_fI (pc1 := 77) rfl ?_
        have s11 := HX_trans s9 u11
        have w := w t11 u11
        have w := w rx10
        refine r_istn (pc1 := 78) (ls1 := [some (rv 3), some (.int (J x4)), some (.int (J x5)), some (.int (J x10)), none, none]) rfl rfl rfl rfl ?_
        refine r_n (pc1 := 79) [.int (J x10)] _ rfl rfl ?_
        refine r_n (pc1 := 80) [.int (J (-1)), .int (J x10)] _ rfl rfl ?_
        obtain ⟨J12, j12, w⟩ := w
        have Q12 : J12 → RR sc goal fs 410 95 [some (rv 3), some (.int (J x4)), some (.int (J x5)), some (.int (J x10)), none, none] [] h11 := by
          intro z12
          have w := j12 z12
          refine r_n (pc1 := 96) [.int (J x10)] _ rfl rfl ?_
          refine r_n (pc1 := 97) [.int (J (-1)), .int (J x10)] _ rfl rfl ?_
          obtain ⟨J15, j15, w⟩ := w
          have Q15 : ∀ (a13 : Nat) (h14 : XH), HT h14 → HX h h14 → J15 a13 h14 → RR sc goal fs 410 114 [some (rv 3), some (.int (J x4)), some (.int (J x5)), some (.int (J x10)), none, none] [rv a13] h14 := by
            intro a13 h14 t14 s14 z15
            have w := j15 a13 h14 t14 s14 z15
            exact r_retR rfl rfl rfl xok_O xokr_O (k _ _ t14 s14 w)
          refine r_ic (t := 104) (pc1 := 100) rfl rfl rfl rx10 (rgk rfl) (fun c19 => ?_) (fun c19 => ?_)
          · have w := w.1 c19
            refine r_new (pc1 := 107) rfl rfl rfl t11 (by decide) (fun a16 h17 ea16 eh17 t17 u17 ca16 => ?_)
            have w := w a16 h17 ea16 eh17 t17 u17 ca16
            have s17 := HX_trans s11 u17
            refine r_dupR (pc1 := 108) rfl rfl ?_
            refine r_n (pc1 := 109) [.int (J x5), rv a16, rv a16] _ rfl rfl ?_
            refine r_n (pc1 := 110) [.int (J x10), .int (J x5), rv a16, rv a16] _ rfl rfl ?_
            refine r_n (pc1 := 111) [.int (J x10), .int (J x10), .int (J x5), rv a16, rv a16] _ rfl rfl ?_
            refine r_ip rfl rfl rfl rfl rfl rfl t17 ca16 rfl (xe_of (xa_r (xa_i (xa_i (xa_i xa_0)))) rfl rfl) (r_d0 hd rfl) (a_X10_init a16 x5 x10 x10 (r_d1 hd rfl) ca16 rx5 rx10 rx10 w t17 (fun h18 t18 u18 w => ?_))
            refine r_fV (pc1 := 114) rfl ?_
            have s18 := HX_trans s17 u18
            have w := w t18 u18
            exact Q15  a16 h18 t18 s18  w
          · have w := w.2 c19
            refine r_n (pc1 := 101) [rv 0] _ rfl rfl ?_
            refine r_goto (t := 114) rfl rfl ?_
            exact Q15  0 h11 t11 s11  w
        refine r_ic (t := 95) (pc1 := 83) rfl rfl rfl rx10 (rgk rfl) (fun c41 => ?_) (fun c41 => ?_)
        · have w := w.1 c41
          exact Q12     w
        · have w := w.2 c41
          refine r_n (pc1 := 84) [.int (J x4)] _ rfl rfl ?_
          refine r_iz (t := 95) (pc1 := 87) rfl rfl rfl rx4 (fun c40 => ?_) (fun c40 => ?_)
          · have w := w.1 c40
            exact Q12     w
          · have w := w.2 c40
            refine r_aldn (pc1 := 88) rfl rfl rfl ?_
            refine r_n (pc1 := 89) [.int (J 4), rv 3] _ rfl rfl ?_
            refine r_iv rfl rfl rfl rfl rfl rfl t11 (lyk t11 rfl) rfl (xe_of (xa_r (xa_i xa_0)) rfl rfl) (r_d0 hd rfl) (a_X5_isNext 4 (r_d1 hd rfl) (rgk rfl) w t11 (fun x20 rx20 vx20 w => ?_))
            refine r_fI (pc1 := 92) rfl ?_
            have w := w rx20 vx20
            refine r_iz (t := 115) (pc1 := 95) rfl rfl rfl rx20 (fun c39 => ?_) (fun c39 => ?_)
            · have w := w.1 c39
              refine r_aldn (pc1 := 116) rfl rfl rfl ?_
              refine r_gfC (pc1 := 119) (q := 6) rfl rfl rfl t11 (lyk t11 rfl) rfl rfl (lyR t11 rfl rfl) ?_
              refine r_aldn (pc1 := 120) rfl rfl rfl ?_
              refine r_gfI (pc1 := 123) rfl rfl rfl t11 (lyk t11 rfl) rfl rfl ?_
              refine r_vI (rgh _ _ _) (fun x21 ex21 rx21 => ?_)
              have w := w x21 ex21 rx21
              obtain ⟨c22, w⟩ := w
              refine r_ial (pc1 := 124) rfl rfl t11 (lyk t11 rfl) rx21 c22.1 (lt_len (lyn t11 rfl) c22.2) ?_
              refine r_vI (rgh _ _ _) (fun x23 ex23 rx23 => ?_)
              have w := w x23 ex23 rx23
              refine r_ist (pc1 := 126) (ls1 := [some (rv 3), some (.int (J x4)), some (.int (J x5)), some (.int (J x10)), some (.int (J x23)), none]) rfl rfl rfl rfl ?_
              refine r_aldn (pc1 := 127) rfl rfl rfl ?_
              refine r_dupR (pc1 := 128) rfl rfl ?_
              refine r_gfI (pc1 := 131) rfl rfl rfl t11 (lyk t11 rfl) rfl rfl ?_
              refine r_n (pc1 := 132) [.int (J 1), .int (J (hI h11 3 7)), rv 3] _ rfl rfl ?_
              refine r_iadd (pc1 := 133) rfl rfl ?_
              refine r_pfI (pc1 := 136) rfl rfl rfl t11 (lyk t11 rfl) rfl rfl rfl (fun h24 eh24 t24 u24 => ?_)
              have w := w h24 eh24 t24 u24
              have s24 := HX_trans s11 u24
              refine r_aldn (pc1 := 137) rfl rfl rfl ?_
              refine r_iv rfl rfl rfl rfl rfl rfl t24 (lyk t24 rfl) rfl (xe_of (xa_r xa_0) rfl rfl) (r_d0 hd rfl) (a_X5_readVersion  (r_d1 hd rfl)  w t24 (fun x25 h26 t26 u26 rx25 w => ?_))
              refine r_fI (pc1 := 140) rfl ?_
              have s26 := HX_trans s24 u26
              have w := w t26 u26
              have w := w rx25
              refine r_ist (pc1 := 142) (ls1 := [some (rv 3), some (.int (J x4)), some (.int (J x5)), some (.int (J x10)), some (.int (J x23)), some (.int (J x25))]) rfl rfl rfl rfl ?_
              refine r_n (pc1 := 144) [.int (J x25)] _ rfl rfl ?_
              refine r_n (pc1 := 145) [.int (J (-1)), .int (J x25)] _ rfl rfl ?_
              obtain ⟨J28, j28, w⟩ := w
              have Q28 : ∀ (h27 : XH), HT h27 → HX h h27 → J28 h27 → RR sc goal fs 410 160 [some (rv 3), some (.int (J x4)), some (.int (J x5)), some (.int (J x10)), some (.int (J x23)), some (.int (J x25))] [] h27 := by
                intro h27 t27 s27 z28
                have w := j28 h27 t27 s27 z28
                refine r_n (pc1 := 162) [.int (J x25)] _ rfl rfl ?_
                refine r_n (pc1 := 163) [.int (J x10), .int (J x25)] _ rfl rfl ?_
                obtain ⟨J31, j31, w⟩ := w
                have Q31 : ∀ (a29 : Nat) (h30 : XH), HT h30 → HX h h30 → J31 a29 h30 → RR sc goal fs 410 182 [some (rv 3), some (.int (J x4)), some (.int (J x5)), some (.int (J x10)), some (.int (J x23)), some (.int (J x25))] [rv a29] h30 := by
                  intro a29 h30 t30 s30 z31
                  have w := j31 a29 h30 t30 s30 z31
                  exact r_retR rfl rfl rfl xok_O xokr_O (k _ _ t30 s30 w)
                refine r_ic (t := 170) (pc1 := 166) rfl rfl rfl rx25 rx10 (fun c35 => ?_) (fun c35 => ?_)
                · have w := w.1 c35
                  refine r_new (pc1 := 173) rfl rfl rfl t27 (by decide) (fun a32 h33 ea32 eh33 t33 u33 ca32 => ?_)
                  have w := w a32 h33 ea32 eh33 t33 u33 ca32
                  have s33 := HX_trans s27 u33
                  refine r_dupR (pc1 := 174) rfl rfl ?_
                  refine r_n (pc1 := 176) [.int (J 46), rv a32, rv a32] _ rfl rfl ?_
                  refine r_n (pc1 := 177) [.int (J x10), .int (J 46), rv a32, rv a32] _ rfl rfl ?_
                  refine r_n (pc1 := 179) [.int (J x25), .int (J x10), .int (J 46), rv a32, rv a32] _ rfl rfl ?_
                  refine r_ip rfl rfl rfl rfl rfl rfl t33 ca32 rfl (xe_of (xa_r (xa_i (xa_i (xa_i xa_0)))) rfl rfl) (r_d0 hd rfl) (a_X10_init a32 46 x10 x25 (r_d1 hd rfl) ca32 (rgk rfl) rx10 rx25 w t33 (fun h34 t34 u34 w => ?_))
                  refine r_fV (pc1 := 182) rfl ?_
                  have s34 := HX_trans s33 u34
                  have w := w t34 u34
                  exact Q31  a32 h34 t34 s34  w
                · have w := w.2 c35
                  refine r_n (pc1 := 167) [rv 0] _ rfl rfl ?_
                  refine r_goto (t := 182) rfl rfl ?_
                  exact Q31  0 h27 t27 s27  w
              refine r_ic (t := 160) (pc1 := 148) rfl rfl rfl rx25 (rgk rfl) (fun c38 => ?_) (fun c38 => ?_)
              · have w := w.1 c38
                exact Q28   h26 t26 s26  w
              · have w := w.2 c38
                refine r_n (pc1 := 150) [.int (J x25)] _ rfl rfl ?_
                refine r_n (pc1 := 151) [.int (J x10), .int (J x25)] _ rfl rfl ?_
                refine r_ic (t := 160) (pc1 := 154) rfl rfl rfl rx25 rx10 (fun c37 => ?_) (fun c37 => ?_)
                · have w := w.1 c37
                  exact Q28   h26 t26 s26  w
                · have w := w.2 c37
                  refine r_aldn (pc1 := 155) rfl rfl rfl ?_
                  refine r_n (pc1 := 157) [.int (J x23), rv 3] _ rfl rfl ?_
                  refine r_pfI (pc1 := 160) rfl rfl rfl t26 (lyk t26 rfl) rfl rfl rfl (fun h36 eh36 t36 u36 => ?_)
                  have w := w h36 eh36 t36 u36
                  have s36 := HX_trans s26 u36
                  exact Q28   h36 t36 s36  w
            · have w := w.2 c39
              exact Q12     w
      refine r_iz (t := 68) (pc1 := 64) rfl rfl rfl rx4 (fun c42 => ?_) (fun c42 => ?_)
      · have w := w.1 c42
        refine r_n (pc1 := 69) [.int (J 0), .int (J (hI h 3 7)), rv 3] _ rfl rfl ?_
        exact Q8  0  (rgk rfl) w
      · have w := w.2 c42
        refine r_n (pc1 := 65) [.int (J 1), .int (J (hI h 3 7)), rv 3] _ rfl rfl ?_
        refine r_goto (t := 69) rfl rfl ?_
        exact Q8  1  (rgk rfl) w
    refine r_iz (t := 52) (pc1 := 40) rfl rfl rfl rx4 (fun c45 => ?_) (fun c45 => ?_)
    · have w := w.1 c45
      refine r_n (pc1 := 54) [.int (J 61)] _ rfl rfl ?_
      exact Q6  61  (rgk rfl) w
    · have w := w.2 c45
      refine r_aldn (pc1 := 41) rfl rfl rfl ?_
      refine r_gfC (pc1 := 44) (q := 5) rfl rfl rfl t0 (lyk t0 rfl) rfl rfl (lyR t0 rfl rfl) ?_
      refine r_aldn (pc1 := 45) rfl rfl rfl ?_
      refine r_gfI (pc1 := 48) rfl rfl rfl t0 (lyk t0 rfl) rfl rfl ?_
      refine r_vI (rgh _ _ _) (fun x43 ex43 rx43 => ?_)
      have w := w x43 ex43 rx43
      obtain ⟨c44, w⟩ := w
      refine r_ial (pc1 := 49) rfl rfl t0 (lyk t0 rfl) rx43 c44.1 (lt_len (lyn t0 rfl) c44.2) ?_
      refine r_goto (t := 54) rfl rfl ?_
      exact Q6  (hI h 5 x43.toNat)  (rgh _ _ _) w
  · have w := w.2 c49
    refine r_aldn (pc1 := 10) rfl rfl rfl ?_
    refine r_dupR (pc1 := 11) rfl rfl ?_
    refine r_gfI (pc1 := 14) rfl rfl rfl t0 (lyk t0 rfl) rfl rfl ?_
    refine r_n (pc1 := 15) [.int (J 1), .int (J (hI h 3 7)), rv 3] _ rfl rfl ?_
    refine r_iadd (pc1 := 16) rfl rfl ?_
    refine r_pfI (pc1 := 19) rfl rfl rfl t0 (lyk t0 rfl) rfl rfl rfl (fun h46 eh46 t46 u46 => ?_)
    have w := w h46 eh46 t46 u46
    have s46 := HX_trans (HX_refl h) u46
    refine r_iq rfl rfl rfl rfl rfl rfl (xe_of xa_0 rfl rfl) (r_d0 hd rfl) (a_X10_any  (r_d1 hd rfl)  w t46 (fun a47 h48 t48 u48 w => ?_))
    refine r_fR (pc1 := 22) rfl ?_
    have s48 := HX_trans s46 u48
    have w := w t48 u48
    exact r_retR rfl rfl rfl xok_O xokr_O (k _ _ t48 s48 w)
