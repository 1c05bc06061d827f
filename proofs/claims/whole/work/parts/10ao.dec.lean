/-! printed by dec.py: what each method wants, and that the machine keeps it -/ 
def w_X14_putRoot (p0 : Int) (p1 : Int) (K : XH → Prop) (h : XH) : Prop :=
  ((0 ≤ wr ((wr (805 + (wr ((hI h 438 1) * 291)))) + p0) ∧ wr ((wr (805 + (wr ((hI h 438 1) * 291)))) + p0) < 1957) ∧ ∀ h2 : XH, h2 = sI h 438 (wr ((wr (805 + (wr ((hI h 438 1) * 291)))) + p0)).toNat p1 → HT h2 → HX h h2 → K h2)
set_option maxHeartbeats 4000000 in
theorem a_X14_putRoot {sc : Nat × (Nat → Int32)} {goal : XO → XH → Prop} {fs : List XF} {h : XH} (p0 : Int) (p1 : Int) {K : XH → Prop} (hd : fs.length + 0 ≤ 1000) (rp0 : rg p0) (rp1 : rg p1) (w : w_X14_putRoot p0 p1 K h) (t0 : HT h) (k : ∀ (h1 : XH), HT h1 → HX h h1 → K h1 → XFin xP sc goal fs (.inl none) h1) : RR sc goal fs 278 0 [some (rv 437), some (.int (J p0)), some (.int (J p1))] [] h := by
  unfold w_X14_putRoot at w
  refine r_aldn (pc1 := 1) rfl rfl rfl ?_
  refine r_gfC (pc1 := 4) (q := 438) rfl rfl rfl t0 (lyk t0 rfl) rfl rfl (lyR t0 rfl rfl) ?_
  refine r_n (pc1 := 7) [.int (J 805), rv 438] _ rfl rfl ?_
  refine r_aldn (pc1 := 8) rfl rfl rfl ?_
  refine r_gfC (pc1 := 11) (q := 438) rfl rfl rfl t0 (lyk t0 rfl) rfl rfl (lyR t0 rfl rfl) ?_
  refine r_n (pc1 := 12) [.int (J 1), rv 438, .int (J 805), rv 438] _ rfl rfl ?_
  refine r_ial (pc1 := 13) rfl rfl t0 (lyk t0 rfl) (rgk rfl) (by decide) (lt_len (lyn t0 rfl) (by decide)) ?_
  refine r_n (pc1 := 16) [.int (J 291), .int (J (hI h 438 1)), .int (J 805), rv 438] _ rfl rfl ?_
  refine r_imul (pc1 := 17) rfl rfl ?_
  refine r_iadd (pc1 := 18) rfl rfl ?_
  refine r_n (pc1 := 19) [.int (J p0), .int (J (wr (805 + (wr ((hI h 438 1) * 291))))), rv 438] _ rfl rfl ?_
  refine r_iadd (pc1 := 20) rfl rfl ?_
  refine r_n (pc1 := 21) [.int (J p1), .int (J (wr ((wr (805 + (wr ((hI h 438 1) * 291)))) + p0))), rv 438] _ rfl rfl ?_
  obtain ⟨c1, w⟩ := w
  refine r_iast (pc1 := 22) rfl rfl t0 (lyk t0 rfl) (rgw _) c1.1 (lt_len (lyn t0 rfl) c1.2) (fun h2 eh2 t2 u2 => ?_)
  have w := w h2 eh2 t2 u2
  have s2 := HX_trans (HX_refl h) u2
  exact r_retV rfl rfl rfl (k _ t2 s2 w)
def w_X14_wish  (K : Int → XH → Prop) (h : XH) : Prop :=
  (∀ h1 : XH, h1 = sI h 437 5 0 → HT h1 → HX h h1 → w_X14_rootAt 0 (fun x2 => rg x2 → (∃ J4 : Int → Prop, (∀ (x3 : Int), rg x3 → J4 x3 → (w_X14_refused x3 1 (fun x5 h6 => HT h6 → HX h1 h6 → rg x5 → (x5 = 0 ∨ x5 = 1) → (((x5 = 0 → (w_X14_readNeed (fun a7 h8 => HT h8 → HX h6 h8 → (∃ J10 : Int → Prop, (∀ (x9 : Int), rg x9 → J10 x9 → (w_X14_refused x9 2 (fun x11 h12 => HT h12 → HX h8 h12 → rg x11 → (x11 = 0 ∨ x11 = 1) → (((x11 = 0 → (w_X14_record (fun h13 => HT h13 → HX h12 h13 → (w_X14_rootAt 0 (fun x14 => rg x14 → (w_X14_keep a7 (fun x15 h16 => HT h16 → HX h13 h16 → rg x15 → (w_X14_putRoot (wr (1 + x14)) x15 (fun h17 => HT h17 → HX h16 h17 → (w_X14_putRoot 0 (wr (x14 + 1)) (fun h18 => HT h18 → HX h17 h18 → (K x14 h18)) h17)) h16)) h13)) h13)) h12)) ∧ (¬ (x11 = 0) → (K 0 h12))))) h8)) ∧ ((a7 = 0 → (J10 0)) ∧ (¬ (a7 = 0) → (J10 1))))) h6)) ∧ (¬ (x5 = 0) → (K 0 h6))))) h1)) ∧ ((8 ≤ x2 → (J4 0)) ∧ (¬ (8 ≤ x2) → (J4 1))))) h1)
set_option maxHeartbeats 4000000 in
theorem a_X14_wish {sc : Nat × (Nat → Int32)} {goal : XO → XH → Prop} {fs : List XF} {h : XH}  {K : Int → XH → Prop} (hd : fs.length + 8 ≤ 1000) (w : w_X14_wish  K h) (t0 : HT h) (k : ∀ (r : Int) (h1 : XH), HT h1 → HX h h1 → rg r → K r h1 → XFin xP sc goal fs (.inl (some (.int (J r)))) h1) : RR sc goal fs 322 0 [some (rv 437), none, none] [] h := by
  unfold w_X14_wish at w
  refine r_aldn (pc1 := 1) rfl rfl rfl ?_
  refine r_n (pc1 := 2) [.int (J 0), rv 437] _ rfl rfl ?_
  refine r_pfI (pc1 := 5) rfl rfl rfl t0 (lyk t0 rfl) rfl rfl rfl (fun h1 eh1 t1 u1 => ?_)
  have w := w h1 eh1 t1 u1
  have s1 := HX_trans (HX_refl h) u1
  refine r_aldn (pc1 := 6) rfl rfl rfl ?_
  refine r_aldn (pc1 := 7) rfl rfl rfl ?_
  refine r_n (pc1 := 8) [.int (J 0), rv 437, rv 437] _ rfl rfl ?_
  refine r_iv rfl rfl rfl rfl rfl rfl t1 (lyk t1 rfl) rfl (xe_of (xa_r (xa_i xa_0)) rfl rfl) (r_d0 hd rfl) (a_X14_rootAt 0 (r_d1 hd rfl) (rgk rfl) w t1 (fun x2 rx2 w => ?_))
  refine r_fI (pc1 := 11) rfl ?_
  have w := w rx2
  refine r_n (pc1 := 13) [.int (J 8), .int (J x2), rv 437] _ rfl rfl ?_
  obtain ⟨J4, j4, w⟩ := w
  have Q4 : ∀ (x3 : Int), rg x3 → J4 x3 → RR sc goal fs 322 21 [some (rv 437), none, none] [.int (J x3), rv 437] h1 := by
    intro x3 rx3 z4
    have w := j4 x3 rx3 z4
    refine r_n (pc1 := 22) [.int (J 1), .int (J x3), rv 437] _ rfl rfl ?_
    refine r_iv rfl rfl rfl rfl rfl rfl t1 (lyk t1 rfl) rfl (xe_of (xa_r (xa_i (xa_i xa_0))) rfl rfl) (r_d0 hd rfl) (a_X14_refused x3 1 (r_d1 hd rfl) rx3 (rgk rfl) w t1 (fun x5 h6 t6 u6 rx5 vx5 w => ?_))
    refine r_fI (pc1 := 25) rfl ?_
    have s6 := HX_trans s1 u6
    have w := w t6 u6
    have w := w rx5 vx5
    refine r_iz (t := 30) (pc1 := 28) rfl rfl rfl rx5 (fun c21 => ?_) (fun c21 => ?_)
    · have w := w.1 c21
      refine r_aldn (pc1 := 31) rfl rfl rfl ?_
      refine r_iv rfl rfl rfl rfl rfl rfl t6 (lyk t6 rfl) rfl (xe_of (xa_r xa_0) rfl rfl) (r_d0 hd rfl) (a_X14_readNeed  (r_d1 hd rfl)  w t6 (fun a7 h8 t8 u8 w => ?_))
      refine r_fR (pc1 := 34) rfl ?_
      have s8 := HX_trans s6 u8
      have w := w t8 u8
      refine r_astn (pc1 := 35) (ls1 := [some (rv 437), some (rv a7), none]) rfl rfl rfl rfl ?_
      refine r_aldn (pc1 := 36) rfl rfl rfl ?_
      refine r_aldn (pc1 := 37) rfl rfl rfl ?_
      obtain ⟨J10, j10, w⟩ := w
      have Q10 : ∀ (x9 : Int), rg x9 → J10 x9 → RR sc goal fs 322 45 [some (rv 437), some (rv a7), none] [.int (J x9), rv 437] h8 := by
        intro x9 rx9 z10
        have w := j10 x9 rx9 z10
        refine r_n (pc1 := 46) [.int (J 2), .int (J x9), rv 437] _ rfl rfl ?_
        refine r_iv rfl rfl rfl rfl rfl rfl t8 (lyk t8 rfl) rfl (xe_of (xa_r (xa_i (xa_i xa_0))) rfl rfl) (r_d0 hd rfl) (a_X14_refused x9 2 (r_d1 hd rfl) rx9 (rgk rfl) w t8 (fun x11 h12 t12 u12 rx11 vx11 w => ?_))
        refine r_fI (pc1 := 49) rfl ?_
        have s12 := HX_trans s8 u12
        have w := w t12 u12
        have w := w rx11 vx11
        refine r_iz (t := 54) (pc1 := 52) rfl rfl rfl rx11 (fun c19 => ?_) (fun c19 => ?_)
        · have w := w.1 c19
          refine r_aldn (pc1 := 55) rfl rfl rfl ?_
          refine r_iv rfl rfl rfl rfl rfl rfl t12 (lyk t12 rfl) rfl (xe_of (xa_r xa_0) rfl rfl) (r_d0 hd rfl) (a_X14_record  (r_d1 hd rfl)  w t12 (fun h13 t13 u13 w => ?_))
          refine r_fV (pc1 := 58) rfl ?_
          have s13 := HX_trans s12 u13
          have w := w t13 u13
          refine r_aldn (pc1 := 59) rfl rfl rfl ?_
          refine r_n (pc1 := 60) [.int (J 0), rv 437] _ rfl rfl ?_
          refine r_iv rfl rfl rfl rfl rfl rfl t13 (lyk t13 rfl) rfl (xe_of (xa_r (xa_i xa_0)) rfl rfl) (r_d0 hd rfl) (a_X14_rootAt 0 (r_d1 hd rfl) (rgk rfl) w t13 (fun x14 rx14 w => ?_))
          refine r_fI (pc1 := 63) rfl ?_
          have w := w rx14
          refine r_istn (pc1 := 64) (ls1 := [some (rv 437), some (rv a7), some (.int (J x14))]) rfl rfl rfl (xput1_rv rfl rfl) ?_
          refine r_aldn (pc1 := 65) rfl rfl rfl ?_
          refine r_n (pc1 := 66) [.int (J 1), rv 437] _ rfl rfl ?_
          refine r_n (pc1 := 67) [.int (J x14), .int (J 1), rv 437] _ rfl rfl ?_
          refine r_iadd (pc1 := 68) rfl rfl ?_
          refine r_aldn (pc1 := 69) rfl rfl rfl ?_
          refine r_aldn (pc1 := 70) rfl rfl rfl ?_
          refine r_iv rfl rfl rfl rfl rfl rfl t13 (lyk t13 rfl) rfl (xe_of (xa_r (xa_r xa_0)) rfl rfl) (r_d0 hd rfl) (a_X14_keep a7 (r_d1 hd rfl)  w t13 (fun x15 h16 t16 u16 rx15 w => ?_))
          refine r_fI (pc1 := 73) rfl ?_
          have s16 := HX_trans s13 u16
          have w := w t16 u16
          have w := w rx15
          refine r_iv rfl rfl rfl rfl rfl rfl t16 (lyk t16 rfl) rfl (xe_of (xa_r (xa_i (xa_i xa_0))) rfl rfl) (r_d0 hd rfl) (a_X14_putRoot (wr (1 + x14)) x15 (r_d1 hd rfl) (rgw _) rx15 w t16 (fun h17 t17 u17 w => ?_))
          refine r_fV (pc1 := 76) rfl ?_
          have s17 := HX_trans s16 u17
          have w := w t17 u17
          refine r_aldn (pc1 := 77) rfl rfl rfl ?_
          refine r_n (pc1 := 78) [.int (J 0), rv 437] _ rfl rfl ?_
          refine r_n (pc1 := 79) [.int (J x14), .int (J 0), rv 437] _ rfl rfl ?_
          refine r_n (pc1 := 80) [.int (J 1), .int (J x14), .int (J 0), rv 437] _ rfl rfl ?_
          refine r_iadd (pc1 := 81) rfl rfl ?_
          refine r_iv rfl rfl rfl rfl rfl rfl t17 (lyk t17 rfl) rfl (xe_of (xa_r (xa_i (xa_i xa_0))) rfl rfl) (r_d0 hd rfl) (a_X14_putRoot 0 (wr (x14 + 1)) (r_d1 hd rfl) (rgk rfl) (rgw _) w t17 (fun h18 t18 u18 w => ?_))
          refine r_fV (pc1 := 84) rfl ?_
          have s18 := HX_trans s17 u18
          have w := w t18 u18
          refine r_n (pc1 := 85) [.int (J x14)] _ rfl rfl ?_
          exact r_retI rfl rfl rfl (k _ _ t18 s18 rx14 w)
        · have w := w.2 c19
          refine r_n (pc1 := 53) [.int (J 0)] _ rfl rfl ?_
          exact r_retI rfl rfl rfl (k _ _ t12 s12 (rgk rfl) w)
      refine r_null (t := 44) (pc1 := 40) rfl rfl rfl (fun c20 => ?_) (fun c20 => ?_)
      · have w := w.1 c20
        refine r_n (pc1 := 45) [.int (J 0), rv 437] _ rfl rfl ?_
        exact Q10  0  (rgk rfl) w
      · have w := w.2 c20
        refine r_n (pc1 := 41) [.int (J 1), rv 437] _ rfl rfl ?_
        refine r_goto (t := 45) rfl rfl ?_
        exact Q10  1  (rgk rfl) w
    · have w := w.2 c21
      refine r_n (pc1 := 29) [.int (J 0)] _ rfl rfl ?_
      exact r_retI rfl rfl rfl (k _ _ t6 s6 (rgk rfl) w)
  refine r_ic (t := 20) (pc1 := 16) rfl rfl rfl rx2 (rgk rfl) (fun c22 => ?_) (fun c22 => ?_)
  · have w := w.1 c22
    refine r_n (pc1 := 21) [.int (J 0), rv 437] _ rfl rfl ?_
    exact Q4  0  (rgk rfl) w
  · have w := w.2 c22
    refine r_n (pc1 := 17) [.int (J 1), rv 437] _ rfl rfl ?_
    refine r_goto (t := 21) rfl rfl ?_
    exact Q4  1  (rgk rfl) w
def w_X12_unwish (p0 : Int) (K : Int → XH → Prop) (E : Nat → XH → Prop) (h : XH) : Prop :=
  (w_X11_atHand (fun a1 => (∃ J2 : Prop, (J2 → (E 2 (nT h))) ∧ ((p0 < 0 → J2) ∧ (¬ (p0 < 0) → (hk h a1 = 7 ∧ ((hI h a1 0 ≤ p0 → J2) ∧ (¬ (hI h a1 0 ≤ p0) → ((0 ≤ p0 ∧ p0 < 8) ∧ ((¬ hR h (a1 + 1) p0.toNat = 0 → (w_X12_remember (fun h5 => HT h5 → HX h h5 → (∀ h6 : XH, h6 = sR h5 (a1 + 1) p0.toNat 0 → HT h6 → HX h5 h6 → w_X6_wishesLeft a1 (fun x7 => rg x7 → (K x7 h6)) h6)) h)) ∧ (¬ (¬ hR h (a1 + 1) p0.toNat = 0) → J2)))))))))) h)
set_option maxHeartbeats 4000000 in
theorem a_X12_unwish {sc : Nat × (Nat → Int32)} {goal : XO → XH → Prop} {fs : List XF} {h : XH} (p0 : Int) {K : Int → XH → Prop} {E : Nat → XH → Prop} (hd : fs.length + 4 ≤ 1000) (rp0 : rg p0) (w : w_X12_unwish p0 K E h) (t0 : HT h) (k : ∀ (r : Int) (h1 : XH), HT h1 → HX h h1 → rg r → K r h1 → XFin xP sc goal fs (.inl (some (.int (J r)))) h1) (kE : ∀ (x : Nat) (h1 : XH), HT h1 → HX h h1 → E x h1 → XFin xP sc goal fs (.inr x) h1) : RR sc goal fs 158 0 [some (rv 2), some (.int (J p0)), none] [] h := by
  unfold w_X12_unwish at w
  refine r_aldn (pc1 := 1) rfl rfl rfl ?_
  refine r_gfC (pc1 := 4) (q := 8) rfl rfl rfl t0 (lyk t0 rfl) rfl rfl (lyR t0 rfl rfl) ?_
  refine r_iv rfl rfl rfl rfl rfl rfl t0 (lyk t0 rfl) rfl (xe_of (xa_r xa_0) rfl rfl) (r_d0 hd rfl) (a_X11_atHand  (r_d1 hd rfl)  w t0 (fun a1 w => ?_))
  refine r_fR (pc1 := 7) rfl ?_
  refine r_astn (pc1 := 8) (ls1 := [some (rv 2), some (.int (J p0)), some (rv a1)]) rfl rfl rfl rfl ?_
  refine r_n (pc1 := 9) [.int (J p0)] _ rfl rfl ?_
  obtain ⟨J2, j2, w⟩ := w
  have Q2 : J2 → RR sc goal fs 158 29 [some (rv 2), some (.int (J p0)), some (rv a1)] [] h := by
    intro z2
    have w := j2 z2
    exact r_thr rfl rfl rfl rfl rfl rfl (kE _ _ (HT_nT t0).1 (HX_trans (HX_refl h) (HT_nT t0).2) w)
  refine r_iz (t := 29) (pc1 := 12) rfl rfl rfl rp0 (fun c10 => ?_) (fun c10 => ?_)
  · have w := w.1 c10
    exact Q2     w
  · have w := w.2 c10
    refine r_n (pc1 := 13) [.int (J p0)] _ rfl rfl ?_
    refine r_aldn (pc1 := 14) rfl rfl rfl ?_
    obtain ⟨c3, w⟩ := w
    refine r_gfI (pc1 := 17) rfl rfl rfl t0 c3 rfl rfl ?_
    refine r_ic (t := 29) (pc1 := 20) rfl rfl rfl rp0 (rgh _ _ _) (fun c9 => ?_) (fun c9 => ?_)
    · have w := w.1 c9
      exact Q2     w
    · have w := w.2 c9
      refine r_aldn (pc1 := 21) rfl rfl rfl ?_
      refine r_gfC (pc1 := 24) (q := (a1 + 1)) rfl rfl rfl t0 c3 rfl rfl (lyr_7_1 t0 c3) ?_
      refine r_n (pc1 := 25) [.int (J p0), rv (a1 + 1)] _ rfl rfl ?_
      obtain ⟨c4, w⟩ := w
      refine r_aal (pc1 := 26) (u := 3) rfl rfl t0 (lyo_7_1 t0 c3).1 rfl rfl rp0 c4.1 (lt_len (lyo_7_1 t0 c3).2 c4.2) ?_
      refine r_nonnull (t := 40) (pc1 := 29) rfl rfl rfl (fun c8 => ?_) (fun c8 => ?_)
      · have w := w.1 c8
        refine r_aldn (pc1 := 41) rfl rfl rfl ?_
        refine r_iv rfl rfl rfl rfl rfl rfl t0 (lyk t0 rfl) rfl (xe_of (xa_r xa_0) rfl rfl) (r_d0 hd rfl) (a_X12_remember  (r_d1 hd rfl)  w t0 (fun h5 t5 u5 w => ?_))
        refine r_fV (pc1 := 44) rfl ?_
        have s5 := HX_trans (HX_refl h) u5
        have w := w t5 u5
        refine r_aldn (pc1 := 45) rfl rfl rfl ?_
        refine r_gfC (pc1 := 48) (q := (a1 + 1)) rfl rfl rfl t5 (HXk u5 c3 rfl) rfl rfl (lyr_7_1 t5 (HXk u5 c3 rfl)) ?_
        refine r_n (pc1 := 49) [.int (J p0), rv (a1 + 1)] _ rfl rfl ?_
        refine r_n (pc1 := 50) [rv 0, .int (J p0), rv (a1 + 1)] _ rfl rfl ?_
        refine r_aast (pc1 := 51) (u := 3) rfl rfl t5 (lyo_7_1 t5 (HXk u5 c3 rfl)).1 (.inl rfl) (.inl rfl) rp0 c4.1 (lt_len (lyo_7_1 t5 (HXk u5 c3 rfl)).2 c4.2) (fun h6 eh6 t6 u6 => ?_)
        have w := w h6 eh6 t6 u6
        have s6 := HX_trans s5 u6
        refine r_aldn (pc1 := 52) rfl rfl rfl ?_
        refine r_iv rfl rfl rfl rfl rfl rfl t6 (HXk u6 (HXk u5 c3 rfl) rfl) rfl (xe_of (xa_r xa_0) rfl rfl) (r_d0 hd rfl) (a_X6_wishesLeft a1 (r_d1 hd rfl) (HXk u6 (HXk u5 c3 rfl) rfl)  w t6 (fun x7 rx7 w => ?_))
        refine r_fI (pc1 := 55) rfl ?_
        have w := w rx7
        exact r_retI rfl rfl rfl (k _ _ t6 s6 rx7 w)
      · have w := w.2 c8
        exact Q2     w
def w_L_unwish (p1 : Int) (K : Int → XH → Prop) (h : XH) : Prop :=
  (w_X12_unwish p1 (fun x1 h2 => HT h2 → HX h h2 → rg x1 → (∀ h5 : XH, h5 = sL h2 467 0 (i2l x1) → HT h5 → HX h2 h5 → (K 0 h5))) (fun y4 h3 => ((y4 = 2 ∧ K 1 h3))) h)
set_option maxHeartbeats 4000000 in
theorem a_L_unwish {sc : Nat × (Nat → Int32)} {goal : XO → XH → Prop} {fs : List XF} {h : XH} (p1 : Int) {K : Int → XH → Prop} (hd : fs.length + 5 ≤ 1000) (rp1 : rg p1) (w : w_L_unwish p1 K h) (t0 : HT h) (k : ∀ (r : Int) (h1 : XH), HT h1 → HX h h1 → rg r → K r h1 → XFin xP sc goal fs (.inl (some (.int (J r)))) h1) : RR sc goal fs 64 0 [some (rv 2), some (.int (J p1)), some (rv 467), none] [] h := by
  unfold w_L_unwish at w
  refine r_aldn (pc1 := 1) rfl rfl rfl ?_
  refine r_n (pc1 := 2) [.int (J 0), rv 467] _ rfl rfl ?_
  refine r_aldn (pc1 := 3) rfl rfl rfl ?_
  refine r_n (pc1 := 4) [.int (J p1), rv 2, .int (J 0), rv 467] _ rfl rfl ?_
  refine r_iv rfl rfl rfl rfl rfl rfl t0 (lyk t0 rfl) rfl (xe_of (xa_r (xa_i xa_0)) rfl rfl) (r_d0 hd rfl) (a_X12_unwish p1 (r_d1 hd rfl) rp1 w t0 (fun x1 h2 t2 u2 rx1 w => ?_) (fun y4 h3 ty uy w => ?_))
  · refine r_fI (pc1 := 7) rfl ?_
    have s2 := HX_trans (HX_refl h) u2
    have w := w t2 u2
    have w := w rx1
    refine r_i2l (pc1 := 8) rfl rfl ?_
    refine r_last (pc1 := 9) rfl rfl t2 (lyk t2 rfl) (rgk rfl) (by decide) (lt_len (lyn t2 rfl) (by decide)) (fun h5 eh5 t5 u5 => ?_)
    have w := w h5 eh5 t5 u5
    have s5 := HX_trans s2 u5
    refine r_goto (t := 15) rfl rfl ?_
    refine r_n (pc1 := 16) [.int (J 0)] _ rfl rfl ?_
    exact r_retI rfl rfl rfl (k _ _ t5 s5 (rgk rfl) w)
  · obtain ⟨rfl, w⟩ := w
    exact r_fink (z := 1) rfl (by decide) rfl rfl (k _ _ ty (HX_trans (HX_refl h) uy) (rgk rfl) w)
def w_X14_unwish (p0 : Int) (K : Int → XH → Prop) (h : XH) : Prop :=
  (∀ h1 : XH, h1 = sI h 437 5 0 → HT h1 → HX h h1 → w_X14_rootAt 0 (fun x2 => rg x2 → (w_X14_within p0 0 (wr (x2 - 1)) (fun x3 => rg x3 → (x3 = 0 ∨ x3 = 1) → (∃ J5 : Int → Prop, (∀ (x4 : Int), rg x4 → J5 x4 → (w_X14_refused x4 1 (fun x6 h7 => HT h7 → HX h1 h7 → rg x6 → (x6 = 0 ∨ x6 = 1) → (((x6 = 0 → (w_X14_record (fun h8 => HT h8 → HX h7 h8 → (w_X14_putRoot (wr (1 + p0)) (-1) (fun h9 => HT h9 → HX h8 h9 → (w_X14_wishesLeft (fun x10 => rg x10 → (K x10 h9)) h9)) h8)) h7)) ∧ (¬ (x6 = 0) → (K 0 h7))))) h1)) ∧ ∃ J12 : Prop, (J12 → (J5 0)) ∧ ((x3 = 0 → J12) ∧ (¬ (x3 = 0) → (w_X14_wishAt p0 (fun a13 => (((a13 = 0 → J12) ∧ (¬ (a13 = 0) → (J5 1))))) h1))))) h1)) h1)
set_option maxHeartbeats 4000000 in
theorem a_X14_unwish {sc : Nat × (Nat → Int32)} {goal : XO → XH → Prop} {fs : List XF} {h : XH} (p0 : Int) {K : Int → XH → Prop} (hd : fs.length + 3 ≤ 1000) (rp0 : rg p0) (w : w_X14_unwish p0 K h) (t0 : HT h) (k : ∀ (r : Int) (h1 : XH), HT h1 → HX h h1 → rg r → K r h1 → XFin xP sc goal fs (.inl (some (.int (J r)))) h1) : RR sc goal fs 315 0 [some (rv 437), some (.int (J p0))] [] h := by
  unfold w_X14_unwish at w
  refine r_aldn (pc1 := 1) rfl rfl rfl ?_
  refine r_n (pc1 := 2) [.int (J 0), rv 437] _ rfl rfl ?_
  refine r_pfI (pc1 := 5) rfl rfl rfl t0 (lyk t0 rfl) rfl rfl rfl (fun h1 eh1 t1 u1 => ?_)
  have w := w h1 eh1 t1 u1
  have s1 := HX_trans (HX_refl h) u1
  refine r_aldn (pc1 := 6) rfl rfl rfl ?_
  refine r_n (pc1 := 7) [.int (J p0), rv 437] _ rfl rfl ?_
  refine r_n (pc1 := 8) [.int (J 0), .int (J p0), rv 437] _ rfl rfl ?_
  refine r_aldn (pc1 := 9) rfl rfl rfl ?_
  refine r_n (pc1 := 10) [.int (J 0), rv 437, .int (J 0), .int (J p0), rv 437] _ rfl rfl ?_
  refine r_iv rfl rfl rfl rfl rfl rfl t1 (lyk t1 rfl) rfl (xe_of (xa_r (xa_i xa_0)) rfl rfl) (r_d0 hd rfl) (a_X14_rootAt 0 (r_d1 hd rfl) (rgk rfl) w t1 (fun x2 rx2 w => ?_))
  refine r_fI (pc1 := 13) rfl ?_
  have w := w rx2
  refine r_n (pc1 := 14) [.int (J 1), .int (J x2), .int (J 0), .int (J p0), rv 437] _ rfl rfl ?_
  refine r_isub (pc1 := 15) rfl rfl ?_
  refine r_iq rfl rfl rfl rfl rfl rfl (xe_of (xa_i (xa_i (xa_i xa_0))) rfl rfl) (r_d0 hd rfl) (a_X14_within p0 0 (wr (x2 - 1)) (r_d1 hd rfl) rp0 (rgk rfl) (rgw _) w t1 (fun x3 rx3 vx3 w => ?_))
  refine r_fI (pc1 := 18) rfl ?_
  have w := w rx3 vx3
  obtain ⟨J5, j5, w⟩ := w
  have Q5 : ∀ (x4 : Int), rg x4 → J5 x4 → RR sc goal fs 315 34 [some (rv 437), some (.int (J p0))] [.int (J x4), rv 437] h1 := by
    intro x4 rx4 z5
    have w := j5 x4 rx4 z5
    refine r_n (pc1 := 35) [.int (J 1), .int (J x4), rv 437] _ rfl rfl ?_
    refine r_iv rfl rfl rfl rfl rfl rfl t1 (lyk t1 rfl) rfl (xe_of (xa_r (xa_i (xa_i xa_0))) rfl rfl) (r_d0 hd rfl) (a_X14_refused x4 1 (r_d1 hd rfl) rx4 (rgk rfl) w t1 (fun x6 h7 t7 u7 rx6 vx6 w => ?_))
    refine r_fI (pc1 := 38) rfl ?_
    have s7 := HX_trans s1 u7
    have w := w t7 u7
    have w := w rx6 vx6
    refine r_iz (t := 43) (pc1 := 41) rfl rfl rfl rx6 (fun c11 => ?_) (fun c11 => ?_)
    · have w := w.1 c11
      refine r_aldn (pc1 := 44) rfl rfl rfl ?_
      refine r_iv rfl rfl rfl rfl rfl rfl t7 (lyk t7 rfl) rfl (xe_of (xa_r xa_0) rfl rfl) (r_d0 hd rfl) (a_X14_record  (r_d1 hd rfl)  w t7 (fun h8 t8 u8 w => ?_))
      refine r_fV (pc1 := 47) rfl ?_
      have s8 := HX_trans s7 u8
      have w := w t8 u8
      refine r_aldn (pc1 := 48) rfl rfl rfl ?_
      refine r_n (pc1 := 49) [.int (J 1), rv 437] _ rfl rfl ?_
      refine r_n (pc1 := 50) [.int (J p0), .int (J 1), rv 437] _ rfl rfl ?_
      refine r_iadd (pc1 := 51) rfl rfl ?_
      refine r_n (pc1 := 52) [.int (J (-1)), .int (J (wr (1 + p0))), rv 437] _ rfl rfl ?_
      refine r_iv rfl rfl rfl rfl rfl rfl t8 (lyk t8 rfl) rfl (xe_of (xa_r (xa_i (xa_i xa_0))) rfl rfl) (r_d0 hd rfl) (a_X14_putRoot (wr (1 + p0)) (-1) (r_d1 hd rfl) (rgw _) (rgk rfl) w t8 (fun h9 t9 u9 w => ?_))
      refine r_fV (pc1 := 55) rfl ?_
      have s9 := HX_trans s8 u9
      have w := w t9 u9
      refine r_aldn (pc1 := 56) rfl rfl rfl ?_
      refine r_iv rfl rfl rfl rfl rfl rfl t9 (lyk t9 rfl) rfl (xe_of (xa_r xa_0) rfl rfl) (r_d0 hd rfl) (a_X14_wishesLeft  (r_d1 hd rfl)  w t9 (fun x10 rx10 w => ?_))
      refine r_fI (pc1 := 59) rfl ?_
      have w := w rx10
      exact r_retI rfl rfl rfl (k _ _ t9 s9 rx10 w)
    · have w := w.2 c11
      refine r_n (pc1 := 42) [.int (J 0)] _ rfl rfl ?_
      exact r_retI rfl rfl rfl (k _ _ t7 s7 (rgk rfl) w)
  obtain ⟨J12, j12, w⟩ := w
  have Q12 : J12 → RR sc goal fs 315 33 [some (rv 437), some (.int (J p0))] [rv 437] h1 := by
    intro z12
    have w := j12 z12
    refine r_n (pc1 := 34) [.int (J 0), rv 437] _ rfl rfl ?_
    exact Q5  0  (rgk rfl) w
  refine r_iz (t := 33) (pc1 := 21) rfl rfl rfl rx3 (fun c15 => ?_) (fun c15 => ?_)
  · have w := w.1 c15
    exact Q12     w
  · have w := w.2 c15
    refine r_aldn (pc1 := 22) rfl rfl rfl ?_
    refine r_n (pc1 := 23) [.int (J p0), rv 437, rv 437] _ rfl rfl ?_
    refine r_iv rfl rfl rfl rfl rfl rfl t1 (lyk t1 rfl) rfl (xe_of (xa_r (xa_i xa_0)) rfl rfl) (r_d0 hd rfl) (a_X14_wishAt p0 (r_d1 hd rfl) rp0 w t1 (fun a13 w => ?_))
    refine r_fR (pc1 := 26) rfl ?_
    refine r_null (t := 33) (pc1 := 29) rfl rfl rfl (fun c14 => ?_) (fun c14 => ?_)
    · have w := w.1 c14
      exact Q12     w
    · have w := w.2 c14
      refine r_n (pc1 := 30) [.int (J 1), rv 437] _ rfl rfl ?_
      refine r_goto (t := 34) rfl rfl ?_
      exact Q5  1  (rgk rfl) w
def w_X14_hold (p0 : Int) (p1 : Int) (K : Int → XH → Prop) (h : XH) : Prop :=
  (∀ h1 : XH, h1 = sI h 437 5 0 → HT h1 → HX h h1 → w_X14_isPack p0 (fun x2 => rg x2 → (x2 = 0 ∨ x2 = 1) → (w_X14_refused x2 1 (fun x3 h4 => HT h4 → HX h1 h4 → rg x3 → (x3 = 0 ∨ x3 = 1) → (((x3 = 0 → (w_X14_record (fun h5 => HT h5 → HX h4 h5 → (∃ J7 : Int → Prop, (∀ (x6 : Int), rg x6 → J7 x6 → (w_X14_putRoot 9 x6 (fun h8 => HT h8 → HX h5 h8 → (w_X14_rootAt 9 (fun x9 => rg x9 → (w_J6_bitCount_0f7a4 x9 (fun x10 => rg x10 → (K x10 h8)) h8)) h8)) h5)) ∧ ((p1 = 0 → (w_X14_rootAt 9 (fun x11 => rg x11 → (J7 (iand x11 (ixor (ishl 1 p0) (-1))))) h5)) ∧ (¬ (p1 = 0) → (w_X14_rootAt 9 (fun x12 => rg x12 → (J7 (ior x12 (ishl 1 p0)))) h5))))) h4)) ∧ (¬ (x3 = 0) → (K 0 h4))))) h1)) h1)
set_option maxHeartbeats 4000000 in
theorem a_X14_hold {sc : Nat × (Nat → Int32)} {goal : XO → XH → Prop} {fs : List XF} {h : XH} (p0 : Int) (p1 : Int) {K : Int → XH → Prop} (hd : fs.length + 2 ≤ 1000) (rp0 : rg p0) (rp1 : rg p1) (w : w_X14_hold p0 p1 K h) (t0 : HT h) (k : ∀ (r : Int) (h1 : XH), HT h1 → HX h h1 → rg r → K r h1 → XFin xP sc goal fs (.inl (some (.int (J r)))) h1) : RR sc goal fs 216 0 [some (rv 437), some (.int (J p0)), some (.int (J p1))] [] h := by
  unfold w_X14_hold at w
  refine r_aldn (pc1 := 1) rfl rfl rfl ?_
  refine r_n (pc1 := 2) [.int (J 0), rv 437] _ rfl rfl ?_
  refine r_pfI (pc1 := 5) rfl rfl rfl t0 (lyk t0 rfl) rfl rfl rfl (fun h1 eh1 t1 u1 => ?_)
  have w := w h1 eh1 t1 u1
  have s1 := HX_trans (HX_refl h) u1
  refine r_aldn (pc1 := 6) rfl rfl rfl ?_
  refine r_aldn (pc1 := 7) rfl rfl rfl ?_
  refine r_n (pc1 := 8) [.int (J p0), rv 437, rv 437] _ rfl rfl ?_
  refine r_iv rfl rfl rfl rfl rfl rfl t1 (lyk t1 rfl) rfl (xe_of (xa_r (xa_i xa_0)) rfl rfl) (r_d0 hd rfl) (a_X14_isPack p0 (r_d1 hd rfl) rp0 w t1 (fun x2 rx2 vx2 w => ?_))
  refine r_fI (pc1 := 11) rfl ?_
  have w := w rx2 vx2
  refine r_n (pc1 := 12) [.int (J 1), .int (J x2), rv 437] _ rfl rfl ?_
  refine r_iv rfl rfl rfl rfl rfl rfl t1 (lyk t1 rfl) rfl (xe_of (xa_r (xa_i (xa_i xa_0))) rfl rfl) (r_d0 hd rfl) (a_X14_refused x2 1 (r_d1 hd rfl) rx2 (rgk rfl) w t1 (fun x3 h4 t4 u4 rx3 vx3 w => ?_))
  refine r_fI (pc1 := 15) rfl ?_
  have s4 := HX_trans s1 u4
  have w := w t4 u4
  have w := w rx3 vx3
  refine r_iz (t := 20) (pc1 := 18) rfl rfl rfl rx3 (fun c14 => ?_) (fun c14 => ?_)
  · have w := w.1 c14
    refine r_aldn (pc1 := 21) rfl rfl rfl ?_
    refine r_iv rfl rfl rfl rfl rfl rfl t4 (lyk t4 rfl) rfl (xe_of (xa_r xa_0) rfl rfl) (r_d0 hd rfl) (a_X14_record  (r_d1 hd rfl)  w t4 (fun h5 t5 u5 w => ?_))
    refine r_fV (pc1 := 24) rfl ?_
    have s5 := HX_trans s4 u5
    have w := w t5 u5
    refine r_aldn (pc1 := 25) rfl rfl rfl ?_
    refine r_n (pc1 := 27) [.int (J 9), rv 437] _ rfl rfl ?_
    refine r_n (pc1 := 28) [.int (J p1), .int (J 9), rv 437] _ rfl rfl ?_
    obtain ⟨J7, j7, w⟩ := w
    have Q7 : ∀ (x6 : Int), rg x6 → J7 x6 → RR sc goal fs 216 56 [some (rv 437), some (.int (J p0)), some (.int (J p1))] [.int (J x6), .int (J 9), rv 437] h5 := by
      intro x6 rx6 z7
      have w := j7 x6 rx6 z7
      refine r_iv rfl rfl rfl rfl rfl rfl t5 (lyk t5 rfl) rfl (xe_of (xa_r (xa_i (xa_i xa_0))) rfl rfl) (r_d0 hd rfl) (a_X14_putRoot 9 x6 (r_d1 hd rfl) (rgk rfl) rx6 w t5 (fun h8 t8 u8 w => ?_))
      refine r_fV (pc1 := 59) rfl ?_
      have s8 := HX_trans s5 u8
      have w := w t8 u8
      refine r_aldn (pc1 := 60) rfl rfl rfl ?_
      refine r_n (pc1 := 62) [.int (J 9), rv 437] _ rfl rfl ?_
      refine r_iv rfl rfl rfl rfl rfl rfl t8 (lyk t8 rfl) rfl (xe_of (xa_r (xa_i xa_0)) rfl rfl) (r_d0 hd rfl) (a_X14_rootAt 9 (r_d1 hd rfl) (rgk rfl) w t8 (fun x9 rx9 w => ?_))
      refine r_fI (pc1 := 65) rfl ?_
      have w := w rx9
      refine r_iq rfl rfl rfl rfl rfl rfl (xe_of (xa_i xa_0) rfl rfl) (r_d0 hd rfl) (a_J6_bitCount_0f7a4 x9 (r_d1 hd rfl) rx9 w t8 (fun x10 rx10 w => ?_))
      refine r_fI (pc1 := 68) rfl ?_
      have w := w rx10
      exact r_retI rfl rfl rfl (k _ _ t8 s8 rx10 w)
    refine r_iz (t := 44) (pc1 := 31) rfl rfl rfl rp1 (fun c13 => ?_) (fun c13 => ?_)
    · have w := w.1 c13
      refine r_aldn (pc1 := 45) rfl rfl rfl ?_
      refine r_n (pc1 := 47) [.int (J 9), rv 437, .int (J 9), rv 437] _ rfl rfl ?_
      refine r_iv rfl rfl rfl rfl rfl rfl t5 (lyk t5 rfl) rfl (xe_of (xa_r (xa_i xa_0)) rfl rfl) (r_d0 hd rfl) (a_X14_rootAt 9 (r_d1 hd rfl) (rgk rfl) w t5 (fun x11 rx11 w => ?_))
      refine r_fI (pc1 := 50) rfl ?_
      have w := w rx11
      refine r_n (pc1 := 51) [.int (J 1), .int (J x11), .int (J 9), rv 437] _ rfl rfl ?_
      refine r_n (pc1 := 52) [.int (J p0), .int (J 1), .int (J x11), .int (J 9), rv 437] _ rfl rfl ?_
      refine r_ishl (pc1 := 53) rfl rfl ?_
      refine r_n (pc1 := 54) [.int (J (-1)), .int (J (ishl 1 p0)), .int (J x11), .int (J 9), rv 437] _ rfl rfl ?_
      refine r_ixor (pc1 := 55) rfl rfl ?_
      refine r_iand (pc1 := 56) rfl rfl ?_
      exact Q7  (iand x11 (ixor (ishl 1 p0) (-1)))  (rgt _) w
    · have w := w.2 c13
      refine r_aldn (pc1 := 32) rfl rfl rfl ?_
      refine r_n (pc1 := 34) [.int (J 9), rv 437, .int (J 9), rv 437] _ rfl rfl ?_
      refine r_iv rfl rfl rfl rfl rfl rfl t5 (lyk t5 rfl) rfl (xe_of (xa_r (xa_i xa_0)) rfl rfl) (r_d0 hd rfl) (a_X14_rootAt 9 (r_d1 hd rfl) (rgk rfl) w t5 (fun x12 rx12 w => ?_))
      refine r_fI (pc1 := 37) rfl ?_
      have w := w rx12
      refine r_n (pc1 := 38) [.int (J 1), .int (J x12), .int (J 9), rv 437] _ rfl rfl ?_
      refine r_n (pc1 := 39) [.int (J p0), .int (J 1), .int (J x12), .int (J 9), rv 437] _ rfl rfl ?_
      refine r_ishl (pc1 := 40) rfl rfl ?_
      refine r_ior (pc1 := 41) rfl rfl ?_
      refine r_goto (t := 56) rfl rfl ?_
      exact Q7  (ior x12 (ishl 1 p0))  (rgt _) w
  · have w := w.2 c14
    refine r_n (pc1 := 19) [.int (J 0)] _ rfl rfl ?_
    exact r_retI rfl rfl rfl (k _ _ t4 s4 (rgk rfl) w)
def w_X5_isEmptyText  (K : Int → XH → Prop) (h : XH) : Prop :=
  (∃ J2 : XH → Prop, (∀ (h1 : XH), HT h1 → HX h h1 → J2 h1 → (∃ J4 : Int → Prop, (∀ (x3 : Int), rg x3 → J4 x3 → ((x3 = 0 ∨ x3 = 1) ∧ K x3 h1)) ∧ ((¬ hI h1 3 1 = 0 → (J4 0)) ∧ (¬ (¬ hI h1 3 1 = 0) → (J4 1))))) ∧ ((¬ hI h 3 1 = 0 → J2 h) ∧ (¬ (¬ hI h 3 1 = 0) → (∀ h7 : XH, h7 = sI h 3 2 (-1) → HT h7 → HX h h7 → J2 h7))))
set_option maxHeartbeats 4000000 in
theorem a_X5_isEmptyText {sc : Nat × (Nat → Int32)} {goal : XO → XH → Prop} {fs : List XF} {h : XH}  {K : Int → XH → Prop} (hd : fs.length + 0 ≤ 1000) (w : w_X5_isEmptyText  K h) (t0 : HT h) (k : ∀ (r : Int) (h1 : XH), HT h1 → HX h h1 → rg r → (r = 0 ∨ r = 1) → K r h1 → XFin xP sc goal fs (.inl (some (.int (J r)))) h1) : RR sc goal fs 400 0 [some (rv 3)] [] h := by
  unfold w_X5_isEmptyText at w
  refine r_aldn (pc1 := 1) rfl rfl rfl ?_
  refine r_gfI (pc1 := 4) rfl rfl rfl t0 (lyk t0 rfl) rfl rfl ?_
  obtain ⟨J2, j2, w⟩ := w
  have Q2 : ∀ (h1 : XH), HT h1 → HX h h1 → J2 h1 → RR sc goal fs 400 12 [some (rv 3)] [] h1 := by
    intro h1 t1 s1 z2
    have w := j2 h1 t1 s1 z2
    refine r_aldn (pc1 := 13) rfl rfl rfl ?_
    refine r_gfI (pc1 := 16) rfl rfl rfl t1 (lyk t1 rfl) rfl rfl ?_
    obtain ⟨J4, j4, w⟩ := w
    have Q4 : ∀ (x3 : Int), rg x3 → J4 x3 → RR sc goal fs 400 24 [some (rv 3)] [.int (J x3)] h1 := by
      intro x3 rx3 z4
      have w := j4 x3 rx3 z4
      obtain ⟨c5, w⟩ := w
      exact r_retB rfl rfl rfl c5 (k _ _ t1 s1 rx3 c5 w)
    refine r_iz (t := 23) (pc1 := 19) rfl rfl rfl (rgh _ _ _) (fun c6 => ?_) (fun c6 => ?_)
    · have w := w.1 c6
      refine r_n (pc1 := 24) [.int (J 0)] _ rfl rfl ?_
      exact Q4  0  (rgk rfl) w
    · have w := w.2 c6
      refine r_n (pc1 := 20) [.int (J 1)] _ rfl rfl ?_
      refine r_goto (t := 24) rfl rfl ?_
      exact Q4  1  (rgk rfl) w
  refine r_iz (t := 12) (pc1 := 7) rfl rfl rfl (rgh _ _ _) (fun c8 => ?_) (fun c8 => ?_)
  · have w := w.1 c8
    exact Q2   h t0 (HX_refl h)  w
  · have w := w.2 c8
    refine r_aldn (pc1 := 8) rfl rfl rfl ?_
    refine r_n (pc1 := 9) [.int (J (-1)), rv 3] _ rfl rfl ?_
    refine r_pfI (pc1 := 12) rfl rfl rfl t0 (lyk t0 rfl) rfl rfl rfl (fun h7 eh7 t7 u7 => ?_)
    have w := w h7 eh7 t7 u7
    have s7 := HX_trans (HX_refl h) u7
    exact Q2   h7 t7 s7  w
def w_X6_pinCount (t : Nat) (K : Int → Prop) (h : XH) : Prop :=
  ((∃ (I3 : Int → Int → Prop) (m3 : Int → Int → Nat), I3 0 0 ∧ ∀ (x1 : Int) (x2 : Int), rg x1 → rg x2 → I3 x1 x2 → (((12 ≤ x2 → (K x1)) ∧ (¬ (12 ≤ x2) → ((0 ≤ x2 ∧ x2 < 12) ∧ ∃ J6 : Int → Prop, (∀ (x5 : Int), rg x5 → J6 x5 → (∀ x7 : Int, x7 = wr (x1 + x5) → rg x7 → ∀ x8 : Int, x8 = wr (x2 + 1) → rg x8 → (I3 x7 x8 ∧ m3 x7 x8 < m3 x1 x2))) ∧ ((hR h (t + 2) x2.toNat = 0 → (J6 0)) ∧ (¬ (hR h (t + 2) x2.toNat = 0) → (J6 1)))))))))
set_option maxHeartbeats 4000000 in
theorem a_X6_pinCount {sc : Nat × (Nat → Int32)} {goal : XO → XH → Prop} {fs : List XF} {h : XH} (t : Nat) {K : Int → Prop} (hd : fs.length + 0 ≤ 1000) (c0 : hk h t = 7) (w : w_X6_pinCount t K h) (t0 : HT h) (k : ∀ (r : Int), rg r → K r → XFin xP sc goal fs (.inl (some (.int (J r)))) h) : RR sc goal fs 419 0 [some (rv t), none, none] [] h := by
  unfold w_X6_pinCount at w
  refine r_n (pc1 := 1) [.int (J 0)] _ rfl rfl ?_
  refine r_istn (pc1 := 2) (ls1 := [some (rv t), some (.int (J 0)), none]) rfl rfl rfl (xput1_rv rfl rfl) ?_
  refine r_n (pc1 := 3) [.int (J 0)] _ rfl rfl ?_
  refine r_istn (pc1 := 4) (ls1 := [some (rv t), some (.int (J 0)), some (.int (J 0))]) rfl rfl rfl rfl ?_
  obtain ⟨I3, m3, w, y3⟩ := w
  have Q3 : ∀ (n : Nat)  (x1 : Int) (x2 : Int), rg x1 → rg x2 → m3 x1 x2 < n → I3 x1 x2 → RR sc goal fs 419 4 [some (rv t), some (.int (J x1)), some (.int (J x2))] [] h := by
    intro n
    induction n with
    | zero => intro x1 x2 rx1 rx2 q3 _; exact absurd q3 (Nat.not_lt_zero _)
    | succ n ih3 =>
      intro x1 x2 rx1 rx2 q3 z3
      have w := y3 x1 x2 rx1 rx2 z3
      refine r_n (pc1 := 5) [.int (J x2)] _ rfl rfl ?_
      refine r_n (pc1 := 7) [.int (J 12), .int (J x2)] _ rfl rfl ?_
      refine r_ic (t := 33) (pc1 := 10) rfl rfl rfl rx2 (rgk rfl) (fun c10 => ?_) (fun c10 => ?_)
      · have w := w.1 c10
        refine r_n (pc1 := 34) [.int (J x1)] _ rfl rfl ?_
        exact r_retI rfl rfl rfl (k _ rx1 w)
      · have w := w.2 c10
        refine r_n (pc1 := 11) [.int (J x1)] _ rfl rfl ?_
        refine r_aldn (pc1 := 12) rfl rfl rfl ?_
        refine r_gfC (pc1 := 15) (q := (t + 2)) rfl rfl rfl t0 (HXk (HX_refl h) c0 rfl) rfl rfl (lyr_7_3 t0 (HXk (HX_refl h) c0 rfl)) ?_
        refine r_n (pc1 := 16) [.int (J x2), rv (t + 2), .int (J x1)] _ rfl rfl ?_
        obtain ⟨c4, w⟩ := w
        refine r_aal (pc1 := 17) (u := 4) rfl rfl t0 (lyo_7_3 t0 (HXk (HX_refl h) c0 rfl)).1 rfl rfl rx2 c4.1 (lt_len (lyo_7_3 t0 (HXk (HX_refl h) c0 rfl)).2 c4.2) ?_
        obtain ⟨J6, j6, w⟩ := w
        have Q6 : ∀ (x5 : Int), rg x5 → J6 x5 → RR sc goal fs 419 25 [some (rv t), some (.int (J x1)), some (.int (J x2))] [.int (J x5), .int (J x1)] h := by
          intro x5 rx5 z6
          have w := j6 x5 rx5 z6
          refine r_iadd (pc1 := 26) rfl rfl ?_
          refine r_vI (rgw _) (fun x7 ex7 rx7 => ?_)
          have w := w x7 ex7 rx7
          refine r_istn (pc1 := 27) (ls1 := [some (rv t), some (.int (J x7)), some (.int (J x2))]) rfl rfl rfl (xput1_rv rfl rfl) ?_
          refine r_inc (pc1 := 30) (g := fun zz => [some (rv t), some (.int (J x7)), some (.int (J zz))]) rfl rfl rfl rfl (fun _ => rfl) (fun x8 ex8 rx8 => ?_)
          have w := w x8 ex8 rx8
          refine r_goto (t := 4) rfl rfl ?_
          exact ih3  x7 x8  rx7 rx8 (Nat.lt_of_lt_of_le w.2 (Nat.le_of_lt_succ q3)) w.1
        refine r_null (t := 24) (pc1 := 20) rfl rfl rfl (fun c9 => ?_) (fun c9 => ?_)
        · have w := w.1 c9
          refine r_n (pc1 := 25) [.int (J 0), .int (J x1)] _ rfl rfl ?_
          exact Q6  0  (rgk rfl) w
        · have w := w.2 c9
          refine r_n (pc1 := 21) [.int (J 1), .int (J x1)] _ rfl rfl ?_
          refine r_goto (t := 25) rfl rfl ?_
          exact Q6  1  (rgk rfl) w
  exact Q3 _  0 0  (rgk rfl) (rgk rfl) (Nat.lt_succ_self _) w
def w_X12_pin (p0 : Int) (K : Int → XH → Prop) (E : Nat → XH → Prop) (h : XH) : Prop :=
  (w_X12_checkPack p0 ((w_X5_isEmptyText (fun x1 h2 => HT h2 → HX h h2 → rg x1 → (x1 = 0 ∨ x1 = 1) → (∃ J5 : Nat → XH → Prop, (∀ (a3 : Nat) (h4 : XH), HT h4 → HX h h4 → J5 a3 h4 → (w_X12_remember (fun h6 => HT h6 → HX h4 h6 → (w_X11_atHand (fun a7 => (hk h6 a7 = 7 ∧ (0 ≤ p0 ∧ p0 < 12) ∧ (a3 = 0 ∨ hk h6 a3 = 11) ∧ ∀ h11 : XH, h11 = sR h6 (a7 + 2) p0.toNat a3 → HT h11 → HX h6 h11 → w_X11_atHand (fun a12 => (hk h11 a12 = 7 ∧ w_X6_pinCount a12 (fun x14 => rg x14 → (K x14 h11)) h11)) h11)) h6)) h4)) ∧ ((x1 = 0 → (w_X12_checkedRange (fun a15 h16 => HT h16 → HX h2 h16 → J5 a15 h16) E h2)) ∧ (¬ (x1 = 0) → (J5 0 h2))))) h)) E h)
set_option maxHeartbeats 4000000 in
theorem a_X12_pin {sc : Nat × (Nat → Int32)} {goal : XO → XH → Prop} {fs : List XF} {h : XH} (p0 : Int) {K : Int → XH → Prop} {E : Nat → XH → Prop} (hd : fs.length + 6 ≤ 1000) (rp0 : rg p0) (w : w_X12_pin p0 K E h) (t0 : HT h) (k : ∀ (r : Int) (h1 : XH), HT h1 → HX h h1 → rg r → K r h1 → XFin xP sc goal fs (.inl (some (.int (J r)))) h1) (kE : ∀ (x : Nat) (h1 : XH), HT h1 → HX h h1 → E x h1 → XFin xP sc goal fs (.inr x) h1) : RR sc goal fs 138 0 [some (rv 2), some (.int (J p0)), none] [] h := by
  unfold w_X12_pin at w
  refine r_aldn (pc1 := 1) rfl rfl rfl ?_
  refine r_n (pc1 := 2) [.int (J p0), rv 2] _ rfl rfl ?_
  refine r_iv rfl rfl rfl rfl rfl rfl t0 (lyk t0 rfl) rfl (xe_of (xa_r (xa_i xa_0)) rfl rfl) (r_d0 hd rfl) (a_X12_checkPack p0 (r_d1 hd rfl) rp0 w t0 (fun w => ?_) (fun x y ty uy w => r_finx rfl rfl (kE x y ty (HX_trans (HX_refl h) uy) w)))
  refine r_fV (pc1 := 5) rfl ?_
  refine r_aldn (pc1 := 6) rfl rfl rfl ?_
  refine r_gfC (pc1 := 9) (q := 3) rfl rfl rfl t0 (lyk t0 rfl) rfl rfl (lyR t0 rfl rfl) ?_
  refine r_iv rfl rfl rfl rfl rfl rfl t0 (lyk t0 rfl) rfl (xe_of (xa_r xa_0) rfl rfl) (r_d0 hd rfl) (a_X5_isEmptyText  (r_d1 hd rfl)  w t0 (fun x1 h2 t2 u2 rx1 vx1 w => ?_))
  refine r_fI (pc1 := 12) rfl ?_
  have s2 := HX_trans (HX_refl h) u2
  have w := w t2 u2
  have w := w rx1 vx1
  obtain ⟨J5, j5, w⟩ := w
  have Q5 : ∀ (a3 : Nat) (h4 : XH), HT h4 → HX h h4 → J5 a3 h4 → RR sc goal fs 138 23 [some (rv 2), some (.int (J p0)), none] [rv a3] h4 := by
    intro a3 h4 t4 s4 z5
    have w := j5 a3 h4 t4 s4 z5
    refine r_astn (pc1 := 24) (ls1 := [some (rv 2), some (.int (J p0)), some (rv a3)]) rfl rfl rfl rfl ?_
    refine r_aldn (pc1 := 25) rfl rfl rfl ?_
    refine r_iv rfl rfl rfl rfl rfl rfl t4 (lyk t4 rfl) rfl (xe_of (xa_r xa_0) rfl rfl) (r_d0 hd rfl) (a_X12_remember  (r_d1 hd rfl)  w t4 (fun h6 t6 u6 w => ?_))
    refine r_fV (pc1 := 28) rfl ?_
    have s6 := HX_trans s4 u6
    have w := w t6 u6
    refine r_aldn (pc1 := 29) rfl rfl rfl ?_
    refine r_gfC (pc1 := 32) (q := 8) rfl rfl rfl t6 (lyk t6 rfl) rfl rfl (lyR t6 rfl rfl) ?_
    refine r_iv rfl rfl rfl rfl rfl rfl t6 (lyk t6 rfl) rfl (xe_of (xa_r xa_0) rfl rfl) (r_d0 hd rfl) (a_X11_atHand  (r_d1 hd rfl)  w t6 (fun a7 w => ?_))
    refine r_fR (pc1 := 35) rfl ?_
    obtain ⟨c8, w⟩ := w
    refine r_gfC (pc1 := 38) (q := (a7 + 2)) rfl rfl rfl t6 c8 rfl rfl (lyr_7_3 t6 c8) ?_
    refine r_n (pc1 := 39) [.int (J p0), rv (a7 + 2)] _ rfl rfl ?_
    refine r_aldn (pc1 := 40) rfl rfl rfl ?_
    obtain ⟨c9, w⟩ := w
    obtain ⟨c10, w⟩ := w
    refine r_aast (pc1 := 41) (u := 4) rfl rfl t6 (lyo_7_3 t6 c8).1 (.inr (.inl rfl)) (c10.elim .inl (fun q => .inr (.inr (.inl ⟨rfl, q⟩)))) rp0 c9.1 (lt_len (lyo_7_3 t6 c8).2 c9.2) (fun h11 eh11 t11 u11 => ?_)
    have w := w h11 eh11 t11 u11
    have s11 := HX_trans s6 u11
    refine r_aldn (pc1 := 42) rfl rfl rfl ?_
    refine r_gfC (pc1 := 45) (q := 8) rfl rfl rfl t11 (lyk t11 rfl) rfl rfl (lyR t11 rfl rfl) ?_
    refine r_iv rfl rfl rfl rfl rfl rfl t11 (lyk t11 rfl) rfl (xe_of (xa_r xa_0) rfl rfl) (r_d0 hd rfl) (a_X11_atHand  (r_d1 hd rfl)  w t11 (fun a12 w => ?_))
    refine r_fR (pc1 := 48) rfl ?_
    obtain ⟨c13, w⟩ := w
    refine r_iv rfl rfl rfl rfl rfl rfl t11 c13 rfl (xe_of (xa_r xa_0) rfl rfl) (r_d0 hd rfl) (a_X6_pinCount a12 (r_d1 hd rfl) c13  w t11 (fun x14 rx14 w => ?_))
    refine r_fI (pc1 := 51) rfl ?_
    have w := w rx14
    exact r_retI rfl rfl rfl (k _ _ t11 s11 rx14 w)
  refine r_iz (t := 19) (pc1 := 15) rfl rfl rfl rx1 (fun c17 => ?_) (fun c17 => ?_)
  · have w := w.1 c17
    refine r_aldn (pc1 := 20) rfl rfl rfl ?_
    refine r_iv rfl rfl rfl rfl rfl rfl t2 (lyk t2 rfl) rfl (xe_of (xa_r xa_0) rfl rfl) (r_d0 hd rfl) (a_X12_checkedRange  (r_d1 hd rfl)  w t2 (fun a15 h16 t16 u16 w => ?_) (fun x y ty uy w => r_finx rfl rfl (kE x y ty (HX_trans s2 uy) w)))
    refine r_fR (pc1 := 23) rfl ?_
    have s16 := HX_trans s2 u16
    have w := w t16 u16
    exact Q5  a15 h16 t16 s16  w
  · have w := w.2 c17
    refine r_n (pc1 := 16) [rv 0] _ rfl rfl ?_
    refine r_goto (t := 23) rfl rfl ?_
    exact Q5  0 h2 t2 s2  w
def w_L_pin (p1 : Int) (K : Int → XH → Prop) (h : XH) : Prop :=
  (w_X12_pin p1 (fun x1 h2 => HT h2 → HX h h2 → rg x1 → (∀ h5 : XH, h5 = sL h2 467 0 (i2l x1) → HT h5 → HX h2 h5 → (K 0 h5))) (fun y4 h3 => ((y4 = 2 ∧ K 1 h3) ∨ (y4 = 1 ∧ K 2 h3))) h)
set_option maxHeartbeats 4000000 in
theorem a_L_pin {sc : Nat × (Nat → Int32)} {goal : XO → XH → Prop} {fs : List XF} {h : XH} (p1 : Int) {K : Int → XH → Prop} (hd : fs.length + 7 ≤ 1000) (rp1 : rg p1) (w : w_L_pin p1 K h) (t0 : HT h) (k : ∀ (r : Int) (h1 : XH), HT h1 → HX h h1 → rg r → K r h1 → XFin xP sc goal fs (.inl (some (.int (J r)))) h1) : RR sc goal fs 53 0 [some (rv 2), some (.int (J p1)), some (rv 467), none] [] h := by
  unfold w_L_pin at w
  refine r_aldn (pc1 := 1) rfl rfl rfl ?_
  refine r_n (pc1 := 2) [.int (J 0), rv 467] _ rfl rfl ?_
  refine r_aldn (pc1 := 3) rfl rfl rfl ?_
  refine r_n (pc1 := 4) [.int (J p1), rv 2, .int (J 0), rv 467] _ rfl rfl ?_
  refine r_iv rfl rfl rfl rfl rfl rfl t0 (lyk t0 rfl) rfl (xe_of (xa_r (xa_i xa_0)) rfl rfl) (r_d0 hd rfl) (a_X12_pin p1 (r_d1 hd rfl) rp1 w t0 (fun x1 h2 t2 u2 rx1 w => ?_) (fun y4 h3 ty uy w => ?_))
  · refine r_fI (pc1 := 7) rfl ?_
    have s2 := HX_trans (HX_refl h) u2
    have w := w t2 u2
    have w := w rx1
    refine r_i2l (pc1 := 8) rfl rfl ?_
    refine r_last (pc1 := 9) rfl rfl t2 (lyk t2 rfl) (rgk rfl) (by decide) (lt_len (lyn t2 rfl) (by decide)) (fun h5 eh5 t5 u5 => ?_)
    have w := w h5 eh5 t5 u5
    have s5 := HX_trans s2 u5
    refine r_goto (t := 18) rfl rfl ?_
    refine r_n (pc1 := 19) [.int (J 0)] _ rfl rfl ?_
    exact r_retI rfl rfl rfl (k _ _ t5 s5 (rgk rfl) w)
  · rcases w with ⟨rfl, w⟩ | w
    · exact r_fink (z := 1) rfl (by decide) rfl rfl (k _ _ ty (HX_trans (HX_refl h) uy) (rgk rfl) w)
    obtain ⟨rfl, w⟩ := w
    exact r_fink (z := 2) rfl (by decide) rfl rfl (k _ _ ty (HX_trans (HX_refl h) uy) (rgk rfl) w)
def w_X14_pin (p0 : Int) (K : Int → XH → Prop) (h : XH) : Prop :=
  (∀ h1 : XH, h1 = sI h 437 5 0 → HT h1 → HX h h1 → w_X14_isPack p0 (fun x2 => rg x2 → (x2 = 0 ∨ x2 = 1) → (w_X14_refused x2 1 (fun x3 h4 => HT h4 → HX h1 h4 → rg x3 → (x3 = 0 ∨ x3 = 1) → (((x3 = 0 → (∃ J6 : Int → Prop, (∀ (x5 : Int), rg x5 → J6 x5 → (∃ J9 : Nat → XH → Prop, (∀ (a7 : Nat) (h8 : XH), HT h8 → HX h h8 → J9 a7 h8 → (w_X14_record (fun h10 => HT h10 → HX h8 h10 → (∃ J13 : Int → XH → Prop, (∀ (x11 : Int) (h12 : XH), HT h12 → HX h h12 → rg x11 → J13 x11 h12 → (w_X14_putRoot (wr (10 + p0)) x11 (fun h14 => HT h14 → HX h12 h14 → ((∃ (I18 : Int → Int → Prop) (m18 : Int → Int → Nat), I18 0 0 ∧ ∀ (x16 : Int) (x17 : Int), rg x16 → rg x17 → I18 x16 x17 → (((12 ≤ x17 → (K x16 h14)) ∧ (¬ (12 ≤ x17) → (w_X14_rootAt (wr (10 + x17)) (fun x19 => rg x19 → (∃ J21 : Int → Prop, (∀ (x20 : Int), rg x20 → J21 x20 → (∀ x22 : Int, x22 = wr (x16 + x20) → rg x22 → ∀ x23 : Int, x23 = wr (x17 + 1) → rg x23 → (I18 x22 x23 ∧ m18 x22 x23 < m18 x16 x17))) ∧ ((x19 ≤ 0 → (J21 0)) ∧ (¬ (x19 ≤ 0) → (J21 1))))) h14))))))) h12)) ∧ ((x5 = 0 → (w_X14_keep a7 (fun x26 h27 => HT h27 → HX h10 h27 → rg x26 → (J13 (wr (x26 + 1)) h27)) h10)) ∧ (¬ (x5 = 0) → (J13 0 h10))))) h8)) ∧ ((x5 = 0 → (w_X14_readRangeOf p0 (fun a29 h30 => HT h30 → HX h4 h30 → (∃ J32 : Int → Prop, (∀ (x31 : Int), rg x31 → J32 x31 → (w_X14_refused x31 2 (fun x33 h34 => HT h34 → HX h30 h34 → rg x33 → (x33 = 0 ∨ x33 = 1) → (((x33 = 0 → J9 a29 h34) ∧ (¬ (x33 = 0) → (K 0 h34))))) h30)) ∧ ((a29 = 0 → (J32 0)) ∧ (¬ (a29 = 0) → (J32 1))))) h4)) ∧ (¬ (x5 = 0) → (∀ h37 : XH, h37 = sI h4 437 10 (-1) → HT h37 → HX h4 h37 → J9 0 h37))))) ∧ ((¬ hI h4 437 9 = 0 → (J6 0)) ∧ (¬ (¬ hI h4 437 9 = 0) → (J6 1))))) ∧ (¬ (x3 = 0) → (K 0 h4))))) h1)) h1)
set_option maxHeartbeats 4000000 in
theorem a_X14_pin {sc : Nat × (Nat → Int32)} {goal : XO → XH → Prop} {fs : List XF} {h : XH} (p0 : Int) {K : Int → XH → Prop} (hd : fs.length + 7 ≤ 1000) (rp0 : rg p0) (w : w_X14_pin p0 K h) (t0 : HT h) (k : ∀ (r : Int) (h1 : XH), HT h1 → HX h h1 → rg r → K r h1 → XFin xP sc goal fs (.inl (some (.int (J r)))) h1) : RR sc goal fs 269 0 [some (rv 437), some (.int (J p0)), none, none, none, none] [] h := by
  unfold w_X14_pin at w
  refine r_aldn (pc1 := 1) rfl rfl rfl ?_
  refine r_n (pc1 := 2) [.int (J 0), rv 437] _ rfl rfl ?_
  refine r_pfI (pc1 := 5) rfl rfl rfl t0 (lyk t0 rfl) rfl rfl rfl (fun h1 eh1 t1 u1 => ?_)
  have w := w h1 eh1 t1 u1
  have s1 := HX_trans (HX_refl h) u1
  refine r_aldn (pc1 := 6) rfl rfl rfl ?_
  refine r_aldn (pc1 := 7) rfl rfl rfl ?_
  refine r_n (pc1 := 8) [.int (J p0), rv 437, rv 437] _ rfl rfl ?_
  refine r_iv rfl rfl rfl rfl rfl rfl t1 (lyk t1 rfl) rfl (xe_of (xa_r (xa_i xa_0)) rfl rfl) (r_d0 hd rfl) (a_X14_isPack p0 (r_d1 hd rfl) rp0 w t1 (fun x2 rx2 vx2 w => ?_))
  refine r_fI (pc1 := 11) rfl ?_
  have w := w rx2 vx2
  refine r_n (pc1 := 12) [.int (J 1), .int (J x2), rv 437] _ rfl rfl ?_
  refine r_iv rfl rfl rfl rfl rfl rfl t1 (lyk t1 rfl) rfl (xe_of (xa_r (xa_i (xa_i xa_0))) rfl rfl) (r_d0 hd rfl) (a_X14_refused x2 1 (r_d1 hd rfl) rx2 (rgk rfl) w t1 (fun x3 h4 t4 u4 rx3 vx3 w => ?_))
  refine r_fI (pc1 := 15) rfl ?_
  have s4 := HX_trans s1 u4
  have w := w t4 u4
  have w := w rx3 vx3
  refine r_iz (t := 20) (pc1 := 18) rfl rfl rfl rx3 (fun c40 => ?_) (fun c40 => ?_)
  · have w := w.1 c40
    refine r_aldn (pc1 := 21) rfl rfl rfl ?_
    refine r_gfI (pc1 := 24) rfl rfl rfl t4 (lyk t4 rfl) rfl rfl ?_
    obtain ⟨J6, j6, w⟩ := w
    have Q6 : ∀ (x5 : Int), rg x5 → J6 x5 → RR sc goal fs 269 32 [some (rv 437), some (.int (J p0)), none, none, none, none] [.int (J x5)] h4 := by
      intro x5 rx5 z6
      have w := j6 x5 rx5 z6
      refine r_istn (pc1 := 33) (ls1 := [some (rv 437), some (.int (J p0)), some (.int (J x5)), none, none, none]) rfl rfl rfl rfl ?_
      refine r_n (pc1 := 34) [rv 0] _ rfl rfl ?_
      refine r_astn (pc1 := 35) (ls1 := [some (rv 437), some (.int (J p0)), some (.int (J x5)), some (rv 0), none, none]) rfl rfl rfl rfl ?_
      refine r_n (pc1 := 36) [.int (J x5)] _ rfl rfl ?_
      obtain ⟨J9, j9, w⟩ := w
      have Q9 : ∀ (a7 : Nat) (h8 : XH), HT h8 → HX h h8 → J9 a7 h8 → RR sc goal fs 269 72 [some (rv 437), some (.int (J p0)), some (.int (J x5)), some (rv a7), none, none] [] h8 := by
        intro a7 h8 t8 s8 z9
        have w := j9 a7 h8 t8 s8 z9
        refine r_aldn (pc1 := 73) rfl rfl rfl ?_
        refine r_iv rfl rfl rfl rfl rfl rfl t8 (lyk t8 rfl) rfl (xe_of (xa_r xa_0) rfl rfl) (r_d0 hd rfl) (a_X14_record  (r_d1 hd rfl)  w t8 (fun h10 t10 u10 w => ?_))
        refine r_fV (pc1 := 76) rfl ?_
        have s10 := HX_trans s8 u10
        have w := w t10 u10
        refine r_aldn (pc1 := 77) rfl rfl rfl ?_
        refine r_n (pc1 := 79) [.int (J 10), rv 437] _ rfl rfl ?_
        refine r_n (pc1 := 80) [.int (J p0), .int (J 10), rv 437] _ rfl rfl ?_
        refine r_iadd (pc1 := 81) rfl rfl ?_
        refine r_n (pc1 := 82) [.int (J x5), .int (J (wr (10 + p0))), rv 437] _ rfl rfl ?_
        obtain ⟨J13, j13, w⟩ := w
        have Q13 : ∀ (x11 : Int) (h12 : XH), HT h12 → HX h h12 → rg x11 → J13 x11 h12 → RR sc goal fs 269 96 [some (rv 437), some (.int (J p0)), some (.int (J x5)), some (rv a7), none, none] [.int (J x11), .int (J (wr (10 + p0))), rv 437] h12 := by
          intro x11 h12 t12 s12 rx11 z13
          have w := j13 x11 h12 t12 s12 rx11 z13
          refine r_iv rfl rfl rfl rfl rfl rfl t12 (lyk t12 rfl) rfl (xe_of (xa_r (xa_i (xa_i xa_0))) rfl rfl) (r_d0 hd rfl) (a_X14_putRoot (wr (10 + p0)) x11 (r_d1 hd rfl) (rgw _) rx11 w t12 (fun h14 t14 u14 w => ?_))
          refine r_fV (pc1 := 99) rfl ?_
          have s14 := HX_trans s12 u14
          have w := w t14 u14
          refine r_n (pc1 := 100) [.int (J 0)] _ rfl rfl ?_
          refine r_ist (pc1 := 102) (ls1 := [some (rv 437), some (.int (J p0)), some (.int (J x5)), some (rv a7), some (.int (J 0)), none]) rfl rfl rfl (xput1_rv rfl rfl) ?_
          refine r_n (pc1 := 103) [.int (J 0)] _ rfl rfl ?_
          refine r_ist (pc1 := 105) (ls1 := [some (rv 437), some (.int (J p0)), some (.int (J x5)), some (rv a7), some (.int (J 0)), some (.int (J 0))]) rfl rfl rfl rfl ?_
          obtain ⟨I18, m18, w, y18⟩ := w
          have Q18 : ∀ (n : Nat) (d15 : Option Value) (x16 : Int) (x17 : Int), rg x16 → rg x17 → m18 x16 x17 < n → I18 x16 x17 → RR sc goal fs 269 105 [some (rv 437), some (.int (J p0)), some (.int (J x5)), d15, some (.int (J x16)), some (.int (J x17))] [] h14 := by
            intro n
            induction n with
            | zero => intro d15 x16 x17 rx16 rx17 q18 _; exact absurd q18 (Nat.not_lt_zero _)
            | succ n ih18 =>
              intro d15 x16 x17 rx16 rx17 q18 z18
              have w := y18 x16 x17 rx16 rx17 z18
              refine r_n (pc1 := 107) [.int (J x17)] _ rfl rfl ?_
              refine r_n (pc1 := 109) [.int (J 12), .int (J x17)] _ rfl rfl ?_
              refine r_ic (t := 140) (pc1 := 112) rfl rfl rfl rx17 (rgk rfl) (fun c25 => ?_) (fun c25 => ?_)
              · have w := w.1 c25
                refine r_n (pc1 := 142) [.int (J x16)] _ rfl rfl ?_
                exact r_retI rfl rfl rfl (k _ _ t14 s14 rx16 w)
              · have w := w.2 c25
                refine r_n (pc1 := 114) [.int (J x16)] _ rfl rfl ?_
                refine r_aldn (pc1 := 115) rfl rfl rfl ?_
                refine r_n (pc1 := 117) [.int (J 10), rv 437, .int (J x16)] _ rfl rfl ?_
                refine r_n (pc1 := 119) [.int (J x17), .int (J 10), rv 437, .int (J x16)] _ rfl rfl ?_
                refine r_iadd (pc1 := 120) rfl rfl ?_
                refine r_iv rfl rfl rfl rfl rfl rfl t14 (lyk t14 rfl) rfl (xe_of (xa_r (xa_i xa_0)) rfl rfl) (r_d0 hd rfl) (a_X14_rootAt (wr (10 + x17)) (r_d1 hd rfl) (rgw _) w t14 (fun x19 rx19 w => ?_))
                refine r_fI (pc1 := 123) rfl ?_
                have w := w rx19
                obtain ⟨J21, j21, w⟩ := w
                have Q21 : ∀ (x20 : Int), rg x20 → J21 x20 → RR sc goal fs 269 131 [some (rv 437), some (.int (J p0)), some (.int (J x5)), d15, some (.int (J x16)), some (.int (J x17))] [.int (J x20), .int (J x16)] h14 := by
                  intro x20 rx20 z21
                  have w := j21 x20 rx20 z21
                  refine r_iadd (pc1 := 132) rfl rfl ?_
                  refine r_vI (rgw _) (fun x22 ex22 rx22 => ?_)
                  have w := w x22 ex22 rx22
                  refine r_ist (pc1 := 134) (ls1 := [some (rv 437), some (.int (J p0)), some (.int (J x5)), (dcl d15), some (.int (J x22)), some (.int (J x17))]) rfl rfl rfl (xput1_d rfl rfl) ?_
                  refine r_inc (pc1 := 137) (g := fun zz => [some (rv 437), some (.int (J p0)), some (.int (J x5)), (dcl d15), some (.int (J x22)), some (.int (J zz))]) rfl rfl rfl rfl (fun _ => rfl) (fun x23 ex23 rx23 => ?_)
                  have w := w x23 ex23 rx23
                  refine r_goto (t := 105) rfl rfl ?_
                  exact ih18 _ x22 x23  rx22 rx23 (Nat.lt_of_lt_of_le w.2 (Nat.le_of_lt_succ q18)) w.1
                refine r_iz (t := 130) (pc1 := 126) rfl rfl rfl rx19 (fun c24 => ?_) (fun c24 => ?_)
                · have w := w.1 c24
                  refine r_n (pc1 := 131) [.int (J 0), .int (J x16)] _ rfl rfl ?_
                  exact Q21  0  (rgk rfl) w
                · have w := w.2 c24
                  refine r_n (pc1 := 127) [.int (J 1), .int (J x16)] _ rfl rfl ?_
                  refine r_goto (t := 131) rfl rfl ?_
                  exact Q21  1  (rgk rfl) w
          exact Q18 _ _ 0 0  (rgk rfl) (rgk rfl) (Nat.lt_succ_self _) w
        refine r_iz (t := 89) (pc1 := 85) rfl rfl rfl rx5 (fun c28 => ?_) (fun c28 => ?_)
        · have w := w.1 c28
          refine r_aldn (pc1 := 90) rfl rfl rfl ?_
          refine r_aldn (pc1 := 91) rfl rfl rfl ?_
          refine r_iv rfl rfl rfl rfl rfl rfl t10 (lyk t10 rfl) rfl (xe_of (xa_r (xa_r xa_0)) rfl rfl) (r_d0 hd rfl) (a_X14_keep a7 (r_d1 hd rfl)  w t10 (fun x26 h27 t27 u27 rx26 w => ?_))
          refine r_fI (pc1 := 94) rfl ?_
          have s27 := HX_trans s10 u27
          have w := w t27 u27
          have w := w rx26
          refine r_n (pc1 := 95) [.int (J 1), .int (J x26), .int (J (wr (10 + p0))), rv 437] _ rfl rfl ?_
          refine r_iadd (pc1 := 96) rfl rfl ?_
          exact Q13  (wr (x26 + 1)) h27 t27 s27 (rgw _) w
        · have w := w.2 c28
          refine r_n (pc1 := 86) [.int (J 0), .int (J (wr (10 + p0))), rv 437] _ rfl rfl ?_
          refine r_goto (t := 96) rfl rfl ?_
          exact Q13  0 h10 t10 s10 (rgk rfl) w
      refine r_iz (t := 47) (pc1 := 39) rfl rfl rfl rx5 (fun c38 => ?_) (fun c38 => ?_)
      · have w := w.1 c38
        refine r_aldn (pc1 := 48) rfl rfl rfl ?_
        refine r_n (pc1 := 49) [.int (J p0), rv 437] _ rfl rfl ?_
        refine r_iv rfl rfl rfl rfl rfl rfl t4 (lyk t4 rfl) rfl (xe_of (xa_r (xa_i xa_0)) rfl rfl) (r_d0 hd rfl) (a_X14_readRangeOf p0 (r_d1 hd rfl) rp0 w t4 (fun a29 h30 t30 u30 w => ?_))
        refine r_fR (pc1 := 52) rfl ?_
        have s30 := HX_trans s4 u30
        have w := w t30 u30
        refine r_astn (pc1 := 53) (ls1 := [some (rv 437), some (.int (J p0)), some (.int (J x5)), some (rv a29), none, none]) rfl rfl rfl rfl ?_
        refine r_aldn (pc1 := 54) rfl rfl rfl ?_
        refine r_aldn (pc1 := 55) rfl rfl rfl ?_
        obtain ⟨J32, j32, w⟩ := w
        have Q32 : ∀ (x31 : Int), rg x31 → J32 x31 → RR sc goal fs 269 63 [some (rv 437), some (.int (J p0)), some (.int (J x5)), some (rv a29), none, none] [.int (J x31), rv 437] h30 := by
          intro x31 rx31 z32
          have w := j32 x31 rx31 z32
          refine r_n (pc1 := 64) [.int (J 2), .int (J x31), rv 437] _ rfl rfl ?_
          refine r_iv rfl rfl rfl rfl rfl rfl t30 (lyk t30 rfl) rfl (xe_of (xa_r (xa_i (xa_i xa_0))) rfl rfl) (r_d0 hd rfl) (a_X14_refused x31 2 (r_d1 hd rfl) rx31 (rgk rfl) w t30 (fun x33 h34 t34 u34 rx33 vx33 w => ?_))
          refine r_fI (pc1 := 67) rfl ?_
          have s34 := HX_trans s30 u34
          have w := w t34 u34
          have w := w rx33 vx33
          refine r_iz (t := 72) (pc1 := 70) rfl rfl rfl rx33 (fun c35 => ?_) (fun c35 => ?_)
          · have w := w.1 c35
            exact Q9  a29 h34 t34 s34  w
          · have w := w.2 c35
            refine r_n (pc1 := 71) [.int (J 0)] _ rfl rfl ?_
            exact r_retI rfl rfl rfl (k _ _ t34 s34 (rgk rfl) w)
        refine r_null (t := 62) (pc1 := 58) rfl rfl rfl (fun c36 => ?_) (fun c36 => ?_)
        · have w := w.1 c36
          refine r_n (pc1 := 63) [.int (J 0), rv 437] _ rfl rfl ?_
          exact Q32  0  (rgk rfl) w
        · have w := w.2 c36
          refine r_n (pc1 := 59) [.int (J 1), rv 437] _ rfl rfl ?_
          refine r_goto (t := 63) rfl rfl ?_
          exact Q32  1  (rgk rfl) w
      · have w := w.2 c38
        refine r_aldn (pc1 := 40) rfl rfl rfl ?_
        refine r_n (pc1 := 41) [.int (J (-1)), rv 437] _ rfl rfl ?_
        refine r_pfI (pc1 := 44) rfl rfl rfl t4 (lyk t4 rfl) rfl rfl rfl (fun h37 eh37 t37 u37 => ?_)
        have w := w h37 eh37 t37 u37
        have s37 := HX_trans s4 u37
        refine r_goto (t := 72) rfl rfl ?_
        exact Q9  0 h37 t37 s37  w
    refine r_iz (t := 31) (pc1 := 27) rfl rfl rfl (rgh _ _ _) (fun c39 => ?_) (fun c39 => ?_)
    · have w := w.1 c39
      refine r_n (pc1 := 32) [.int (J 0)] _ rfl rfl ?_
      exact Q6  0  (rgk rfl) w
    · have w := w.2 c39
      refine r_n (pc1 := 28) [.int (J 1)] _ rfl rfl ?_
      refine r_goto (t := 32) rfl rfl ?_
      exact Q6  1  (rgk rfl) w
  · have w := w.2 c40
    refine r_n (pc1 := 19) [.int (J 0)] _ rfl rfl ?_
    exact r_retI rfl rfl rfl (k _ _ t4 s4 (rgk rfl) w)
def w_X12_quota (p0 : Int) (K : Int → XH → Prop) (E : Nat → XH → Prop) (h : XH) : Prop :=
  (∃ J1 : Prop, (J1 → (E 1 (nT h))) ∧ ((p0 < 0 → J1) ∧ (¬ (p0 < 0) → (((p0 ≤ 40000 → (w_X12_remember (fun h2 => HT h2 → HX h h2 → (w_X11_atHand (fun a3 => (hk h2 a3 = 7 ∧ ∀ x5 : Int, x5 = hI h2 a3 4 → rg x5 → w_X11_atHand (fun a6 => (hk h2 a6 = 7 ∧ ∀ h8 : XH, h8 = sI h2 a6 4 p0 → HT h8 → HX h2 h8 → K x5 h8)) h2)) h2)) h)) ∧ (¬ (p0 ≤ 40000) → J1))))))
set_option maxHeartbeats 4000000 in
theorem a_X12_quota {sc : Nat × (Nat → Int32)} {goal : XO → XH → Prop} {fs : List XF} {h : XH} (p0 : Int) {K : Int → XH → Prop} {E : Nat → XH → Prop} (hd : fs.length + 4 ≤ 1000) (rp0 : rg p0) (w : w_X12_quota p0 K E h) (t0 : HT h) (k : ∀ (r : Int) (h1 : XH), HT h1 → HX h h1 → rg r → K r h1 → XFin xP sc goal fs (.inl (some (.int (J r)))) h1) (kE : ∀ (x : Nat) (h1 : XH), HT h1 → HX h h1 → E x h1 → XFin xP sc goal fs (.inr x) h1) : RR sc goal fs 144 0 [some (rv 2), some (.int (J p0)), none] [] h := by
  unfold w_X12_quota at w
  refine r_n (pc1 := 1) [.int (J p0)] _ rfl rfl ?_
  obtain ⟨J1, j1, w⟩ := w
  have Q1 : J1 → RR sc goal fs 144 11 [some (rv 2), some (.int (J p0)), none] [] h := by
    intro z1
    have w := j1 z1
    exact r_thr rfl rfl rfl rfl rfl rfl (kE _ _ (HT_nT t0).1 (HX_trans (HX_refl h) (HT_nT t0).2) w)
  refine r_iz (t := 11) (pc1 := 4) rfl rfl rfl rp0 (fun c10 => ?_) (fun c10 => ?_)
  · have w := w.1 c10
    exact Q1     w
  · have w := w.2 c10
    refine r_n (pc1 := 5) [.int (J p0)] _ rfl rfl ?_
    refine r_n (pc1 := 8) [.int (J 40000), .int (J p0)] _ rfl rfl ?_
    refine r_ic (t := 22) (pc1 := 11) rfl rfl rfl rp0 (rgk rfl) (fun c9 => ?_) (fun c9 => ?_)
    · have w := w.1 c9
      refine r_aldn (pc1 := 23) rfl rfl rfl ?_
      refine r_iv rfl rfl rfl rfl rfl rfl t0 (lyk t0 rfl) rfl (xe_of (xa_r xa_0) rfl rfl) (r_d0 hd rfl) (a_X12_remember  (r_d1 hd rfl)  w t0 (fun h2 t2 u2 w => ?_))
      refine r_fV (pc1 := 26) rfl ?_
      have s2 := HX_trans (HX_refl h) u2
      have w := w t2 u2
      refine r_aldn (pc1 := 27) rfl rfl rfl ?_
      refine r_gfC (pc1 := 30) (q := 8) rfl rfl rfl t2 (lyk t2 rfl) rfl rfl (lyR t2 rfl rfl) ?_
      refine r_iv rfl rfl rfl rfl rfl rfl t2 (lyk t2 rfl) rfl (xe_of (xa_r xa_0) rfl rfl) (r_d0 hd rfl) (a_X11_atHand  (r_d1 hd rfl)  w t2 (fun a3 w => ?_))
      refine r_fR (pc1 := 33) rfl ?_
      obtain ⟨c4, w⟩ := w
      refine r_gfI (pc1 := 36) rfl rfl rfl t2 c4 rfl rfl ?_
      refine r_vI (rgh _ _ _) (fun x5 ex5 rx5 => ?_)
      have w := w x5 ex5 rx5
      refine r_istn (pc1 := 37) (ls1 := [some (rv 2), some (.int (J p0)), some (.int (J x5))]) rfl rfl rfl rfl ?_
      refine r_aldn (pc1 := 38) rfl rfl rfl ?_
      refine r_gfC (pc1 := 41) (q := 8) rfl rfl rfl t2 (lyk t2 rfl) rfl rfl (lyR t2 rfl rfl) ?_
      refine r_iv rfl rfl rfl rfl rfl rfl t2 (lyk t2 rfl) rfl (xe_of (xa_r xa_0) rfl rfl) (r_d0 hd rfl) (a_X11_atHand  (r_d1 hd rfl)  w t2 (fun a6 w => ?_))
      refine r_fR (pc1 := 44) rfl ?_
      refine r_n (pc1 := 45) [.int (J p0), rv a6] _ rfl rfl ?_
      obtain ⟨c7, w⟩ := w
      refine r_pfI (pc1 := 48) rfl rfl rfl t2 c7 rfl rfl rfl (fun h8 eh8 t8 u8 => ?_)
      have w := w h8 eh8 t8 u8
      have s8 := HX_trans s2 u8
      refine r_n (pc1 := 49) [.int (J x5)] _ rfl rfl ?_
      exact r_retI rfl rfl rfl (k _ _ t8 s8 rx5 w)
    · have w := w.2 c9
      exact Q1     w
def w_L_quota (p1 : Int) (K : Int → XH → Prop) (h : XH) : Prop :=
  (w_X12_quota p1 (fun x1 h2 => HT h2 → HX h h2 → rg x1 → (∀ h5 : XH, h5 = sL h2 467 0 (i2l x1) → HT h5 → HX h2 h5 → (K 0 h5))) (fun y4 h3 => ((y4 = 1 ∧ K 1 h3))) h)
set_option maxHeartbeats 4000000 in
theorem a_L_quota {sc : Nat × (Nat → Int32)} {goal : XO → XH → Prop} {fs : List XF} {h : XH} (p1 : Int) {K : Int → XH → Prop} (hd : fs.length + 5 ≤ 1000) (rp1 : rg p1) (w : w_L_quota p1 K h) (t0 : HT h) (k : ∀ (r : Int) (h1 : XH), HT h1 → HX h h1 → rg r → K r h1 → XFin xP sc goal fs (.inl (some (.int (J r)))) h1) : RR sc goal fs 58 0 [some (rv 2), some (.int (J p1)), some (rv 467), none] [] h := by
  unfold w_L_quota at w
  refine r_aldn (pc1 := 1) rfl rfl rfl ?_
  refine r_n (pc1 := 2) [.int (J 0), rv 467] _ rfl rfl ?_
  refine r_aldn (pc1 := 3) rfl rfl rfl ?_
  refine r_n (pc1 := 4) [.int (J p1), rv 2, .int (J 0), rv 467] _ rfl rfl ?_
  refine r_iv rfl rfl rfl rfl rfl rfl t0 (lyk t0 rfl) rfl (xe_of (xa_r (xa_i xa_0)) rfl rfl) (r_d0 hd rfl) (a_X12_quota p1 (r_d1 hd rfl) rp1 w t0 (fun x1 h2 t2 u2 rx1 w => ?_) (fun y4 h3 ty uy w => ?_))
  · refine r_fI (pc1 := 7) rfl ?_
    have s2 := HX_trans (HX_refl h) u2
    have w := w t2 u2
    have w := w rx1
    refine r_i2l (pc1 := 8) rfl rfl ?_
    refine r_last (pc1 := 9) rfl rfl t2 (lyk t2 rfl) (rgk rfl) (by decide) (lt_len (lyn t2 rfl) (by decide)) (fun h5 eh5 t5 u5 => ?_)
    have w := w h5 eh5 t5 u5
    have s5 := HX_trans s2 u5
    refine r_goto (t := 15) rfl rfl ?_
    refine r_n (pc1 := 16) [.int (J 0)] _ rfl rfl ?_
    exact r_retI rfl rfl rfl (k _ _ t5 s5 (rgk rfl) w)
  · obtain ⟨rfl, w⟩ := w
    exact r_fink (z := 1) rfl (by decide) rfl rfl (k _ _ ty (HX_trans (HX_refl h) uy) (rgk rfl) w)
def w_X14_quota (p0 : Int) (K : Int → XH → Prop) (h : XH) : Prop :=
  (∀ h1 : XH, h1 = sI h 437 5 0 → HT h1 → HX h h1 → w_X14_within p0 0 40000 (fun x2 => rg x2 → (x2 = 0 ∨ x2 = 1) → (w_X14_refused x2 1 (fun x3 h4 => HT h4 → HX h1 h4 → rg x3 → (x3 = 0 ∨ x3 = 1) → (((x3 = 0 → (w_X14_record (fun h5 => HT h5 → HX h4 h5 → (w_X14_rootAt 22 (fun x6 => rg x6 → (w_X14_putRoot 22 p0 (fun h7 => HT h7 → HX h5 h7 → (K x6 h7)) h5)) h5)) h4)) ∧ (¬ (x3 = 0) → (K 0 h4))))) h1)) h1)
set_option maxHeartbeats 4000000 in
theorem a_X14_quota {sc : Nat × (Nat → Int32)} {goal : XO → XH → Prop} {fs : List XF} {h : XH} (p0 : Int) {K : Int → XH → Prop} (hd : fs.length + 2 ≤ 1000) (rp0 : rg p0) (w : w_X14_quota p0 K h) (t0 : HT h) (k : ∀ (r : Int) (h1 : XH), HT h1 → HX h h1 → rg r → K r h1 → XFin xP sc goal fs (.inl (some (.int (J r)))) h1) : RR sc goal fs 279 0 [some (rv 437), some (.int (J p0)), none] [] h := by
  unfold w_X14_quota at w
  refine r_aldn (pc1 := 1) rfl rfl rfl ?_
  refine r_n (pc1 := 2) [.int (J 0), rv 437] _ rfl rfl ?_
  refine r_pfI (pc1 := 5) rfl rfl rfl t0 (lyk t0 rfl) rfl rfl rfl (fun h1 eh1 t1 u1 => ?_)
  have w := w h1 eh1 t1 u1
  have s1 := HX_trans (HX_refl h) u1
  refine r_aldn (pc1 := 6) rfl rfl rfl ?_
  refine r_n (pc1 := 7) [.int (J p0), rv 437] _ rfl rfl ?_
  refine r_n (pc1 := 8) [.int (J 0), .int (J p0), rv 437] _ rfl rfl ?_
  refine r_n (pc1 := 10) [.int (J 40000), .int (J 0), .int (J p0), rv 437] _ rfl rfl ?_
  refine r_iq rfl rfl rfl rfl rfl rfl (xe_of (xa_i (xa_i (xa_i xa_0))) rfl rfl) (r_d0 hd rfl) (a_X14_within p0 0 40000 (r_d1 hd rfl) rp0 (rgk rfl) (rgk rfl) w t1 (fun x2 rx2 vx2 w => ?_))
  refine r_fI (pc1 := 13) rfl ?_
  have w := w rx2 vx2
  refine r_n (pc1 := 14) [.int (J 1), .int (J x2), rv 437] _ rfl rfl ?_
  refine r_iv rfl rfl rfl rfl rfl rfl t1 (lyk t1 rfl) rfl (xe_of (xa_r (xa_i (xa_i xa_0))) rfl rfl) (r_d0 hd rfl) (a_X14_refused x2 1 (r_d1 hd rfl) rx2 (rgk rfl) w t1 (fun x3 h4 t4 u4 rx3 vx3 w => ?_))
  refine r_fI (pc1 := 17) rfl ?_
  have s4 := HX_trans s1 u4
  have w := w t4 u4
  have w := w rx3 vx3
  refine r_iz (t := 22) (pc1 := 20) rfl rfl rfl rx3 (fun c8 => ?_) (fun c8 => ?_)
  · have w := w.1 c8
    refine r_aldn (pc1 := 23) rfl rfl rfl ?_
    refine r_iv rfl rfl rfl rfl rfl rfl t4 (lyk t4 rfl) rfl (xe_of (xa_r xa_0) rfl rfl) (r_d0 hd rfl) (a_X14_record  (r_d1 hd rfl)  w t4 (fun h5 t5 u5 w => ?_))
    refine r_fV (pc1 := 26) rfl ?_
    have s5 := HX_trans s4 u5
    have w := w t5 u5
    refine r_aldn (pc1 := 27) rfl rfl rfl ?_
    refine r_n (pc1 := 29) [.int (J 22), rv 437] _ rfl rfl ?_
    refine r_iv rfl rfl rfl rfl rfl rfl t5 (lyk t5 rfl) rfl (xe_of (xa_r (xa_i xa_0)) rfl rfl) (r_d0 hd rfl) (a_X14_rootAt 22 (r_d1 hd rfl) (rgk rfl) w t5 (fun x6 rx6 w => ?_))
    refine r_fI (pc1 := 32) rfl ?_
    have w := w rx6
    refine r_istn (pc1 := 33) (ls1 := [some (rv 437), some (.int (J p0)), some (.int (J x6))]) rfl rfl rfl rfl ?_
    refine r_aldn (pc1 := 34) rfl rfl rfl ?_
    refine r_n (pc1 := 36) [.int (J 22), rv 437] _ rfl rfl ?_
    refine r_n (pc1 := 37) [.int (J p0), .int (J 22), rv 437] _ rfl rfl ?_
    refine r_iv rfl rfl rfl rfl rfl rfl t5 (lyk t5 rfl) rfl (xe_of (xa_r (xa_i (xa_i xa_0))) rfl rfl) (r_d0 hd rfl) (a_X14_putRoot 22 p0 (r_d1 hd rfl) (rgk rfl) rp0 w t5 (fun h7 t7 u7 w => ?_))
    refine r_fV (pc1 := 40) rfl ?_
    have s7 := HX_trans s5 u7
    have w := w t7 u7
    refine r_n (pc1 := 41) [.int (J x6)] _ rfl rfl ?_
    exact r_retI rfl rfl rfl (k _ _ t7 s7 rx6 w)
  · have w := w.2 c8
    refine r_n (pc1 := 21) [.int (J 0)] _ rfl rfl ?_
    exact r_retI rfl rfl rfl (k _ _ t4 s4 (rgk rfl) w)
def w_X7_found  (K : BitVec 64 → Prop) (h : XH) : Prop :=
  (K (((hL h 57 9) ||| ((hL h 57 3) &&& ((hL h 57 10) ^^^ (18446744073709551615#64)))) &&& (4503599627370495#64)))
set_option maxHeartbeats 4000000 in
theorem a_X7_found {sc : Nat × (Nat → Int32)} {goal : XO → XH → Prop} {fs : List XF} {h : XH}  {K : BitVec 64 → Prop} (hd : fs.length + 0 ≤ 1000) (w : w_X7_found  K h) (t0 : HT h) (k : ∀ (r : BitVec 64), K r → XFin xP sc goal fs (.inl (some (.long (G r)))) h) : RR sc goal fs 428 0 [some (rv 57)] [] h := by
  unfold w_X7_found at w
  refine r_aldn (pc1 := 1) rfl rfl rfl ?_
  refine r_gfL (pc1 := 4) rfl rfl rfl t0 (lyk t0 rfl) rfl rfl ?_
  refine r_aldn (pc1 := 5) rfl rfl rfl ?_
  refine r_gfL (pc1 := 8) rfl rfl rfl t0 (lyk t0 rfl) rfl rfl ?_
  refine r_aldn (pc1 := 9) rfl rfl rfl ?_
  refine r_gfL (pc1 := 12) rfl rfl rfl t0 (lyk t0 rfl) rfl rfl ?_
  refine r_n (pc1 := 15) [.long (G (18446744073709551615#64)), .long (G (hL h 57 10)), .long (G (hL h 57 3)), .long (G (hL h 57 9))] _ rfl rfl ?_
  refine r_lxor (pc1 := 16) rfl rfl ?_
  refine r_land (pc1 := 17) rfl rfl ?_
  refine r_lor (pc1 := 18) rfl rfl ?_
  refine r_n (pc1 := 21) [.long (G (4503599627370495#64)), .long (G ((hL h 57 9) ||| ((hL h 57 3) &&& ((hL h 57 10) ^^^ (18446744073709551615#64)))))] _ rfl rfl ?_
  refine r_land (pc1 := 22) rfl rfl ?_
  exact r_retL rfl rfl rfl (k _ w)
def w_X9_find (p0 : Int) (K : Int → XH → Prop) (h : XH) : Prop :=
  (∃ J2 : BitVec 64 → Prop, (∀ (b1 : BitVec 64), J2 b1 → (w_X7_load b1 12 (fun h3 => HT h3 → HX h h3 → (w_X7_canHold (0#64) (0#64) (fun x4 h5 => HT h5 → HX h3 h5 → rg x4 → (x4 = 0 ∨ x4 = 1) → (((¬ x4 = 0 → (w_X7_found (fun b6 => (∀ h7 : XH, h7 = sL h5 68 3 b6 → HT h7 → HX h5 h7 → ∃ J9 : Int → Prop, (∀ (x8 : Int), rg x8 → J9 x8 → ((∃ (I14 : Int → Int → XH → Prop) (m14 : Int → Int → XH → Nat), I14 x8 0 h7 ∧ ∀ (x10 : Int) (x11 : Int) (h13 : XH), HT h13 → HX h h13 → rg x10 → rg x11 → I14 x10 x11 h13 → (∃ J15 : Prop, (J15 → (∃ J17 : XH → Prop, (∀ (h16 : XH), HT h16 → HX h h16 → J17 h16 → (K 1 h16)) ∧ ((p0 = 0 → J17 h13) ∧ (¬ (p0 = 0) → (w_X8_unlikePacks (hL h13 68 3) b1 (fun x18 => rg x18 → (w_J6_bitCount_0f7a4 x18 (fun x19 => rg x19 → (w_X7_load b1 x19 (fun h20 => HT h20 → HX h13 h20 → J17 h20) h13)) h13)) h13))))) ∧ ((12 ≤ x11 → J15) ∧ (¬ (12 ≤ x11) → (((x10 ≤ 0 → J15) ∧ (¬ (x10 ≤ 0) → (w_X7_load b1 (wr (x10 - 1)) (fun h22 => HT h22 → HX h13 h22 → (w_X7_canHold (0#64) (0#64) (fun x23 h24 => HT h24 → HX h22 h24 → rg x23 → (x23 = 0 ∨ x23 = 1) → (∃ J26 : BitVec 64 → Prop, (∀ (b25 : BitVec 64), J26 b25 → (∀ h27 : XH, h27 = sL h24 68 3 b25 → HT h27 → HX h24 h27 → ∃ J29 : Int → Prop, (∀ (x28 : Int), rg x28 → J29 x28 → (∀ x30 : Int, x30 = wr (x11 + 1) → rg x30 → (I14 x28 x30 h27 ∧ m14 x28 x30 h27 < m14 x10 x11 h13))) ∧ ((x23 = 0 → (J29 0)) ∧ (¬ (x23 = 0) → (w_X8_unlikePacks (hL h27 68 3) b1 (fun x31 => rg x31 → (w_J6_bitCount_0f7a4 x31 (fun x32 => rg x32 → (J29 x32)) h27)) h27))))) ∧ ((x23 = 0 → (J26 (hL h24 68 3))) ∧ (¬ (x23 = 0) → (w_X7_found (fun b34 => (J26 b34)) h24))))) h22)) h13)))))))))) ∧ ((p0 = 0 → (J9 0)) ∧ (¬ (p0 = 0) → (w_X8_unlikePacks (hL h7 68 3) b1 (fun x38 => rg x38 → (w_J6_bitCount_0f7a4 x38 (fun x39 => rg x39 → (J9 x39)) h7)) h7))))) h5)) ∧ (¬ (¬ x4 = 0) → (K 0 h5))))) h3)) h)) ∧ ((p0 = 0 → (J2 (0#64))) ∧ (¬ (p0 = 0) → (w_X11_atHand (fun a42 => (hk h a42 = 7 ∧ J2 (hL h a42 6))) h))))
set_option maxHeartbeats 4000000 in
theorem a_X9_find {sc : Nat × (Nat → Int32)} {goal : XO → XH → Prop} {fs : List XF} {h : XH} (p0 : Int) {K : Int → XH → Prop} (hd : fs.length + 5 ≤ 1000) (rp0 : rg p0) (w : w_X9_find p0 K h) (t0 : HT h) (k : ∀ (r : Int) (h1 : XH), HT h1 → HX h h1 → rg r → (r = 0 ∨ r = 1) → K r h1 → XFin xP sc goal fs (.inl (some (.int (J r)))) h1) : RR sc goal fs 470 0 [some (rv 68), some (.int (J p0)), none, none, none, none, none] [] h := by
  unfold w_X9_find at w
  refine r_n (pc1 := 1) [.int (J p0)] _ rfl rfl ?_
  obtain ⟨J2, j2, w⟩ := w
  have Q2 : ∀ (b1 : BitVec 64), J2 b1 → RR sc goal fs 470 18 [some (rv 68), some (.int (J p0)), none, none, none, none, none] [.long (G b1)] h := by
    intro b1 z2
    have w := j2 b1 z2
    refine r_lstn (pc1 := 19) (ls1 := [some (rv 68), some (.int (J p0)), some (.long (G b1)), none, none, none, none]) rfl rfl rfl rfl ?_
    refine r_aldn (pc1 := 20) rfl rfl rfl ?_
    refine r_gfC (pc1 := 23) (q := 57) rfl rfl rfl t0 (lyk t0 rfl) rfl rfl (lyR t0 rfl rfl) ?_
    refine r_n (pc1 := 24) [.long (G b1), rv 57] _ rfl rfl ?_
    refine r_n (pc1 := 26) [.int (J 12), .long (G b1), rv 57] _ rfl rfl ?_
    refine r_iv rfl rfl rfl rfl rfl rfl t0 (lyk t0 rfl) rfl (xe_of (xa_r (xa_l (xa_i xa_0))) rfl rfl) (r_d0 hd rfl) (a_X7_load b1 12 (r_d1 hd rfl) (rgk rfl) w t0 (fun h3 t3 u3 w => ?_))
    refine r_fV (pc1 := 29) rfl ?_
    have s3 := HX_trans (HX_refl h) u3
    have w := w t3 u3
    refine r_aldn (pc1 := 30) rfl rfl rfl ?_
    refine r_gfC (pc1 := 33) (q := 57) rfl rfl rfl t3 (lyk t3 rfl) rfl rfl (lyR t3 rfl rfl) ?_
    refine r_n (pc1 := 34) [.long (G (0#64)), rv 57] _ rfl rfl ?_
    refine r_n (pc1 := 35) [.long (G (0#64)), .long (G (0#64)), rv 57] _ rfl rfl ?_
    refine r_iv rfl rfl rfl rfl rfl rfl t3 (lyk t3 rfl) rfl (xe_of (xa_r (xa_l (xa_l xa_0))) rfl rfl) (r_d0 hd rfl) (a_X7_canHold (0#64) (0#64) (r_d1 hd rfl)  w t3 (fun x4 h5 t5 u5 rx4 vx4 w => ?_))
    refine r_fI (pc1 := 38) rfl ?_
    have s5 := HX_trans s3 u5
    have w := w t5 u5
    have w := w rx4 vx4
    refine r_iz (t := 43) (pc1 := 41) rfl rfl rfl rx4 (fun c41 => ?_) (fun c41 => ?_)
    · have w := w.1 c41
      refine r_aldn (pc1 := 44) rfl rfl rfl ?_
      refine r_aldn (pc1 := 45) rfl rfl rfl ?_
      refine r_gfC (pc1 := 48) (q := 57) rfl rfl rfl t5 (lyk t5 rfl) rfl rfl (lyR t5 rfl rfl) ?_
      refine r_iv rfl rfl rfl rfl rfl rfl t5 (lyk t5 rfl) rfl (xe_of (xa_r xa_0) rfl rfl) (r_d0 hd rfl) (a_X7_found  (r_d1 hd rfl)  w t5 (fun b6 w => ?_))
      refine r_fL (pc1 := 51) rfl ?_
      refine r_pfL (pc1 := 54) rfl rfl rfl t5 (lyk t5 rfl) rfl rfl rfl (fun h7 eh7 t7 u7 => ?_)
      have w := w h7 eh7 t7 u7
      have s7 := HX_trans s5 u7
      refine r_n (pc1 := 55) [.int (J p0)] _ rfl rfl ?_
      obtain ⟨J9, j9, w⟩ := w
      have Q9 : ∀ (x8 : Int), rg x8 → J9 x8 → RR sc goal fs 470 77 [some (rv 68), some (.int (J p0)), some (.long (G b1)), none, none, none, none] [.int (J x8)] h7 := by
        intro x8 rx8 z9
        have w := j9 x8 rx8 z9
        refine r_ist (pc1 := 79) (ls1 := [some (rv 68), some (.int (J p0)), some (.long (G b1)), none, some (.int (J x8)), none, none]) rfl rfl rfl rfl ?_
        refine r_n (pc1 := 80) [.int (J 0)] _ rfl rfl ?_
        refine r_ist (pc1 := 82) (ls1 := [some (rv 68), some (.int (J p0)), some (.long (G b1)), none, some (.int (J x8)), some (.int (J 0)), none]) rfl rfl rfl rfl ?_
        obtain ⟨I14, m14, w, y14⟩ := w
        have Q14 : ∀ (n : Nat) (d12 : Option Value) (x10 : Int) (x11 : Int) (h13 : XH), HT h13 → HX h h13 → rg x10 → rg x11 → m14 x10 x11 h13 < n → I14 x10 x11 h13 → RR sc goal fs 470 82 [some (rv 68), some (.int (J p0)), some (.long (G b1)), none, some (.int (J x10)), some (.int (J x11)), d12] [] h13 := by
          intro n
          induction n with
          | zero => intro d12 x10 x11 h13 t13 s13 rx10 rx11 q14 _; exact absurd q14 (Nat.not_lt_zero _)
          | succ n ih14 =>
            intro d12 x10 x11 h13 t13 s13 rx10 rx11 q14 z14
            have w := y14 x10 x11 h13 t13 s13 rx10 rx11 z14
            refine r_n (pc1 := 84) [.int (J x11)] _ rfl rfl ?_
            refine r_n (pc1 := 86) [.int (J 12), .int (J x11)] _ rfl rfl ?_
            obtain ⟨J15, j15, w⟩ := w
            have Q15 : J15 → RR sc goal fs 470 172 [some (rv 68), some (.int (J p0)), some (.long (G b1)), none, some (.int (J x10)), some (.int (J x11)), d12] [] h13 := by
              intro z15
              have w := j15 z15
              refine r_n (pc1 := 173) [.int (J p0)] _ rfl rfl ?_
              obtain ⟨J17, j17, w⟩ := w
              have Q17 : ∀ (h16 : XH), HT h16 → HX h h16 → J17 h16 → RR sc goal fs 470 199 [some (rv 68), some (.int (J p0)), some (.long (G b1)), none, some (.int (J x10)), some (.int (J x11)), d12] [] h16 := by
                intro h16 t16 s16 z17
                have w := j17 h16 t16 s16 z17
                refine r_n (pc1 := 200) [.int (J 1)] _ rfl rfl ?_
                exact r_retB rfl rfl rfl (.inr rfl) (k _ _ t16 s16 (rgk rfl) (.inr rfl) w)
              refine r_iz (t := 199) (pc1 := 176) rfl rfl rfl rp0 (fun c21 => ?_) (fun c21 => ?_)
              · have w := w.1 c21
                exact Q17   h13 t13 s13  w
              · have w := w.2 c21
                refine r_aldn (pc1 := 177) rfl rfl rfl ?_
                refine r_gfC (pc1 := 180) (q := 57) rfl rfl rfl t13 (lyk t13 rfl) rfl rfl (lyR t13 rfl rfl) ?_
                refine r_n (pc1 := 181) [.long (G b1), rv 57] _ rfl rfl ?_
                refine r_aldn (pc1 := 182) rfl rfl rfl ?_
                refine r_gfC (pc1 := 185) (q := 9) rfl rfl rfl t13 (lyk t13 rfl) rfl rfl (lyR t13 rfl rfl) ?_
                refine r_aldn (pc1 := 186) rfl rfl rfl ?_
                refine r_gfL (pc1 := 189) rfl rfl rfl t13 (lyk t13 rfl) rfl rfl ?_
                refine r_n (pc1 := 190) [.long (G b1), .long (G (hL h13 68 3)), rv 9, .long (G b1), rv 57] _ rfl rfl ?_
                refine r_iv rfl rfl rfl rfl rfl rfl t13 (lyk t13 rfl) rfl (xe_of (xa_r (xa_l (xa_l xa_0))) rfl rfl) (r_d0 hd rfl) (a_X8_unlikePacks (hL h13 68 3) b1 (r_d1 hd rfl)  w t13 (fun x18 rx18 w => ?_))
                refine r_fI (pc1 := 193) rfl ?_
                have w := w rx18
                refine r_iq rfl rfl rfl rfl rfl rfl (xe_of (xa_i xa_0) rfl rfl) (r_d0 hd rfl) (a_J6_bitCount_0f7a4 x18 (r_d1 hd rfl) rx18 w t13 (fun x19 rx19 w => ?_))
                refine r_fI (pc1 := 196) rfl ?_
                have w := w rx19
                refine r_iv rfl rfl rfl rfl rfl rfl t13 (lyk t13 rfl) rfl (xe_of (xa_r (xa_l (xa_i xa_0))) rfl rfl) (r_d0 hd rfl) (a_X7_load b1 x19 (r_d1 hd rfl) rx19 w t13 (fun h20 t20 u20 w => ?_))
                refine r_fV (pc1 := 199) rfl ?_
                have s20 := HX_trans s13 u20
                have w := w t20 u20
                exact Q17   h20 t20 s20  w
            refine r_ic (t := 172) (pc1 := 89) rfl rfl rfl rx11 (rgk rfl) (fun c37 => ?_) (fun c37 => ?_)
            · have w := w.1 c37
              exact Q15     w
            · have w := w.2 c37
              refine r_n (pc1 := 91) [.int (J x10)] _ rfl rfl ?_
              refine r_iz (t := 172) (pc1 := 94) rfl rfl rfl rx10 (fun c36 => ?_) (fun c36 => ?_)
              · have w := w.1 c36
                exact Q15     w
              · have w := w.2 c36
                refine r_aldn (pc1 := 95) rfl rfl rfl ?_
                refine r_gfC (pc1 := 98) (q := 57) rfl rfl rfl t13 (lyk t13 rfl) rfl rfl (lyR t13 rfl rfl) ?_
                refine r_n (pc1 := 99) [.long (G b1), rv 57] _ rfl rfl ?_
                refine r_n (pc1 := 101) [.int (J x10), .long (G b1), rv 57] _ rfl rfl ?_
                refine r_n (pc1 := 102) [.int (J 1), .int (J x10), .long (G b1), rv 57] _ rfl rfl ?_
                refine r_isub (pc1 := 103) rfl rfl ?_
                refine r_iv rfl rfl rfl rfl rfl rfl t13 (lyk t13 rfl) rfl (xe_of (xa_r (xa_l (xa_i xa_0))) rfl rfl) (r_d0 hd rfl) (a_X7_load b1 (wr (x10 - 1)) (r_d1 hd rfl) (rgw _) w t13 (fun h22 t22 u22 w => ?_))
                refine r_fV (pc1 := 106) rfl ?_
                have s22 := HX_trans s13 u22
                have w := w t22 u22
                refine r_aldn (pc1 := 107) rfl rfl rfl ?_
                refine r_gfC (pc1 := 110) (q := 57) rfl rfl rfl t22 (lyk t22 rfl) rfl rfl (lyR t22 rfl rfl) ?_
                refine r_n (pc1 := 111) [.long (G (0#64)), rv 57] _ rfl rfl ?_
                refine r_n (pc1 := 112) [.long (G (0#64)), .long (G (0#64)), rv 57] _ rfl rfl ?_
                refine r_iv rfl rfl rfl rfl rfl rfl t22 (lyk t22 rfl) rfl (xe_of (xa_r (xa_l (xa_l xa_0))) rfl rfl) (r_d0 hd rfl) (a_X7_canHold (0#64) (0#64) (r_d1 hd rfl)  w t22 (fun x23 h24 t24 u24 rx23 vx23 w => ?_))
                refine r_fI (pc1 := 115) rfl ?_
                have s24 := HX_trans s22 u24
                have w := w t24 u24
                have w := w rx23 vx23
                refine r_ist (pc1 := 117) (ls1 := [some (rv 68), some (.int (J p0)), some (.long (G b1)), none, some (.int (J x10)), some (.int (J x11)), some (.int (J x23))]) rfl rfl rfl rfl ?_
                refine r_aldn (pc1 := 118) rfl rfl rfl ?_
                refine r_n (pc1 := 120) [.int (J x23), rv 68] _ rfl rfl ?_
                obtain ⟨J26, j26, w⟩ := w
                have Q26 : ∀ (b25 : BitVec 64), J26 b25 → RR sc goal fs 470 137 [some (rv 68), some (.int (J p0)), some (.long (G b1)), none, some (.int (J x10)), some (.int (J x11)), some (.int (J x23))] [.long (G b25), rv 68] h24 := by
                  intro b25 z26
                  have w := j26 b25 z26
                  refine r_pfL (pc1 := 140) rfl rfl rfl t24 (lyk t24 rfl) rfl rfl rfl (fun h27 eh27 t27 u27 => ?_)
                  have w := w h27 eh27 t27 u27
                  have s27 := HX_trans s24 u27
                  refine r_n (pc1 := 142) [.int (J x23)] _ rfl rfl ?_
                  obtain ⟨J29, j29, w⟩ := w
                  have Q29 : ∀ (x28 : Int), rg x28 → J29 x28 → RR sc goal fs 470 164 [some (rv 68), some (.int (J p0)), some (.long (G b1)), none, some (.int (J x10)), some (.int (J x11)), some (.int (J x23))] [.int (J x28)] h27 := by
                    intro x28 rx28 z29
                    have w := j29 x28 rx28 z29
                    refine r_ist (pc1 := 166) (ls1 := [some (rv 68), some (.int (J p0)), some (.long (G b1)), none, some (.int (J x28)), some (.int (J x11)), some (.int (J x23))]) rfl rfl rfl rfl ?_
                    refine r_inc (pc1 := 169) (g := fun zz => [some (rv 68), some (.int (J p0)), some (.long (G b1)), none, some (.int (J x28)), some (.int (J zz)), some (.int (J x23))]) rfl rfl rfl rfl (fun _ => rfl) (fun x30 ex30 rx30 => ?_)
                    have w := w x30 ex30 rx30
                    refine r_goto (t := 82) rfl rfl ?_
                    exact ih14 _ x28 x30 h27 t27 s27 rx28 rx30 (Nat.lt_of_lt_of_le w.2 (Nat.le_of_lt_succ q14)) w.1
                  refine r_iz (t := 163) (pc1 := 145) rfl rfl rfl rx23 (fun c33 => ?_) (fun c33 => ?_)
                  · have w := w.1 c33
                    refine r_n (pc1 := 164) [.int (J 0)] _ rfl rfl ?_
                    exact Q29  0  (rgk rfl) w
                  · have w := w.2 c33
                    refine r_aldn (pc1 := 146) rfl rfl rfl ?_
                    refine r_gfC (pc1 := 149) (q := 9) rfl rfl rfl t27 (lyk t27 rfl) rfl rfl (lyR t27 rfl rfl) ?_
                    refine r_aldn (pc1 := 150) rfl rfl rfl ?_
                    refine r_gfL (pc1 := 153) rfl rfl rfl t27 (lyk t27 rfl) rfl rfl ?_
                    refine r_n (pc1 := 154) [.long (G b1), .long (G (hL h27 68 3)), rv 9] _ rfl rfl ?_
                    refine r_iv rfl rfl rfl rfl rfl rfl t27 (lyk t27 rfl) rfl (xe_of (xa_r (xa_l (xa_l xa_0))) rfl rfl) (r_d0 hd rfl) (a_X8_unlikePacks (hL h27 68 3) b1 (r_d1 hd rfl)  w t27 (fun x31 rx31 w => ?_))
                    refine r_fI (pc1 := 157) rfl ?_
                    have w := w rx31
                    refine r_iq rfl rfl rfl rfl rfl rfl (xe_of (xa_i xa_0) rfl rfl) (r_d0 hd rfl) (a_J6_bitCount_0f7a4 x31 (r_d1 hd rfl) rx31 w t27 (fun x32 rx32 w => ?_))
                    refine r_fI (pc1 := 160) rfl ?_
                    have w := w rx32
                    refine r_goto (t := 164) rfl rfl ?_
                    exact Q29  x32  rx32 w
                refine r_iz (t := 133) (pc1 := 123) rfl rfl rfl rx23 (fun c35 => ?_) (fun c35 => ?_)
                · have w := w.1 c35
                  refine r_aldn (pc1 := 134) rfl rfl rfl ?_
                  refine r_gfL (pc1 := 137) rfl rfl rfl t24 (lyk t24 rfl) rfl rfl ?_
                  exact Q26  (hL h24 68 3)   w
                · have w := w.2 c35
                  refine r_aldn (pc1 := 124) rfl rfl rfl ?_
                  refine r_gfC (pc1 := 127) (q := 57) rfl rfl rfl t24 (lyk t24 rfl) rfl rfl (lyR t24 rfl rfl) ?_
                  refine r_iv rfl rfl rfl rfl rfl rfl t24 (lyk t24 rfl) rfl (xe_of (xa_r xa_0) rfl rfl) (r_d0 hd rfl) (a_X7_found  (r_d1 hd rfl)  w t24 (fun b34 w => ?_))
                  refine r_fL (pc1 := 130) rfl ?_
                  refine r_goto (t := 137) rfl rfl ?_
                  exact Q26  b34   w
        exact Q14 _ _ x8 0 h7 t7 s7 rx8 (rgk rfl) (Nat.lt_succ_self _) w
      refine r_iz (t := 76) (pc1 := 58) rfl rfl rfl rp0 (fun c40 => ?_) (fun c40 => ?_)
      · have w := w.1 c40
        refine r_n (pc1 := 77) [.int (J 0)] _ rfl rfl ?_
        exact Q9  0  (rgk rfl) w
      · have w := w.2 c40
        refine r_aldn (pc1 := 59) rfl rfl rfl ?_
        refine r_gfC (pc1 := 62) (q := 9) rfl rfl rfl t7 (lyk t7 rfl) rfl rfl (lyR t7 rfl rfl) ?_
        refine r_aldn (pc1 := 63) rfl rfl rfl ?_
        refine r_gfL (pc1 := 66) rfl rfl rfl t7 (lyk t7 rfl) rfl rfl ?_
        refine r_n (pc1 := 67) [.long (G b1), .long (G (hL h7 68 3)), rv 9] _ rfl rfl ?_
        refine r_iv rfl rfl rfl rfl rfl rfl t7 (lyk t7 rfl) rfl (xe_of (xa_r (xa_l (xa_l xa_0))) rfl rfl) (r_d0 hd rfl) (a_X8_unlikePacks (hL h7 68 3) b1 (r_d1 hd rfl)  w t7 (fun x38 rx38 w => ?_))
        refine r_fI (pc1 := 70) rfl ?_
        have w := w rx38
        refine r_iq rfl rfl rfl rfl rfl rfl (xe_of (xa_i xa_0) rfl rfl) (r_d0 hd rfl) (a_J6_bitCount_0f7a4 x38 (r_d1 hd rfl) rx38 w t7 (fun x39 rx39 w => ?_))
        refine r_fI (pc1 := 73) rfl ?_
        have w := w rx39
        refine r_goto (t := 77) rfl rfl ?_
        exact Q9  x39  rx39 w
    · have w := w.2 c41
      refine r_n (pc1 := 42) [.int (J 0)] _ rfl rfl ?_
      exact r_retB rfl rfl rfl (.inl rfl) (k _ _ t5 s5 (rgk rfl) (.inl rfl) w)
  refine r_iz (t := 17) (pc1 := 4) rfl rfl rfl rp0 (fun c44 => ?_) (fun c44 => ?_)
  · have w := w.1 c44
    refine r_n (pc1 := 18) [.long (G (0#64))] _ rfl rfl ?_
    exact Q2  (0#64)   w
  · have w := w.2 c44
    refine r_aldn (pc1 := 5) rfl rfl rfl ?_
    refine r_gfC (pc1 := 8) (q := 8) rfl rfl rfl t0 (lyk t0 rfl) rfl rfl (lyR t0 rfl rfl) ?_
    refine r_iv rfl rfl rfl rfl rfl rfl t0 (lyk t0 rfl) rfl (xe_of (xa_r xa_0) rfl rfl) (r_d0 hd rfl) (a_X11_atHand  (r_d1 hd rfl)  w t0 (fun a42 w => ?_))
    refine r_fR (pc1 := 11) rfl ?_
    obtain ⟨c43, w⟩ := w
    refine r_gfL (pc1 := 14) rfl rfl rfl t0 c43 rfl rfl ?_
    refine r_goto (t := 18) rfl rfl ?_
    exact Q2  (hL h a42 6)   w
def w_X9_findTurns  (K : XH → Prop) (h : XH) : Prop :=
  (w_X11_atHand (fun a1 => (∀ h2 : XH, h2 = sI h 68 5 0 → HT h2 → HX h h2 → (∃ (I7 : Int → Int → XH → Prop) (m7 : Int → Int → XH → Nat), I7 0 0 h2 ∧ ∀ (x3 : Int) (x4 : Int) (h6 : XH), HT h6 → HX h h6 → rg x3 → rg x4 → I7 x3 x4 h6 → (hk h6 a1 = 7 ∧ ((hI h6 a1 0 ≤ x4 → ((∃ (I13 : Int → Int → XH → Prop) (m13 : Int → Int → XH → Nat), I13 x3 0 h6 ∧ ∀ (x10 : Int) (x11 : Int) (h12 : XH), HT h12 → HX h h12 → rg x10 → rg x11 → I13 x10 x11 h12 → (((hI h12 9 0 ≤ x11 → (K h12)) ∧ (¬ (hI h12 9 0 ≤ x11) → (∃ J17 : Int → XH → Prop, (∀ (x15 : Int) (h16 : XH), HT h16 → HX h h16 → rg x15 → J17 x15 h16 → (∀ x18 : Int, x18 = wr (x11 + 1) → rg x18 → (I13 x15 x18 h16 ∧ m13 x15 x18 h16 < m13 x10 x11 h12))) ∧ ((¬ iand (ishr (hI h12 68 5) x11) 1 = 0 → J17 x10 h12) ∧ (¬ (¬ iand (ishr (hI h12 68 5) x11) 1 = 0) → (((12 ≤ x10 → J17 x10 h12) ∧ (¬ (12 ≤ x10) → ((0 ≤ x10 ∧ x10 < 12) ∧ ∀ h20 : XH, h20 = sI h12 69 x10.toNat x11 → HT h20 → HX h12 h20 → ∀ x21 : Int, x21 = wr (x10 + 1) → rg x21 → J17 x21 h20))))))))))))) ∧ (¬ (hI h6 a1 0 ≤ x4) → ((0 ≤ x4 ∧ x4 < 8) ∧ ∀ a26 : Nat, a26 = hR h6 (a1 + 1) x4.toNat → (∃ (I30 : Int → Nat → XH → Prop) (m30 : Int → Nat → XH → Nat), I30 x3 a26 h6 ∧ ∀ (x27 : Int) (a28 : Nat) (h29 : XH), HT h29 → HX h h29 → rg x27 → I30 x27 a28 h29 → (((a28 = 0 → (∀ x31 : Int, x31 = wr (x4 + 1) → rg x31 → (I7 x27 x31 h29 ∧ m7 x27 x31 h29 < m7 x3 x4 h6))) ∧ (¬ (a28 = 0) → (hk h29 a28 = 1 ∧ ∃ J35 : Int → XH → Prop, (∀ (x33 : Int) (h34 : XH), HT h34 → HX h h34 → rg x33 → J35 x33 h34 → (hk h34 a28 = 1 ∧ ∀ a37 : Nat, a37 = hR h34 a28 3 → (I30 x33 a37 h34 ∧ m30 x33 a37 h34 < m30 x27 a28 h29))) ∧ ((¬ iand (ishr (hI h29 68 5) (hI h29 a28 0)) 1 = 0 → J35 x27 h29) ∧ (¬ (¬ iand (ishr (hI h29 68 5) (hI h29 a28 0)) 1 = 0) → (((12 ≤ x27 → J35 x27 h29) ∧ (¬ (12 ≤ x27) → (∀ h38 : XH, h38 = sI h29 68 5 (ior (hI h29 68 5) (ishl 1 (hI h29 a28 0))) → HT h38 → HX h29 h38 → (0 ≤ x27 ∧ x27 < 12) ∧ ∀ h40 : XH, h40 = sI h38 69 x27.toNat (hI h38 a28 0) → HT h40 → HX h38 h40 → ∀ x41 : Int, x41 = wr (x27 + 1) → rg x41 → J35 x41 h40)))))))))))))))))) h)
set_option maxHeartbeats 4000000 in
theorem a_X9_findTurns {sc : Nat × (Nat → Int32)} {goal : XO → XH → Prop} {fs : List XF} {h : XH}  {K : XH → Prop} (hd : fs.length + 2 ≤ 1000) (w : w_X9_findTurns  K h) (t0 : HT h) (k : ∀ (h1 : XH), HT h1 → HX h h1 → K h1 → XFin xP sc goal fs (.inl none) h1) : RR sc goal fs 471 0 [some (rv 68), none, none, none, none] [] h := by
  unfold w_X9_findTurns at w
  refine r_aldn (pc1 := 1) rfl rfl rfl ?_
  refine r_gfC (pc1 := 4) (q := 8) rfl rfl rfl t0 (lyk t0 rfl) rfl rfl (lyR t0 rfl rfl) ?_
  refine r_iv rfl rfl rfl rfl rfl rfl t0 (lyk t0 rfl) rfl (xe_of (xa_r xa_0) rfl rfl) (r_d0 hd rfl) (a_X11_atHand  (r_d1 hd rfl)  w t0 (fun a1 w => ?_))
  refine r_fR (pc1 := 7) rfl ?_
  refine r_astn (pc1 := 8) (ls1 := [some (rv 68), some (rv a1), none, none, none]) rfl rfl rfl rfl ?_
  refine r_n (pc1 := 9) [.int (J 0)] _ rfl rfl ?_
  refine r_istn (pc1 := 10) (ls1 := [some (rv 68), some (rv a1), some (.int (J 0)), none, none]) rfl rfl rfl (xput1_rv rfl rfl) ?_
  refine r_aldn (pc1 := 11) rfl rfl rfl ?_
  refine r_n (pc1 := 12) [.int (J 0), rv 68] _ rfl rfl ?_
  refine r_pfI (pc1 := 15) rfl rfl rfl t0 (lyk t0 rfl) rfl rfl rfl (fun h2 eh2 t2 u2 => ?_)
  have w := w h2 eh2 t2 u2
  have s2 := HX_trans (HX_refl h) u2
  refine r_n (pc1 := 16) [.int (J 0)] _ rfl rfl ?_
  refine r_istn (pc1 := 17) (ls1 := [some (rv 68), some (rv a1), some (.int (J 0)), some (.int (J 0)), none]) rfl rfl rfl rfl ?_
  obtain ⟨I7, m7, w, y7⟩ := w
  have Q7 : ∀ (n : Nat) (d5 : Option Value) (x3 : Int) (x4 : Int) (h6 : XH), HT h6 → HX h h6 → rg x3 → rg x4 → m7 x3 x4 h6 < n → I7 x3 x4 h6 → RR sc goal fs 471 17 [some (rv 68), some (rv a1), some (.int (J x3)), some (.int (J x4)), d5] [] h6 := by
    intro n
    induction n with
    | zero => intro d5 x3 x4 h6 t6 s6 rx3 rx4 q7 _; exact absurd q7 (Nat.not_lt_zero _)
    | succ n ih7 =>
      intro d5 x3 x4 h6 t6 s6 rx3 rx4 q7 z7
      have w := y7 x3 x4 h6 t6 s6 rx3 rx4 z7
      refine r_n (pc1 := 18) [.int (J x4)] _ rfl rfl ?_
      refine r_aldn (pc1 := 19) rfl rfl rfl ?_
      obtain ⟨c8, w⟩ := w
      refine r_gfI (pc1 := 22) rfl rfl rfl t6 c8 rfl rfl ?_
      refine r_ic (t := 105) (pc1 := 25) rfl rfl rfl rx4 (rgh _ _ _) (fun c45 => ?_) (fun c45 => ?_)
      · have w := w.1 c45
        refine r_n (pc1 := 106) [.int (J 0)] _ rfl rfl ?_
        refine r_istn (pc1 := 107) (ls1 := [some (rv 68), some (rv a1), some (.int (J x3)), some (.int (J 0)), d5]) rfl rfl rfl rfl ?_
        obtain ⟨I13, m13, w, y13⟩ := w
        have Q13 : ∀ (n : Nat) (d9 : Option Value) (x10 : Int) (x11 : Int) (h12 : XH), HT h12 → HX h h12 → rg x10 → rg x11 → m13 x10 x11 h12 < n → I13 x10 x11 h12 → RR sc goal fs 471 107 [some (rv 68), d9, some (.int (J x10)), some (.int (J x11)), d5] [] h12 := by
          intro n
          induction n with
          | zero => intro d9 x10 x11 h12 t12 s12 rx10 rx11 q13 _; exact absurd q13 (Nat.not_lt_zero _)
          | succ n ih13 =>
            intro d9 x10 x11 h12 t12 s12 rx10 rx11 q13 z13
            have w := y13 x10 x11 h12 t12 s12 rx10 rx11 z13
            refine r_n (pc1 := 108) [.int (J x11)] _ rfl rfl ?_
            refine r_aldn (pc1 := 109) rfl rfl rfl ?_
            refine r_gfC (pc1 := 112) (q := 9) rfl rfl rfl t12 (lyk t12 rfl) rfl rfl (lyR t12 rfl rfl) ?_
            refine r_gfI (pc1 := 115) rfl rfl rfl t12 (lyk t12 rfl) rfl rfl ?_
            refine r_ic (t := 151) (pc1 := 118) rfl rfl rfl rx11 (rgh _ _ _) (fun c24 => ?_) (fun c24 => ?_)
            · have w := w.1 c24
              exact r_retV rfl rfl rfl (k _ t12 s12 w)
            · have w := w.2 c24
              refine r_aldn (pc1 := 119) rfl rfl rfl ?_
              refine r_gfI (pc1 := 122) rfl rfl rfl t12 (lyk t12 rfl) rfl rfl ?_
              refine r_n (pc1 := 123) [.int (J x11), .int (J (hI h12 68 5))] _ rfl rfl ?_
              refine r_ishr (pc1 := 124) rfl rfl ?_
              refine r_n (pc1 := 125) [.int (J 1), .int (J (ishr (hI h12 68 5) x11))] _ rfl rfl ?_
              refine r_iand (pc1 := 126) rfl rfl ?_
              obtain ⟨J17, j17, w⟩ := w
              have Q17 : ∀ (d14 : Option Value) (x15 : Int) (h16 : XH), HT h16 → HX h h16 → rg x15 → J17 x15 h16 → RR sc goal fs 471 145 [some (rv 68), d14, some (.int (J x15)), some (.int (J x11)), d5] [] h16 := by
                intro d14 x15 h16 t16 s16 rx15 z17
                have w := j17 x15 h16 t16 s16 rx15 z17
                refine r_inc (pc1 := 148) (g := fun zz => [some (rv 68), d14, some (.int (J x15)), some (.int (J zz)), d5]) rfl rfl rfl rfl (fun _ => rfl) (fun x18 ex18 rx18 => ?_)
                have w := w x18 ex18 rx18
                refine r_goto (t := 107) rfl rfl ?_
                exact ih13 _ x15 x18 h16 t16 s16 rx15 rx18 (Nat.lt_of_lt_of_le w.2 (Nat.le_of_lt_succ q13)) w.1
              refine r_iz (t := 145) (pc1 := 129) rfl rfl rfl (rgt _) (fun c23 => ?_) (fun c23 => ?_)
              · have w := w.1 c23
                exact Q17 _ x10 h12 t12 s12 rx10 w
              · have w := w.2 c23
                refine r_n (pc1 := 130) [.int (J x10)] _ rfl rfl ?_
                refine r_n (pc1 := 132) [.int (J 12), .int (J x10)] _ rfl rfl ?_
                refine r_ic (t := 145) (pc1 := 135) rfl rfl rfl rx10 (rgk rfl) (fun c22 => ?_) (fun c22 => ?_)
                · have w := w.1 c22
                  exact Q17 _ x10 h12 t12 s12 rx10 w
                · have w := w.2 c22
                  refine r_aldn (pc1 := 136) rfl rfl rfl ?_
                  refine r_gfC (pc1 := 139) (q := 69) rfl rfl rfl t12 (lyk t12 rfl) rfl rfl (lyR t12 rfl rfl) ?_
                  refine r_n (pc1 := 140) [.int (J x10), rv 69] _ rfl rfl ?_
                  refine r_n (pc1 := 141) [.int (J x11), .int (J x10), rv 69] _ rfl rfl ?_
                  obtain ⟨c19, w⟩ := w
                  refine r_iast (pc1 := 142) rfl rfl t12 (lyk t12 rfl) rx10 c19.1 (lt_len (lyn t12 rfl) c19.2) (fun h20 eh20 t20 u20 => ?_)
                  have w := w h20 eh20 t20 u20
                  have s20 := HX_trans s12 u20
                  refine r_inc (pc1 := 145) (g := fun zz => [some (rv 68), (dcl d9), some (.int (J zz)), some (.int (J x11)), d5]) rfl rfl rfl rfl (fun _ => xput1_d rfl rfl) (fun x21 ex21 rx21 => ?_)
                  have w := w x21 ex21 rx21
                  exact Q17 _ x21 h20 t20 s20 rx21 w
        exact Q13 _ _ x3 0 h6 t6 s6 rx3 (rgk rfl) (Nat.lt_succ_self _) w
      · have w := w.2 c45
        refine r_aldn (pc1 := 26) rfl rfl rfl ?_
        refine r_gfC (pc1 := 29) (q := (a1 + 1)) rfl rfl rfl t6 c8 rfl rfl (lyr_7_1 t6 c8) ?_
        refine r_n (pc1 := 30) [.int (J x4), rv (a1 + 1)] _ rfl rfl ?_
        obtain ⟨c25, w⟩ := w
        refine r_aal (pc1 := 31) (u := 3) rfl rfl t6 (lyo_7_1 t6 c8).1 rfl rfl rx4 c25.1 (lt_len (lyo_7_1 t6 c8).2 c25.2) ?_
        refine r_vR (fun a26 ea26 => ?_)
        have w := w a26 ea26
        refine r_ast (pc1 := 33) (ls1 := [some (rv 68), some (rv a1), some (.int (J x3)), some (.int (J x4)), some (rv a26)]) rfl rfl rfl rfl ?_
        obtain ⟨I30, m30, w, y30⟩ := w
        have Q30 : ∀ (n : Nat)  (x27 : Int) (a28 : Nat) (h29 : XH), HT h29 → HX h h29 → rg x27 → m30 x27 a28 h29 < n → I30 x27 a28 h29 → RR sc goal fs 471 33 [some (rv 68), some (rv a1), some (.int (J x27)), some (.int (J x4)), some (rv a28)] [] h29 := by
          intro n
          induction n with
          | zero => intro x27 a28 h29 t29 s29 rx27 q30 _; exact absurd q30 (Nat.not_lt_zero _)
          | succ n ih30 =>
            intro x27 a28 h29 t29 s29 rx27 q30 z30
            have w := y30 x27 a28 h29 t29 s29 rx27 z30
            refine r_ald (pc1 := 35) rfl rfl rfl ?_
            refine r_null (t := 99) (pc1 := 38) rfl rfl rfl (fun c44 => ?_) (fun c44 => ?_)
            · have w := w.1 c44
              refine r_inc (pc1 := 102) (g := fun zz => [some (rv 68), some (rv a1), some (.int (J x27)), some (.int (J zz)), some (rv a28)]) rfl rfl rfl rfl (fun _ => rfl) (fun x31 ex31 rx31 => ?_)
              have w := w x31 ex31 rx31
              refine r_goto (t := 17) rfl rfl ?_
              exact ih7 _ x27 x31 h29 t29 s29 rx27 rx31 (Nat.lt_of_lt_of_le w.2 (Nat.le_of_lt_succ q7)) w.1
            · have w := w.2 c44
              refine r_aldn (pc1 := 39) rfl rfl rfl ?_
              refine r_gfI (pc1 := 42) rfl rfl rfl t29 (lyk t29 rfl) rfl rfl ?_
              refine r_ald (pc1 := 44) rfl rfl rfl ?_
              obtain ⟨c32, w⟩ := w
              refine r_gfI (pc1 := 47) rfl rfl rfl t29 c32 rfl rfl ?_
              refine r_ishr (pc1 := 48) rfl rfl ?_
              refine r_n (pc1 := 49) [.int (J 1), .int (J (ishr (hI h29 68 5) (hI h29 a28 0)))] _ rfl rfl ?_
              refine r_iand (pc1 := 50) rfl rfl ?_
              obtain ⟨J35, j35, w⟩ := w
              have Q35 : ∀ (x33 : Int) (h34 : XH), HT h34 → HX h h34 → rg x33 → J35 x33 h34 → RR sc goal fs 471 89 [some (rv 68), some (rv a1), some (.int (J x33)), some (.int (J x4)), some (rv a28)] [] h34 := by
                intro x33 h34 t34 s34 rx33 z35
                have w := j35 x33 h34 t34 s34 rx33 z35
                refine r_ald (pc1 := 91) rfl rfl rfl ?_
                obtain ⟨c36, w⟩ := w
                refine r_gfR (pc1 := 94) rfl rfl rfl t34 c36 rfl rfl ?_
                refine r_vR (fun a37 ea37 => ?_)
                have w := w a37 ea37
                refine r_ast (pc1 := 96) (ls1 := [some (rv 68), some (rv a1), some (.int (J x33)), some (.int (J x4)), some (rv a37)]) rfl rfl rfl rfl ?_
                refine r_goto (t := 33) rfl rfl ?_
                exact ih30  x33 a37 h34 t34 s34 rx33 (Nat.lt_of_lt_of_le w.2 (Nat.le_of_lt_succ q30)) w.1
              refine r_iz (t := 89) (pc1 := 53) rfl rfl rfl (rgt _) (fun c43 => ?_) (fun c43 => ?_)
              · have w := w.1 c43
                exact Q35  x27 h29 t29 s29 rx27 w
              · have w := w.2 c43
                refine r_n (pc1 := 54) [.int (J x27)] _ rfl rfl ?_
                refine r_n (pc1 := 56) [.int (J 12), .int (J x27)] _ rfl rfl ?_
                refine r_ic (t := 89) (pc1 := 59) rfl rfl rfl rx27 (rgk rfl) (fun c42 => ?_) (fun c42 => ?_)
                · have w := w.1 c42
                  exact Q35  x27 h29 t29 s29 rx27 w
                · have w := w.2 c42
                  refine r_aldn (pc1 := 60) rfl rfl rfl ?_
                  refine r_dupR (pc1 := 61) rfl rfl ?_
                  refine r_gfI (pc1 := 64) rfl rfl rfl t29 (lyk t29 rfl) rfl rfl ?_
                  refine r_n (pc1 := 65) [.int (J 1), .int (J (hI h29 68 5)), rv 68] _ rfl rfl ?_
                  refine r_ald (pc1 := 67) rfl rfl rfl ?_
                  refine r_gfI (pc1 := 70) rfl rfl rfl t29 c32 rfl rfl ?_
                  refine r_ishl (pc1 := 71) rfl rfl ?_
                  refine r_ior (pc1 := 72) rfl rfl ?_
                  refine r_pfI (pc1 := 75) rfl rfl rfl t29 (lyk t29 rfl) rfl rfl rfl (fun h38 eh38 t38 u38 => ?_)
                  have w := w h38 eh38 t38 u38
                  have s38 := HX_trans s29 u38
                  refine r_aldn (pc1 := 76) rfl rfl rfl ?_
                  refine r_gfC (pc1 := 79) (q := 69) rfl rfl rfl t38 (lyk t38 rfl) rfl rfl (lyR t38 rfl rfl) ?_
                  refine r_n (pc1 := 80) [.int (J x27), rv 69] _ rfl rfl ?_
                  refine r_ald (pc1 := 82) rfl rfl rfl ?_
                  refine r_gfI (pc1 := 85) rfl rfl rfl t38 (HXk u38 c32 rfl) rfl rfl ?_
                  obtain ⟨c39, w⟩ := w
                  refine r_iast (pc1 := 86) rfl rfl t38 (lyk t38 rfl) rx27 c39.1 (lt_len (lyn t38 rfl) c39.2) (fun h40 eh40 t40 u40 => ?_)
                  have w := w h40 eh40 t40 u40
                  have s40 := HX_trans s38 u40
                  refine r_inc (pc1 := 89) (g := fun zz => [some (rv 68), some (rv a1), some (.int (J zz)), some (.int (J x4)), some (rv a28)]) rfl rfl rfl rfl (fun _ => xput1_rv rfl rfl) (fun x41 ex41 rx41 => ?_)
                  have w := w x41 ex41 rx41
                  exact Q35  x41 h40 t40 s40 rx41 w
        exact Q30 _  x3 a26 h6 t6 s6 rx3 (Nat.lt_succ_self _) w
  exact Q7 _ _ 0 0 h2 t2 s2 (rgk rfl) (rgk rfl) (Nat.lt_succ_self _) w
def w_X9_canStill (p0 : BitVec 64) (p1 : BitVec 64) (K : Int → XH → Prop) (h : XH) : Prop :=
  (∃ J1 : Prop, (J1 → (w_X7_canHold p0 p1 (fun x2 h3 => HT h3 → HX h h3 → rg x2 → (x2 = 0 ∨ x2 = 1) → (∃ J5 : BitVec 64 → Prop, (∀ (b4 : BitVec 64), J5 b4 → (∀ h6 : XH, h6 = sL h3 68 3 b4 → HT h6 → HX h3 h6 → K x2 h6)) ∧ ((x2 = 0 → (J5 (hL h3 68 3))) ∧ (¬ (x2 = 0) → (w_X7_found (fun b7 => (J5 b7)) h3))))) h)) ∧ ((¬ p0 &&& ((hL h 68 3) ^^^ (18446744073709551615#64)) = (0#64) → J1) ∧ (¬ (¬ p0 &&& ((hL h 68 3) ^^^ (18446744073709551615#64)) = (0#64)) → (((¬ p1 &&& (hL h 68 3) = (0#64) → J1) ∧ (¬ (¬ p1 &&& (hL h 68 3) = (0#64)) → (K 1 h)))))))
set_option maxHeartbeats 4000000 in
theorem a_X9_canStill {sc : Nat × (Nat → Int32)} {goal : XO → XH → Prop} {fs : List XF} {h : XH} (p0 : BitVec 64) (p1 : BitVec 64) {K : Int → XH → Prop} (hd : fs.length + 5 ≤ 1000) (w : w_X9_canStill p0 p1 K h) (t0 : HT h) (k : ∀ (r : Int) (h1 : XH), HT h1 → HX h h1 → rg r → (r = 0 ∨ r = 1) → K r h1 → XFin xP sc goal fs (.inl (some (.int (J r)))) h1) : RR sc goal fs 469 0 [some (rv 68), some (.long (G p0)), none, some (.long (G p1)), none, none] [] h := by
  unfold w_X9_canStill at w
  refine r_n (pc1 := 1) [.long (G p0)] _ rfl rfl ?_
  refine r_aldn (pc1 := 2) rfl rfl rfl ?_
  refine r_gfL (pc1 := 5) rfl rfl rfl t0 (lyk t0 rfl) rfl rfl ?_
  refine r_n (pc1 := 8) [.long (G (18446744073709551615#64)), .long (G (hL h 68 3)), .long (G p0)] _ rfl rfl ?_
  refine r_lxor (pc1 := 9) rfl rfl ?_
  refine r_land (pc1 := 10) rfl rfl ?_
  refine r_n (pc1 := 11) [.long (G (0#64)), .long (G (p0 &&& ((hL h 68 3) ^^^ (18446744073709551615#64))))] _ rfl rfl ?_
  obtain ⟨J1, j1, w⟩ := w
  have Q1 : J1 → RR sc goal fs 469 28 [some (rv 68), some (.long (G p0)), none, some (.long (G p1)), none, none] [] h := by
    intro z1
    have w := j1 z1
    refine r_aldn (pc1 := 29) rfl rfl rfl ?_
    refine r_gfC (pc1 := 32) (q := 57) rfl rfl rfl t0 (lyk t0 rfl) rfl rfl (lyR t0 rfl rfl) ?_
    refine r_n (pc1 := 33) [.long (G p0), rv 57] _ rfl rfl ?_
    refine r_n (pc1 := 34) [.long (G p1), .long (G p0), rv 57] _ rfl rfl ?_
    refine r_iv rfl rfl rfl rfl rfl rfl t0 (lyk t0 rfl) rfl (xe_of (xa_r (xa_l (xa_l xa_0))) rfl rfl) (r_d0 hd rfl) (a_X7_canHold p0 p1 (r_d1 hd rfl)  w t0 (fun x2 h3 t3 u3 rx2 vx2 w => ?_))
    refine r_fI (pc1 := 37) rfl ?_
    have s3 := HX_trans (HX_refl h) u3
    have w := w t3 u3
    have w := w rx2 vx2
    refine r_ist (pc1 := 39) (ls1 := [some (rv 68), some (.long (G p0)), none, some (.long (G p1)), none, some (.int (J x2))]) rfl rfl rfl rfl ?_
    refine r_aldn (pc1 := 40) rfl rfl rfl ?_
    refine r_n (pc1 := 42) [.int (J x2), rv 68] _ rfl rfl ?_
    obtain ⟨J5, j5, w⟩ := w
    have Q5 : ∀ (b4 : BitVec 64), J5 b4 → RR sc goal fs 469 59 [some (rv 68), some (.long (G p0)), none, some (.long (G p1)), none, some (.int (J x2))] [.long (G b4), rv 68] h3 := by
      intro b4 z5
      have w := j5 b4 z5
      refine r_pfL (pc1 := 62) rfl rfl rfl t3 (lyk t3 rfl) rfl rfl rfl (fun h6 eh6 t6 u6 => ?_)
      have w := w h6 eh6 t6 u6
      have s6 := HX_trans s3 u6
      refine r_n (pc1 := 64) [.int (J x2)] _ rfl rfl ?_
      exact r_retB rfl rfl rfl vx2 (k _ _ t6 s6 rx2 vx2 w)
    refine r_iz (t := 55) (pc1 := 45) rfl rfl rfl rx2 (fun c8 => ?_) (fun c8 => ?_)
    · have w := w.1 c8
      refine r_aldn (pc1 := 56) rfl rfl rfl ?_
      refine r_gfL (pc1 := 59) rfl rfl rfl t3 (lyk t3 rfl) rfl rfl ?_
      exact Q5  (hL h3 68 3)   w
    · have w := w.2 c8
      refine r_aldn (pc1 := 46) rfl rfl rfl ?_
      refine r_gfC (pc1 := 49) (q := 57) rfl rfl rfl t3 (lyk t3 rfl) rfl rfl (lyR t3 rfl rfl) ?_
      refine r_iv rfl rfl rfl rfl rfl rfl t3 (lyk t3 rfl) rfl (xe_of (xa_r xa_0) rfl rfl) (r_d0 hd rfl) (a_X7_found  (r_d1 hd rfl)  w t3 (fun b7 w => ?_))
      refine r_fL (pc1 := 52) rfl ?_
      refine r_goto (t := 59) rfl rfl ?_
      exact Q5  b7   w
  refine r_lc (pc2 := 12) (t := 28) (pc1 := 15) rfl rfl rfl rfl rfl (fun c10 => ?_) (fun c10 => ?_)
  · have w := w.1 c10
    exact Q1     w
  · have w := w.2 c10
    refine r_n (pc1 := 16) [.long (G p1)] _ rfl rfl ?_
    refine r_aldn (pc1 := 17) rfl rfl rfl ?_
    refine r_gfL (pc1 := 20) rfl rfl rfl t0 (lyk t0 rfl) rfl rfl ?_
    refine r_land (pc1 := 21) rfl rfl ?_
    refine r_n (pc1 := 22) [.long (G (0#64)), .long (G (p1 &&& (hL h 68 3)))] _ rfl rfl ?_
    refine r_lc (pc2 := 23) (t := 28) (pc1 := 26) rfl rfl rfl rfl rfl (fun c9 => ?_) (fun c9 => ?_)
    · have w := w.1 c9
      exact Q1     w
    · have w := w.2 c9
      refine r_n (pc1 := 27) [.int (J 1)] _ rfl rfl ?_
      exact r_retB rfl rfl rfl (.inr rfl) (k _ _ t0 (HX_refl h) (rgk rfl) (.inr rfl) w)
def w_X9_bestVersion (p0 : Int) (p1 : BitVec 64) (p2 : BitVec 64) (K : BitVec 64 → XH → Prop) (h : XH) : Prop :=
  (∃ J2 : Int → Prop, (∀ (x1 : Int), rg x1 → J2 x1 → (∃ J4 : XH → Prop, (∀ (h3 : XH), HT h3 → HX h h3 → J4 h3 → ((0 ≤ p0 ∧ p0 < 12) ∧ ∀ x6 : Int, x6 = wr ((hI h3 10 p0.toNat) - 1) → rg x6 → (∃ (I12 : Int → XH → Prop) (m12 : Int → XH → Nat), I12 x6 h3 ∧ ∀ (x8 : Int) (h11 : XH), HT h11 → HX h h11 → rg x8 → I12 x8 h11 → (((x8 < 0 → (K (0#64) h11)) ∧ (¬ (x8 < 0) → (w_X8_idAt p0 x8 (fun x13 => rg x13 → (∀ b14 : BitVec 64, b14 = lshl (1#64) x13 → w_X9_canStill (p1 ||| b14) p2 (fun x15 h16 => HT h16 → HX h11 h16 → rg x15 → (x15 = 0 ∨ x15 = 1) → (((x15 = 0 → (∀ x17 : Int, x17 = wr (x8 + (-1)) → rg x17 → (I12 x17 h16 ∧ m12 x17 h16 < m12 x8 h11))) ∧ (¬ (x15 = 0) → (K b14 h16))))) h11)) h11))))))) ∧ ((¬ x1 = 0 → J4 h) ∧ (¬ (¬ x1 = 0) → (w_X8_versionsOf p0 (fun b20 => (w_X9_canStill p1 (p2 ||| b20) (fun x21 h22 => HT h22 → HX h h22 → rg x21 → (x21 = 0 ∨ x21 = 1) → (((x21 = 0 → J4 h22) ∧ (¬ (x21 = 0) → (K (0#64) h22))))) h)) h))))) ∧ ((iand (ishr (hI h 68 5) p0) 1 = 0 → (J2 0)) ∧ (¬ (iand (ishr (hI h 68 5) p0) 1 = 0) → (J2 1))))
set_option maxHeartbeats 4000000 in
theorem a_X9_bestVersion {sc : Nat × (Nat → Int32)} {goal : XO → XH → Prop} {fs : List XF} {h : XH} (p0 : Int) (p1 : BitVec 64) (p2 : BitVec 64) {K : BitVec 64 → XH → Prop} (hd : fs.length + 6 ≤ 1000) (rp0 : rg p0) (w : w_X9_bestVersion p0 p1 p2 K h) (t0 : HT h) (k : ∀ (r : BitVec 64) (h1 : XH), HT h1 → HX h h1 → K r h1 → XFin xP sc goal fs (.inl (some (.long (G r)))) h1) : RR sc goal fs 468 0 [some (rv 68), some (.int (J p0)), some (.long (G p1)), none, some (.long (G p2)), none, none, none, none, none] [] h := by
  unfold w_X9_bestVersion at w
  refine r_aldn (pc1 := 1) rfl rfl rfl ?_
  refine r_gfI (pc1 := 4) rfl rfl rfl t0 (lyk t0 rfl) rfl rfl ?_
  refine r_n (pc1 := 5) [.int (J p0), .int (J (hI h 68 5))] _ rfl rfl ?_
  refine r_ishr (pc1 := 6) rfl rfl ?_
  refine r_n (pc1 := 7) [.int (J 1), .int (J (ishr (hI h 68 5) p0))] _ rfl rfl ?_
  refine r_iand (pc1 := 8) rfl rfl ?_
  obtain ⟨J2, j2, w⟩ := w
  have Q2 : ∀ (x1 : Int), rg x1 → J2 x1 → RR sc goal fs 468 16 [some (rv 68), some (.int (J p0)), some (.long (G p1)), none, some (.long (G p2)), none, none, none, none, none] [.int (J x1)] h := by
    intro x1 rx1 z2
    have w := j2 x1 rx1 z2
    refine r_ist (pc1 := 18) (ls1 := [some (rv 68), some (.int (J p0)), some (.long (G p1)), none, some (.long (G p2)), none, some (.int (J x1)), none, none, none]) rfl rfl rfl rfl ?_
    refine r_n (pc1 := 20) [.int (J x1)] _ rfl rfl ?_
    obtain ⟨J4, j4, w⟩ := w
    have Q4 : ∀ (h3 : XH), HT h3 → HX h h3 → J4 h3 → RR sc goal fs 468 44 [some (rv 68), some (.int (J p0)), some (.long (G p1)), none, some (.long (G p2)), none, some (.int (J x1)), none, none, none] [] h3 := by
      intro h3 t3 s3 z4
      have w := j4 h3 t3 s3 z4
      refine r_aldn (pc1 := 45) rfl rfl rfl ?_
      refine r_gfC (pc1 := 48) (q := 9) rfl rfl rfl t3 (lyk t3 rfl) rfl rfl (lyR t3 rfl rfl) ?_
      refine r_gfC (pc1 := 51) (q := 10) rfl rfl rfl t3 (lyk t3 rfl) rfl rfl (lyR t3 rfl rfl) ?_
      refine r_n (pc1 := 52) [.int (J p0), rv 10] _ rfl rfl ?_
      obtain ⟨c5, w⟩ := w
      refine r_ial (pc1 := 53) rfl rfl t3 (lyk t3 rfl) rp0 c5.1 (lt_len (lyn t3 rfl) c5.2) ?_
      refine r_n (pc1 := 54) [.int (J 1), .int (J (hI h3 10 p0.toNat))] _ rfl rfl ?_
      refine r_isub (pc1 := 55) rfl rfl ?_
      refine r_vI (rgw _) (fun x6 ex6 rx6 => ?_)
      have w := w x6 ex6 rx6
      refine r_ist (pc1 := 57) (ls1 := [some (rv 68), some (.int (J p0)), some (.long (G p1)), none, some (.long (G p2)), none, some (.int (J x1)), some (.int (J x6)), none, none]) rfl rfl rfl rfl ?_
      obtain ⟨I12, m12, w, y12⟩ := w
      have Q12 : ∀ (n : Nat) (d7 : Option Value) (d9 : Option Value) (d10 : Option Value) (x8 : Int) (h11 : XH), HT h11 → HX h h11 → rg x8 → m12 x8 h11 < n → I12 x8 h11 → RR sc goal fs 468 57 [some (rv 68), some (.int (J p0)), some (.long (G p1)), none, some (.long (G p2)), none, d7, some (.int (J x8)), d9, d10] [] h11 := by
        intro n
        induction n with
        | zero => intro d7 d9 d10 x8 h11 t11 s11 rx8 q12 _; exact absurd q12 (Nat.not_lt_zero _)
        | succ n ih12 =>
          intro d7 d9 d10 x8 h11 t11 s11 rx8 q12 z12
          have w := y12 x8 h11 t11 s11 rx8 z12
          refine r_n (pc1 := 59) [.int (J x8)] _ rfl rfl ?_
          refine r_iz (t := 98) (pc1 := 62) rfl rfl rfl rx8 (fun c19 => ?_) (fun c19 => ?_)
          · have w := w.1 c19
            refine r_n (pc1 := 99) [.long (G (0#64))] _ rfl rfl ?_
            exact r_retL rfl rfl rfl (k _ _ t11 s11 w)
          · have w := w.2 c19
            refine r_n (pc1 := 63) [.long (G (1#64))] _ rfl rfl ?_
            refine r_aldn (pc1 := 64) rfl rfl rfl ?_
            refine r_gfC (pc1 := 67) (q := 9) rfl rfl rfl t11 (lyk t11 rfl) rfl rfl (lyR t11 rfl rfl) ?_
            refine r_n (pc1 := 68) [.int (J p0), rv 9, .long (G (1#64))] _ rfl rfl ?_
            refine r_n (pc1 := 70) [.int (J x8), .int (J p0), rv 9, .long (G (1#64))] _ rfl rfl ?_
            refine r_iv rfl rfl rfl rfl rfl rfl t11 (lyk t11 rfl) rfl (xe_of (xa_r (xa_i (xa_i xa_0))) rfl rfl) (r_d0 hd rfl) (a_X8_idAt p0 x8 (r_d1 hd rfl) rp0 rx8 w t11 (fun x13 rx13 w => ?_))
            refine r_fI (pc1 := 73) rfl ?_
            have w := w rx13
            refine r_lshl (pc1 := 74) rfl rfl ?_
            refine r_vL (fun b14 eb14 => ?_)
            have w := w b14 eb14
            refine r_lst (pc1 := 76) (ls1 := [some (rv 68), some (.int (J p0)), some (.long (G p1)), none, some (.long (G p2)), none, d7, some (.int (J x8)), some (.long (G b14)), none]) rfl rfl rfl rfl ?_
            refine r_aldn (pc1 := 77) rfl rfl rfl ?_
            refine r_n (pc1 := 78) [.long (G p1), rv 68] _ rfl rfl ?_
            refine r_n (pc1 := 80) [.long (G b14), .long (G p1), rv 68] _ rfl rfl ?_
            refine r_lor (pc1 := 81) rfl rfl ?_
            refine r_n (pc1 := 83) [.long (G p2), .long (G (p1 ||| b14)), rv 68] _ rfl rfl ?_
            refine r_iv rfl rfl rfl rfl rfl rfl t11 (lyk t11 rfl) rfl (xe_of (xa_r (xa_l (xa_l xa_0))) rfl rfl) (r_d0 hd rfl) (a_X9_canStill (p1 ||| b14) p2 (r_d1 hd rfl)  w t11 (fun x15 h16 t16 u16 rx15 vx15 w => ?_))
            refine r_fI (pc1 := 86) rfl ?_
            have s16 := HX_trans s11 u16
            have w := w t16 u16
            have w := w rx15 vx15
            refine r_iz (t := 92) (pc1 := 89) rfl rfl rfl rx15 (fun c18 => ?_) (fun c18 => ?_)
            · have w := w.1 c18
              refine r_inc (pc1 := 95) (g := fun zz => [some (rv 68), some (.int (J p0)), some (.long (G p1)), none, some (.long (G p2)), none, (dcl d7), some (.int (J zz)), some (.long (G b14)), none]) rfl rfl rfl rfl (fun _ => xput1_d rfl rfl) (fun x17 ex17 rx17 => ?_)
              have w := w x17 ex17 rx17
              refine r_goto (t := 57) rfl rfl ?_
              exact ih12 _ _ _ x17 h16 t16 s16 rx17 (Nat.lt_of_lt_of_le w.2 (Nat.le_of_lt_succ q12)) w.1
            · have w := w.2 c18
              refine r_n (pc1 := 91) [.long (G b14)] _ rfl rfl ?_
              exact r_retL rfl rfl rfl (k _ _ t16 s16 w)
      exact Q12 _ _ _ _ x6 h3 t3 s3 rx6 (Nat.lt_succ_self _) w
    refine r_iz (t := 44) (pc1 := 23) rfl rfl rfl rx1 (fun c24 => ?_) (fun c24 => ?_)
    · have w := w.1 c24
      exact Q4   h t0 (HX_refl h)  w
    · have w := w.2 c24
      refine r_aldn (pc1 := 24) rfl rfl rfl ?_
      refine r_n (pc1 := 25) [.long (G p1), rv 68] _ rfl rfl ?_
      refine r_n (pc1 := 27) [.long (G p2), .long (G p1), rv 68] _ rfl rfl ?_
      refine r_aldn (pc1 := 28) rfl rfl rfl ?_
      refine r_gfC (pc1 := 31) (q := 9) rfl rfl rfl t0 (lyk t0 rfl) rfl rfl (lyR t0 rfl rfl) ?_
      refine r_n (pc1 := 32) [.int (J p0), rv 9, .long (G p2), .long (G p1), rv 68] _ rfl rfl ?_
      refine r_iv rfl rfl rfl rfl rfl rfl t0 (lyk t0 rfl) rfl (xe_of (xa_r (xa_i xa_0)) rfl rfl) (r_d0 hd rfl) (a_X8_versionsOf p0 (r_d1 hd rfl) rp0 w t0 (fun b20 w => ?_))
      refine r_fL (pc1 := 35) rfl ?_
      refine r_lor (pc1 := 36) rfl rfl ?_
      refine r_iv rfl rfl rfl rfl rfl rfl t0 (lyk t0 rfl) rfl (xe_of (xa_r (xa_l (xa_l xa_0))) rfl rfl) (r_d0 hd rfl) (a_X9_canStill p1 (p2 ||| b20) (r_d1 hd rfl)  w t0 (fun x21 h22 t22 u22 rx21 vx21 w => ?_))
      refine r_fI (pc1 := 39) rfl ?_
      have s22 := HX_trans (HX_refl h) u22
      have w := w t22 u22
      have w := w rx21 vx21
      refine r_iz (t := 44) (pc1 := 42) rfl rfl rfl rx21 (fun c23 => ?_) (fun c23 => ?_)
      · have w := w.1 c23
        exact Q4   h22 t22 s22  w
      · have w := w.2 c23
        refine r_n (pc1 := 43) [.long (G (0#64))] _ rfl rfl ?_
        exact r_retL rfl rfl rfl (k _ _ t22 s22 w)
  refine r_iz (t := 15) (pc1 := 11) rfl rfl rfl (rgt _) (fun c25 => ?_) (fun c25 => ?_)
  · have w := w.1 c25
    refine r_n (pc1 := 16) [.int (J 0)] _ rfl rfl ?_
    exact Q2  0  (rgk rfl) w
  · have w := w.2 c25
    refine r_n (pc1 := 12) [.int (J 1)] _ rfl rfl ?_
    refine r_goto (t := 16) rfl rfl ?_
    exact Q2  1  (rgk rfl) w
