/-! printed by dec.py: what each method wants, and that the machine keeps it -/ 
def w_X8_addNeed (p0 : Int) (p1 : Nat) (p2 : Int) (K : Int → XH → Prop) (h : XH) : Prop :=
  ((0 ≤ p0 ∧ p0 < 40) ∧ ∀ x2 : Int, x2 = wr ((wr (p0 * 3)) + (hI h 18 p0.toNat)) → rg x2 → (0 ≤ x2 ∧ x2 < 120) ∧ (p1 = 0 ∨ hk h p1 = 1) ∧ ∀ h5 : XH, h5 = sR h 19 x2.toNat p1 → HT h5 → HX h h5 → (p2 = 0 ∨ p2 = 1) ∧ ∀ h7 : XH, h7 = sI h5 20 x2.toNat p2 → HT h7 → HX h5 h7 → ∀ h8 : XH, h8 = sI h7 18 p0.toNat (wr ((hI h7 18 p0.toNat) + 1)) → HT h8 → HX h7 h8 → K (hI h8 18 p0.toNat) h8)
set_option maxHeartbeats 4000000 in
theorem a_X8_addNeed {sc : Nat × (Nat → Int32)} {goal : XO → XH → Prop} {fs : List XF} {h : XH} (p0 : Int) (p1 : Nat) (p2 : Int) {K : Int → XH → Prop} (hd : fs.length + 0 ≤ 1000) (rp0 : rg p0) (rp2 : rg p2) (w : w_X8_addNeed p0 p1 p2 K h) (t0 : HT h) (k : ∀ (r : Int) (h1 : XH), HT h1 → HX h h1 → rg r → K r h1 → XFin xP sc goal fs (.inl (some (.int (J r)))) h1) : RR sc goal fs 451 0 [some (rv 9), some (.int (J p0)), some (rv p1), some (.int (J p2)), none] [] h := by
  unfold w_X8_addNeed at w
  refine r_n (pc1 := 1) [.int (J p0)] _ rfl rfl ?_
  refine r_n (pc1 := 2) [.int (J 3), .int (J p0)] _ rfl rfl ?_
  refine r_imul (pc1 := 3) rfl rfl ?_
  refine r_aldn (pc1 := 4) rfl rfl rfl ?_
  refine r_gfC (pc1 := 7) (q := 18) rfl rfl rfl t0 (lyk t0 rfl) rfl rfl (lyR t0 rfl rfl) ?_
  refine r_n (pc1 := 8) [.int (J p0), rv 18, .int (J (wr (p0 * 3)))] _ rfl rfl ?_
  obtain ⟨c1, w⟩ := w
  refine r_ial (pc1 := 9) rfl rfl t0 (lyk t0 rfl) rp0 c1.1 (lt_len (lyn t0 rfl) c1.2) ?_
  refine r_iadd (pc1 := 10) rfl rfl ?_
  refine r_vI (rgw _) (fun x2 ex2 rx2 => ?_)
  have w := w x2 ex2 rx2
  refine r_ist (pc1 := 12) (ls1 := [some (rv 9), some (.int (J p0)), some (rv p1), some (.int (J p2)), some (.int (J x2))]) rfl rfl rfl rfl ?_
  refine r_aldn (pc1 := 13) rfl rfl rfl ?_
  refine r_gfC (pc1 := 16) (q := 19) rfl rfl rfl t0 (lyk t0 rfl) rfl rfl (lyR t0 rfl rfl) ?_
  refine r_n (pc1 := 18) [.int (J x2), rv 19] _ rfl rfl ?_
  refine r_aldn (pc1 := 19) rfl rfl rfl ?_
  obtain ⟨c3, w⟩ := w
  obtain ⟨c4, w⟩ := w
  refine r_aast (pc1 := 20) (u := 3) rfl rfl t0 (lyk t0 rfl) (.inl rfl) (c4.elim .inl (fun q => .inr (.inl ⟨rfl, q⟩))) rx2 c3.1 (lt_len (lyn t0 rfl) c3.2) (fun h5 eh5 t5 u5 => ?_)
  have w := w h5 eh5 t5 u5
  have s5 := HX_trans (HX_refl h) u5
  refine r_aldn (pc1 := 21) rfl rfl rfl ?_
  refine r_gfC (pc1 := 24) (q := 20) rfl rfl rfl t5 (lyk t5 rfl) rfl rfl (lyR t5 rfl rfl) ?_
  refine r_n (pc1 := 26) [.int (J x2), rv 20] _ rfl rfl ?_
  refine r_n (pc1 := 27) [.int (J p2), .int (J x2), rv 20] _ rfl rfl ?_
  obtain ⟨c6, w⟩ := w
  refine r_bast (pc1 := 28) rfl rfl t5 (lyk t5 rfl) c6 rx2 c3.1 (lt_len (lyn t5 rfl) c3.2) (fun h7 eh7 t7 u7 => ?_)
  have w := w h7 eh7 t7 u7
  have s7 := HX_trans s5 u7
  refine r_aldn (pc1 := 29) rfl rfl rfl ?_
  refine r_gfC (pc1 := 32) (q := 18) rfl rfl rfl t7 (lyk t7 rfl) rfl rfl (lyR t7 rfl rfl) ?_
  refine r_n (pc1 := 33) [.int (J p0), rv 18] _ rfl rfl ?_
  refine r_dup2 (pc1 := 34) rfl rfl ?_
  refine r_ial (pc1 := 35) rfl rfl t7 (lyk t7 rfl) rp0 c1.1 (lt_len (lyn t7 rfl) c1.2) ?_
  refine r_n (pc1 := 36) [.int (J 1), .int (J (hI h7 18 p0.toNat)), .int (J p0), rv 18] _ rfl rfl ?_
  refine r_iadd (pc1 := 37) rfl rfl ?_
  refine r_iast (pc1 := 38) rfl rfl t7 (lyk t7 rfl) rp0 c1.1 (lt_len (lyn t7 rfl) c1.2) (fun h8 eh8 t8 u8 => ?_)
  have w := w h8 eh8 t8 u8
  have s8 := HX_trans s7 u8
  refine r_aldn (pc1 := 39) rfl rfl rfl ?_
  refine r_gfC (pc1 := 42) (q := 18) rfl rfl rfl t8 (lyk t8 rfl) rfl rfl (lyR t8 rfl rfl) ?_
  refine r_n (pc1 := 43) [.int (J p0), rv 18] _ rfl rfl ?_
  refine r_ial (pc1 := 44) rfl rfl t8 (lyk t8 rfl) rp0 c1.1 (lt_len (lyn t8 rfl) c1.2) ?_
  exact r_retI rfl rfl rfl (k _ _ t8 s8 (rgh _ _ _) w)
def w_X12_need (p0 : Int) (p1 : Int) (p2 : Int) (K : Int → XH → Prop) (E : Nat → XH → Prop) (h : XH) : Prop :=
  (w_X12_checkedId p0 p1 (fun x1 => rg x1 → ((0 ≤ x1 ∧ x1 < 40) ∧ ∃ J3 : Prop, (J3 → (E 0 (nT h))) ∧ ((3 ≤ hI h 18 x1.toNat → J3) ∧ (¬ (3 ≤ hI h 18 x1.toNat) → (w_X11_isInUse x1 (fun x4 => rg x4 → (x4 = 0 ∨ x4 = 1) → (((x4 = 0 → (w_X12_checkedNeed 0 (fun a5 h6 => HT h6 → HX h h6 → (w_X12_remember (fun h7 => HT h7 → HX h6 h7 → (w_X8_addNeed x1 a5 p2 (fun x8 h9 => HT h9 → HX h7 h9 → rg x8 → (K x8 h9)) h7)) h6)) E h)) ∧ (¬ (x4 = 0) → J3)))) h))))) E h)
set_option maxHeartbeats 4000000 in
theorem a_X12_need {sc : Nat × (Nat → Int32)} {goal : XO → XH → Prop} {fs : List XF} {h : XH} (p0 : Int) (p1 : Int) (p2 : Int) {K : Int → XH → Prop} {E : Nat → XH → Prop} (hd : fs.length + 7 ≤ 1000) (rp0 : rg p0) (rp1 : rg p1) (rp2 : rg p2) (w : w_X12_need p0 p1 p2 K E h) (t0 : HT h) (k : ∀ (r : Int) (h1 : XH), HT h1 → HX h h1 → rg r → K r h1 → XFin xP sc goal fs (.inl (some (.int (J r)))) h1) (kE : ∀ (x : Nat) (h1 : XH), HT h1 → HX h h1 → E x h1 → XFin xP sc goal fs (.inr x) h1) : RR sc goal fs 131 0 [some (rv 2), some (.int (J p0)), some (.int (J p1)), some (.int (J p2)), none, none] [] h := by
  unfold w_X12_need at w
  refine r_aldn (pc1 := 1) rfl rfl rfl ?_
  refine r_n (pc1 := 2) [.int (J p0), rv 2] _ rfl rfl ?_
  refine r_n (pc1 := 3) [.int (J p1), .int (J p0), rv 2] _ rfl rfl ?_
  refine r_iv rfl rfl rfl rfl rfl rfl t0 (lyk t0 rfl) rfl (xe_of (xa_r (xa_i (xa_i xa_0))) rfl rfl) (r_d0 hd rfl) (a_X12_checkedId p0 p1 (r_d1 hd rfl) rp0 rp1 w t0 (fun x1 rx1 w => ?_) (fun x y ty uy w => r_finx rfl rfl (kE x y ty (HX_trans (HX_refl h) uy) w)))
  refine r_fI (pc1 := 6) rfl ?_
  have w := w rx1
  refine r_ist (pc1 := 8) (ls1 := [some (rv 2), some (.int (J p0)), some (.int (J p1)), some (.int (J p2)), some (.int (J x1)), none]) rfl rfl rfl rfl ?_
  refine r_aldn (pc1 := 9) rfl rfl rfl ?_
  refine r_gfC (pc1 := 12) (q := 8) rfl rfl rfl t0 (lyk t0 rfl) rfl rfl (lyR t0 rfl rfl) ?_
  refine r_gfC (pc1 := 15) (q := 9) rfl rfl rfl t0 (lyk t0 rfl) rfl rfl (lyR t0 rfl rfl) ?_
  refine r_gfC (pc1 := 18) (q := 18) rfl rfl rfl t0 (lyk t0 rfl) rfl rfl (lyR t0 rfl rfl) ?_
  refine r_n (pc1 := 20) [.int (J x1), rv 18] _ rfl rfl ?_
  obtain ⟨c2, w⟩ := w
  refine r_ial (pc1 := 21) rfl rfl t0 (lyk t0 rfl) rx1 c2.1 (lt_len (lyn t0 rfl) c2.2) ?_
  refine r_n (pc1 := 22) [.int (J 3), .int (J (hI h 18 x1.toNat))] _ rfl rfl ?_
  obtain ⟨J3, j3, w⟩ := w
  have Q3 : J3 → RR sc goal fs 131 37 [some (rv 2), some (.int (J p0)), some (.int (J p1)), some (.int (J p2)), some (.int (J x1)), none] [] h := by
    intro z3
    have w := j3 z3
    exact r_thr rfl rfl rfl rfl rfl rfl (kE _ _ (HT_nT t0).1 (HX_trans (HX_refl h) (HT_nT t0).2) w)
  refine r_ic (t := 37) (pc1 := 25) rfl rfl rfl (rgh _ _ _) (rgk rfl) (fun c11 => ?_) (fun c11 => ?_)
  · have w := w.1 c11
    exact Q3     w
  · have w := w.2 c11
    refine r_aldn (pc1 := 26) rfl rfl rfl ?_
    refine r_gfC (pc1 := 29) (q := 8) rfl rfl rfl t0 (lyk t0 rfl) rfl rfl (lyR t0 rfl rfl) ?_
    refine r_n (pc1 := 31) [.int (J x1), rv 8] _ rfl rfl ?_
    refine r_iv rfl rfl rfl rfl rfl rfl t0 (lyk t0 rfl) rfl (xe_of (xa_r (xa_i xa_0)) rfl rfl) (r_d0 hd rfl) (a_X11_isInUse x1 (r_d1 hd rfl) rx1 w t0 (fun x4 rx4 vx4 w => ?_))
    refine r_fI (pc1 := 34) rfl ?_
    have w := w rx4 vx4
    refine r_iz (t := 47) (pc1 := 37) rfl rfl rfl rx4 (fun c10 => ?_) (fun c10 => ?_)
    · have w := w.1 c10
      refine r_aldn (pc1 := 48) rfl rfl rfl ?_
      refine r_n (pc1 := 49) [.int (J 0), rv 2] _ rfl rfl ?_
      refine r_iv rfl rfl rfl rfl rfl rfl t0 (lyk t0 rfl) rfl (xe_of (xa_r (xa_i xa_0)) rfl rfl) (r_d0 hd rfl) (a_X12_checkedNeed 0 (r_d1 hd rfl) (rgk rfl) w t0 (fun a5 h6 t6 u6 w => ?_) (fun x y ty uy w => r_finx rfl rfl (kE x y ty (HX_trans (HX_refl h) uy) w)))
      refine r_fR (pc1 := 52) rfl ?_
      have s6 := HX_trans (HX_refl h) u6
      have w := w t6 u6
      refine r_ast (pc1 := 54) (ls1 := [some (rv 2), some (.int (J p0)), some (.int (J p1)), some (.int (J p2)), some (.int (J x1)), some (rv a5)]) rfl rfl rfl rfl ?_
      refine r_aldn (pc1 := 55) rfl rfl rfl ?_
      refine r_iv rfl rfl rfl rfl rfl rfl t6 (lyk t6 rfl) rfl (xe_of (xa_r xa_0) rfl rfl) (r_d0 hd rfl) (a_X12_remember  (r_d1 hd rfl)  w t6 (fun h7 t7 u7 w => ?_))
      refine r_fV (pc1 := 58) rfl ?_
      have s7 := HX_trans s6 u7
      have w := w t7 u7
      refine r_aldn (pc1 := 59) rfl rfl rfl ?_
      refine r_gfC (pc1 := 62) (q := 8) rfl rfl rfl t7 (lyk t7 rfl) rfl rfl (lyR t7 rfl rfl) ?_
      refine r_gfC (pc1 := 65) (q := 9) rfl rfl rfl t7 (lyk t7 rfl) rfl rfl (lyR t7 rfl rfl) ?_
      refine r_n (pc1 := 67) [.int (J x1), rv 9] _ rfl rfl ?_
      refine r_ald (pc1 := 69) rfl rfl rfl ?_
      refine r_n (pc1 := 70) [.int (J p2), rv a5, .int (J x1), rv 9] _ rfl rfl ?_
      refine r_iv rfl rfl rfl rfl rfl rfl t7 (lyk t7 rfl) rfl (xe_of (xa_r (xa_i (xa_r (xa_i xa_0)))) rfl rfl) (r_d0 hd rfl) (a_X8_addNeed x1 a5 p2 (r_d1 hd rfl) rx1 rp2 w t7 (fun x8 h9 t9 u9 rx8 w => ?_))
      refine r_fI (pc1 := 73) rfl ?_
      have s9 := HX_trans s7 u9
      have w := w t9 u9
      have w := w rx8
      exact r_retI rfl rfl rfl (k _ _ t9 s9 rx8 w)
    · have w := w.2 c10
      exact Q3     w
def w_L_need (p1 : Int) (p2 : Int) (p3 : Int) (K : Int → XH → Prop) (h : XH) : Prop :=
  (w_X12_need p1 p2 p3 (fun x1 h2 => HT h2 → HX h h2 → rg x1 → (∀ h5 : XH, h5 = sL h2 467 0 (i2l x1) → HT h5 → HX h2 h5 → (K 0 h5))) (fun y4 h3 => ((y4 = 2 ∧ K 1 h3) ∨ (y4 = 0 ∧ K 2 h3) ∨ (y4 = 1 ∧ K 3 h3))) h)
set_option maxHeartbeats 4000000 in
theorem a_L_need {sc : Nat × (Nat → Int32)} {goal : XO → XH → Prop} {fs : List XF} {h : XH} (p1 : Int) (p2 : Int) (p3 : Int) {K : Int → XH → Prop} (hd : fs.length + 8 ≤ 1000) (rp1 : rg p1) (rp2 : rg p2) (rp3 : rg p3) (w : w_L_need p1 p2 p3 K h) (t0 : HT h) (k : ∀ (r : Int) (h1 : XH), HT h1 → HX h h1 → rg r → K r h1 → XFin xP sc goal fs (.inl (some (.int (J r)))) h1) : RR sc goal fs 48 0 [some (rv 2), some (.int (J p1)), some (.int (J p2)), some (.int (J p3)), some (rv 467), none] [] h := by
  unfold w_L_need at w
  refine r_ald (pc1 := 2) rfl rfl rfl ?_
  refine r_n (pc1 := 3) [.int (J 0), rv 467] _ rfl rfl ?_
  refine r_aldn (pc1 := 4) rfl rfl rfl ?_
  refine r_n (pc1 := 5) [.int (J p1), rv 2, .int (J 0), rv 467] _ rfl rfl ?_
  refine r_n (pc1 := 6) [.int (J p2), .int (J p1), rv 2, .int (J 0), rv 467] _ rfl rfl ?_
  refine r_n (pc1 := 7) [.int (J p3), .int (J p2), .int (J p1), rv 2, .int (J 0), rv 467] _ rfl rfl ?_
  refine r_iv rfl rfl rfl rfl rfl rfl t0 (lyk t0 rfl) rfl (xe_of (xa_r (xa_i (xa_i (xa_i xa_0)))) rfl rfl) (r_d0 hd rfl) (a_X12_need p1 p2 p3 (r_d1 hd rfl) rp1 rp2 rp3 w t0 (fun x1 h2 t2 u2 rx1 w => ?_) (fun y4 h3 ty uy w => ?_))
  · refine r_fI (pc1 := 10) rfl ?_
    have s2 := HX_trans (HX_refl h) u2
    have w := w t2 u2
    have w := w rx1
    refine r_i2l (pc1 := 11) rfl rfl ?_
    refine r_last (pc1 := 12) rfl rfl t2 (lyk t2 rfl) (rgk rfl) (by decide) (lt_len (lyn t2 rfl) (by decide)) (fun h5 eh5 t5 u5 => ?_)
    have w := w h5 eh5 t5 u5
    have s5 := HX_trans s2 u5
    refine r_goto (t := 27) rfl rfl ?_
    refine r_n (pc1 := 28) [.int (J 0)] _ rfl rfl ?_
    exact r_retI rfl rfl rfl (k _ _ t5 s5 (rgk rfl) w)
  · rcases w with ⟨rfl, w⟩ | w
    · exact r_fink (z := 1) rfl (by decide) rfl rfl (k _ _ ty (HX_trans (HX_refl h) uy) (rgk rfl) w)
    rcases w with ⟨rfl, w⟩ | w
    · exact r_fink (z := 2) rfl (by decide) rfl rfl (k _ _ ty (HX_trans (HX_refl h) uy) (rgk rfl) w)
    obtain ⟨rfl, w⟩ := w
    exact r_fink (z := 3) rfl (by decide) rfl rfl (k _ _ ty (HX_trans (HX_refl h) uy) (rgk rfl) w)
def w_X14_isVersion (p0 : Int) (p1 : Int) (K : Int → Prop) (h : XH) : Prop :=
  (w_X14_isPack p0 (fun x1 => rg x1 → (x1 = 0 ∨ x1 = 1) → (∃ J3 : Int → Prop, (∀ (x2 : Int), rg x2 → J3 x2 → ((x2 = 0 ∨ x2 = 1) ∧ K x2)) ∧ ∃ J5 : Prop, (J5 → (J3 0)) ∧ ((x1 = 0 → J5) ∧ (¬ (x1 = 0) → (w_X14_slotOf p0 p1 (fun x6 => rg x6 → (((x6 = (-1) → J5) ∧ (¬ (x6 = (-1)) → (J3 1))))) h))))) h)
set_option maxHeartbeats 4000000 in
theorem a_X14_isVersion {sc : Nat × (Nat → Int32)} {goal : XO → XH → Prop} {fs : List XF} {h : XH} (p0 : Int) (p1 : Int) {K : Int → Prop} (hd : fs.length + 2 ≤ 1000) (rp0 : rg p0) (rp1 : rg p1) (w : w_X14_isVersion p0 p1 K h) (t0 : HT h) (k : ∀ (r : Int), rg r → (r = 0 ∨ r = 1) → K r → XFin xP sc goal fs (.inl (some (.int (J r)))) h) : RR sc goal fs 242 0 [some (rv 437), some (.int (J p0)), some (.int (J p1))] [] h := by
  unfold w_X14_isVersion at w
  refine r_aldn (pc1 := 1) rfl rfl rfl ?_
  refine r_n (pc1 := 2) [.int (J p0), rv 437] _ rfl rfl ?_
  refine r_iv rfl rfl rfl rfl rfl rfl t0 (lyk t0 rfl) rfl (xe_of (xa_r (xa_i xa_0)) rfl rfl) (r_d0 hd rfl) (a_X14_isPack p0 (r_d1 hd rfl) rp0 w t0 (fun x1 rx1 vx1 w => ?_))
  refine r_fI (pc1 := 5) rfl ?_
  have w := w rx1 vx1
  obtain ⟨J3, j3, w⟩ := w
  have Q3 : ∀ (x2 : Int), rg x2 → J3 x2 → RR sc goal fs 242 23 [some (rv 437), some (.int (J p0)), some (.int (J p1))] [.int (J x2)] h := by
    intro x2 rx2 z3
    have w := j3 x2 rx2 z3
    obtain ⟨c4, w⟩ := w
    exact r_retB rfl rfl rfl c4 (k _ rx2 c4 w)
  obtain ⟨J5, j5, w⟩ := w
  have Q5 : J5 → RR sc goal fs 242 22 [some (rv 437), some (.int (J p0)), some (.int (J p1))] [] h := by
    intro z5
    have w := j5 z5
    refine r_n (pc1 := 23) [.int (J 0)] _ rfl rfl ?_
    exact Q3  0  (rgk rfl) w
  refine r_iz (t := 22) (pc1 := 8) rfl rfl rfl rx1 (fun c8 => ?_) (fun c8 => ?_)
  · have w := w.1 c8
    exact Q5     w
  · have w := w.2 c8
    refine r_aldn (pc1 := 9) rfl rfl rfl ?_
    refine r_n (pc1 := 10) [.int (J p0), rv 437] _ rfl rfl ?_
    refine r_n (pc1 := 11) [.int (J p1), .int (J p0), rv 437] _ rfl rfl ?_
    refine r_iv rfl rfl rfl rfl rfl rfl t0 (lyk t0 rfl) rfl (xe_of (xa_r (xa_i (xa_i xa_0))) rfl rfl) (r_d0 hd rfl) (a_X14_slotOf p0 p1 (r_d1 hd rfl) rp0 rp1 w t0 (fun x6 rx6 w => ?_))
    refine r_fI (pc1 := 14) rfl ?_
    have w := w rx6
    refine r_n (pc1 := 15) [.int (J (-1)), .int (J x6)] _ rfl rfl ?_
    refine r_ic (t := 22) (pc1 := 18) rfl rfl rfl rx6 (rgk rfl) (fun c7 => ?_) (fun c7 => ?_)
    · have w := w.1 c7
      exact Q5     w
    · have w := w.2 c7
      refine r_n (pc1 := 19) [.int (J 1)] _ rfl rfl ?_
      refine r_goto (t := 23) rfl rfl ?_
      exact Q3  1  (rgk rfl) w
def w_X14_isInstalled (p0 : Int) (K : Int → Prop) (h : XH) : Prop :=
  ((∃ (I4 : Int → Int → Prop) (m4 : Int → Int → Nat), I4 0 0 ∧ ∀ (x1 : Int) (x2 : Int), rg x1 → rg x2 → I4 x1 x2 → (((3 ≤ x2 → ((x1 = 0 ∨ x1 = 1) ∧ K x1)) ∧ (¬ (3 ≤ x2) → (w_X14_ver p0 0 (fun x6 => rg x6 → (∀ x7 : Int, x7 = wr ((wr ((wr (805 + (wr (x2 * 291)))) + 23)) + x6) → rg x7 → (0 ≤ x7 ∧ x7 < 1957) ∧ ∀ x9 : Int, x9 = hI h 438 x7.toNat → rg x9 → ∃ J11 : Int → Prop, (∀ (x10 : Int), rg x10 → J11 x10 → (∀ x12 : Int, x12 = wr (x2 + 1) → rg x12 → (I4 x10 x12 ∧ m4 x10 x12 < m4 x1 x2))) ∧ ∃ J13 : Prop, (J13 → (J11 1)) ∧ ((¬ x1 = 0 → J13) ∧ (¬ (¬ x1 = 0) → (∃ J14 : Prop, (J14 → (J11 0)) ∧ ((x9 = (-1) → J14) ∧ (¬ (x9 = (-1)) → (w_X14_ver p0 1 (fun x15 => rg x15 → (((¬ irem x9 1000000 = x15 → J14) ∧ (¬ (¬ irem x9 1000000 = x15) → J13)))) h)))))))) h))))))
set_option maxHeartbeats 4000000 in
theorem a_X14_isInstalled {sc : Nat × (Nat → Int32)} {goal : XO → XH → Prop} {fs : List XF} {h : XH} (p0 : Int) {K : Int → Prop} (hd : fs.length + 1 ≤ 1000) (rp0 : rg p0) (w : w_X14_isInstalled p0 K h) (t0 : HT h) (k : ∀ (r : Int), rg r → (r = 0 ∨ r = 1) → K r → XFin xP sc goal fs (.inl (some (.int (J r)))) h) : RR sc goal fs 228 0 [some (rv 437), some (.int (J p0)), none, none, none] [] h := by
  unfold w_X14_isInstalled at w
  refine r_n (pc1 := 1) [.int (J 0)] _ rfl rfl ?_
  refine r_istn (pc1 := 2) (ls1 := [some (rv 437), some (.int (J p0)), some (.int (J 0)), none, none]) rfl rfl rfl rfl ?_
  refine r_n (pc1 := 3) [.int (J 0)] _ rfl rfl ?_
  refine r_istn (pc1 := 4) (ls1 := [some (rv 437), some (.int (J p0)), some (.int (J 0)), some (.int (J 0)), none]) rfl rfl rfl rfl ?_
  obtain ⟨I4, m4, w, y4⟩ := w
  have Q4 : ∀ (n : Nat) (d3 : Option Value) (x1 : Int) (x2 : Int), rg x1 → rg x2 → m4 x1 x2 < n → I4 x1 x2 → RR sc goal fs 228 4 [some (rv 437), some (.int (J p0)), some (.int (J x1)), some (.int (J x2)), d3] [] h := by
    intro n
    induction n with
    | zero => intro d3 x1 x2 rx1 rx2 q4 _; exact absurd q4 (Nat.not_lt_zero _)
    | succ n ih4 =>
      intro d3 x1 x2 rx1 rx2 q4 z4
      have w := y4 x1 x2 rx1 rx2 z4
      refine r_n (pc1 := 5) [.int (J x2)] _ rfl rfl ?_
      refine r_n (pc1 := 6) [.int (J 3), .int (J x2)] _ rfl rfl ?_
      refine r_ic (t := 72) (pc1 := 9) rfl rfl rfl rx2 (rgk rfl) (fun c19 => ?_) (fun c19 => ?_)
      · have w := w.1 c19
        refine r_n (pc1 := 73) [.int (J x1)] _ rfl rfl ?_
        obtain ⟨c5, w⟩ := w
        exact r_retB rfl rfl rfl c5 (k _ rx1 c5 w)
      · have w := w.2 c19
        refine r_aldn (pc1 := 10) rfl rfl rfl ?_
        refine r_gfC (pc1 := 13) (q := 438) rfl rfl rfl t0 (lyk t0 rfl) rfl rfl (lyR t0 rfl rfl) ?_
        refine r_n (pc1 := 16) [.int (J 805), rv 438] _ rfl rfl ?_
        refine r_n (pc1 := 17) [.int (J x2), .int (J 805), rv 438] _ rfl rfl ?_
        refine r_n (pc1 := 20) [.int (J 291), .int (J x2), .int (J 805), rv 438] _ rfl rfl ?_
        refine r_imul (pc1 := 21) rfl rfl ?_
        refine r_iadd (pc1 := 22) rfl rfl ?_
        refine r_n (pc1 := 24) [.int (J 23), .int (J (wr (805 + (wr (x2 * 291))))), rv 438] _ rfl rfl ?_
        refine r_iadd (pc1 := 25) rfl rfl ?_
        refine r_aldn (pc1 := 26) rfl rfl rfl ?_
        refine r_n (pc1 := 27) [.int (J p0), rv 437, .int (J (wr ((wr (805 + (wr (x2 * 291)))) + 23))), rv 438] _ rfl rfl ?_
        refine r_n (pc1 := 28) [.int (J 0), .int (J p0), rv 437, .int (J (wr ((wr (805 + (wr (x2 * 291)))) + 23))), rv 438] _ rfl rfl ?_
        refine r_iv rfl rfl rfl rfl rfl rfl t0 (lyk t0 rfl) rfl (xe_of (xa_r (xa_i (xa_i xa_0))) rfl rfl) (r_d0 hd rfl) (a_X14_ver p0 0 (r_d1 hd rfl) rp0 (rgk rfl) w t0 (fun x6 rx6 w => ?_))
        refine r_fI (pc1 := 31) rfl ?_
        have w := w rx6
        refine r_iadd (pc1 := 32) rfl rfl ?_
        refine r_vI (rgw _) (fun x7 ex7 rx7 => ?_)
        have w := w x7 ex7 rx7
        obtain ⟨c8, w⟩ := w
        refine r_ial (pc1 := 33) rfl rfl t0 (lyk t0 rfl) rx7 c8.1 (lt_len (lyn t0 rfl) c8.2) ?_
        refine r_vI (rgh _ _ _) (fun x9 ex9 rx9 => ?_)
        have w := w x9 ex9 rx9
        refine r_ist (pc1 := 35) (ls1 := [some (rv 437), some (.int (J p0)), some (.int (J x1)), some (.int (J x2)), some (.int (J x9))]) rfl rfl rfl rfl ?_
        refine r_n (pc1 := 36) [.int (J x1)] _ rfl rfl ?_
        obtain ⟨J11, j11, w⟩ := w
        have Q11 : ∀ (x10 : Int), rg x10 → J11 x10 → RR sc goal fs 228 65 [some (rv 437), some (.int (J p0)), some (.int (J x1)), some (.int (J x2)), some (.int (J x9))] [.int (J x10)] h := by
          intro x10 rx10 z11
          have w := j11 x10 rx10 z11
          refine r_istn (pc1 := 66) (ls1 := [some (rv 437), some (.int (J p0)), some (.int (J x10)), some (.int (J x2)), some (.int (J x9))]) rfl rfl rfl rfl ?_
          refine r_inc (pc1 := 69) (g := fun zz => [some (rv 437), some (.int (J p0)), some (.int (J x10)), some (.int (J zz)), some (.int (J x9))]) rfl rfl rfl rfl (fun _ => rfl) (fun x12 ex12 rx12 => ?_)
          have w := w x12 ex12 rx12
          refine r_goto (t := 4) rfl rfl ?_
          exact ih4 _ x10 x12  rx10 rx12 (Nat.lt_of_lt_of_le w.2 (Nat.le_of_lt_succ q4)) w.1
        obtain ⟨J13, j13, w⟩ := w
        have Q13 : J13 → RR sc goal fs 228 60 [some (rv 437), some (.int (J p0)), some (.int (J x1)), some (.int (J x2)), some (.int (J x9))] [] h := by
          intro z13
          have w := j13 z13
          refine r_n (pc1 := 61) [.int (J 1)] _ rfl rfl ?_
          refine r_goto (t := 65) rfl rfl ?_
          exact Q11  1  (rgk rfl) w
        refine r_iz (t := 60) (pc1 := 39) rfl rfl rfl rx1 (fun c18 => ?_) (fun c18 => ?_)
        · have w := w.1 c18
          exact Q13     w
        · have w := w.2 c18
          refine r_n (pc1 := 41) [.int (J x9)] _ rfl rfl ?_
          refine r_n (pc1 := 42) [.int (J (-1)), .int (J x9)] _ rfl rfl ?_
          obtain ⟨J14, j14, w⟩ := w
          have Q14 : J14 → RR sc goal fs 228 64 [some (rv 437), some (.int (J p0)), some (.int (J x1)), some (.int (J x2)), some (.int (J x9))] [] h := by
            intro z14
            have w := j14 z14
            refine r_n (pc1 := 65) [.int (J 0)] _ rfl rfl ?_
            exact Q11  0  (rgk rfl) w
          refine r_ic (t := 64) (pc1 := 45) rfl rfl rfl rx9 (rgk rfl) (fun c17 => ?_) (fun c17 => ?_)
          · have w := w.1 c17
            exact Q14     w
          · have w := w.2 c17
            refine r_n (pc1 := 47) [.int (J x9)] _ rfl rfl ?_
            refine r_n (pc1 := 50) [.int (J 1000000), .int (J x9)] _ rfl rfl ?_
            refine r_irem (pc1 := 51) rfl rfl (rgk rfl) (by decide) ?_
            refine r_aldn (pc1 := 52) rfl rfl rfl ?_
            refine r_n (pc1 := 53) [.int (J p0), rv 437, .int (J (irem x9 1000000))] _ rfl rfl ?_
            refine r_n (pc1 := 54) [.int (J 1), .int (J p0), rv 437, .int (J (irem x9 1000000))] _ rfl rfl ?_
            refine r_iv rfl rfl rfl rfl rfl rfl t0 (lyk t0 rfl) rfl (xe_of (xa_r (xa_i (xa_i xa_0))) rfl rfl) (r_d0 hd rfl) (a_X14_ver p0 1 (r_d1 hd rfl) rp0 (rgk rfl) w t0 (fun x15 rx15 w => ?_))
            refine r_fI (pc1 := 57) rfl ?_
            have w := w rx15
            refine r_ic (t := 64) (pc1 := 60) rfl rfl rfl (rgt _) rx15 (fun c16 => ?_) (fun c16 => ?_)
            · have w := w.1 c16
              exact Q14     w
            · have w := w.2 c16
              exact Q13     w
  exact Q4 _ _ 0 0  (rgk rfl) (rgk rfl) (Nat.lt_succ_self _) w
def w_X14_isDigitAt (p0 : Int) (K : Int → Prop) (h : XH) : Prop :=
  (∃ J2 : Int → Prop, (∀ (x1 : Int), rg x1 → J2 x1 → ((x1 = 0 ∨ x1 = 1) ∧ K x1)) ∧ ∃ J4 : Prop, (J4 → (J2 0)) ∧ ((hI h 437 9 ≤ p0 → J4) ∧ (¬ (hI h 437 9 ≤ p0) → ((0 ≤ p0 ∧ p0 < 200) ∧ w_X14_within (hI h 441 p0.toNat) 48 57 (fun x6 => rg x6 → (x6 = 0 ∨ x6 = 1) → (((x6 = 0 → J4) ∧ (¬ (x6 = 0) → (J2 1))))) h))))
set_option maxHeartbeats 4000000 in
theorem a_X14_isDigitAt {sc : Nat × (Nat → Int32)} {goal : XO → XH → Prop} {fs : List XF} {h : XH} (p0 : Int) {K : Int → Prop} (hd : fs.length + 1 ≤ 1000) (rp0 : rg p0) (w : w_X14_isDigitAt p0 K h) (t0 : HT h) (k : ∀ (r : Int), rg r → (r = 0 ∨ r = 1) → K r → XFin xP sc goal fs (.inl (some (.int (J r)))) h) : RR sc goal fs 225 0 [some (rv 437), some (.int (J p0))] [] h := by
  unfold w_X14_isDigitAt at w
  refine r_n (pc1 := 1) [.int (J p0)] _ rfl rfl ?_
  refine r_aldn (pc1 := 2) rfl rfl rfl ?_
  refine r_gfI (pc1 := 5) rfl rfl rfl t0 (lyk t0 rfl) rfl rfl ?_
  obtain ⟨J2, j2, w⟩ := w
  have Q2 : ∀ (x1 : Int), rg x1 → J2 x1 → RR sc goal fs 225 29 [some (rv 437), some (.int (J p0))] [.int (J x1)] h := by
    intro x1 rx1 z2
    have w := j2 x1 rx1 z2
    obtain ⟨c3, w⟩ := w
    exact r_retB rfl rfl rfl c3 (k _ rx1 c3 w)
  obtain ⟨J4, j4, w⟩ := w
  have Q4 : J4 → RR sc goal fs 225 28 [some (rv 437), some (.int (J p0))] [] h := by
    intro z4
    have w := j4 z4
    refine r_n (pc1 := 29) [.int (J 0)] _ rfl rfl ?_
    exact Q2  0  (rgk rfl) w
  refine r_ic (t := 28) (pc1 := 8) rfl rfl rfl rp0 (rgh _ _ _) (fun c8 => ?_) (fun c8 => ?_)
  · have w := w.1 c8
    exact Q4     w
  · have w := w.2 c8
    refine r_aldn (pc1 := 9) rfl rfl rfl ?_
    refine r_gfC (pc1 := 12) (q := 441) rfl rfl rfl t0 (lyk t0 rfl) rfl rfl (lyR t0 rfl rfl) ?_
    refine r_n (pc1 := 13) [.int (J p0), rv 441] _ rfl rfl ?_
    obtain ⟨c5, w⟩ := w
    refine r_ial (pc1 := 14) rfl rfl t0 (lyk t0 rfl) rp0 c5.1 (lt_len (lyn t0 rfl) c5.2) ?_
    refine r_n (pc1 := 16) [.int (J 48), .int (J (hI h 441 p0.toNat))] _ rfl rfl ?_
    refine r_n (pc1 := 18) [.int (J 57), .int (J 48), .int (J (hI h 441 p0.toNat))] _ rfl rfl ?_
    refine r_iq rfl rfl rfl rfl rfl rfl (xe_of (xa_i (xa_i (xa_i xa_0))) rfl rfl) (r_d0 hd rfl) (a_X14_within (hI h 441 p0.toNat) 48 57 (r_d1 hd rfl) (rgh _ _ _) (rgk rfl) (rgk rfl) w t0 (fun x6 rx6 vx6 w => ?_))
    refine r_fI (pc1 := 21) rfl ?_
    have w := w rx6 vx6
    refine r_iz (t := 28) (pc1 := 24) rfl rfl rfl rx6 (fun c7 => ?_) (fun c7 => ?_)
    · have w := w.1 c7
      exact Q4     w
    · have w := w.2 c7
      refine r_n (pc1 := 25) [.int (J 1)] _ rfl rfl ?_
      refine r_goto (t := 29) rfl rfl ?_
      exact Q2  1  (rgk rfl) w
def w_X14_next  (K : XH → Prop) (h : XH) : Prop :=
  (∃ (I2 : XH → Prop) (m2 : XH → Nat), I2 h ∧ ∀ (h1 : XH), HT h1 → HX h h1 → I2 h1 → (∃ J3 : Prop, (J3 → (∀ h4 : XH, h4 = sI h1 437 14 (hI h1 437 13) → HT h4 → HX h1 h4 → ((¬ hI h4 437 13 = hI h4 437 9 → (∀ x5 : Int, x5 = hI h4 437 13 → rg x5 → (0 ≤ x5 ∧ x5 < 200) ∧ ∀ x7 : Int, x7 = hI h4 441 x5.toNat → rg x7 → w_X14_isDigitAt (hI h4 437 13) (fun x8 => rg x8 → (x8 = 0 ∨ x8 = 1) → (((x8 = 0 → (∀ h9 : XH, h9 = sI h4 437 13 (wr ((hI h4 437 13) + 1)) → HT h9 → HX h4 h9 → w_X14_within x7 97 108 (fun x10 => rg x10 → (x10 = 0 ∨ x10 = 1) → (∃ J14 : XH → Prop, (∀ (h13 : XH), HT h13 → HX h h13 → J14 h13 → (K h13)) ∧ ∃ J15 : Prop, (J15 → (∃ J16 : Prop, (J16 → (∃ J18 : Int → Prop, (∀ (x17 : Int), rg x17 → J18 x17 → (∃ J20 : Int → Prop, (∀ (x19 : Int), rg x19 → J20 x19 → (∀ h21 : XH, h21 = sI h9 437 15 x19 → HT h21 → HX h9 h21 → ∀ h22 : XH, h22 = sI h21 437 16 x7 → HT h22 → HX h21 h22 → J14 h22)) ∧ ((x17 = 0 → (J20 4)) ∧ (¬ (x17 = 0) → (J20 2))))) ∧ ∃ J24 : Prop, (J24 → (J18 1)) ∧ ((x7 = 35 → J24) ∧ (¬ (x7 = 35) → (((x7 = 124 → J24) ∧ (¬ (x7 = 124) → (((x7 = 44 → J24) ∧ (¬ (x7 = 44) → (((x7 = 42 → J24) ∧ (¬ (x7 = 42) → (((x7 = 61 → J24) ∧ (¬ (x7 = 61) → (((x7 = 62 → J24) ∧ (¬ (x7 = 62) → (((x7 = 60 → J24) ∧ (¬ (x7 = 60) → (((x7 = 94 → J24) ∧ (¬ (x7 = 94) → (((x7 = 126 → J24) ∧ (¬ (x7 = 126) → (((x7 = 46 → J24) ∧ (¬ (x7 = 46) → (((¬ x7 = 33 → (J18 0)) ∧ (¬ (¬ x7 = 33) → J24)))))))))))))))))))))))))))))))))) ∧ ((¬ x7 = 46 → J16) ∧ (¬ (¬ x7 = 46) → (((hI h9 437 9 ≤ hI h9 437 13 → J16) ∧ (¬ (hI h9 437 9 ≤ hI h9 437 13) → (∀ x36 : Int, x36 = hI h9 437 13 → rg x36 → (0 ≤ x36 ∧ x36 < 200) ∧ ((¬ hI h9 441 x36.toNat = 46 → J16) ∧ (¬ (¬ hI h9 441 x36.toNat = 46) → (∀ h38 : XH, h38 = sI h9 437 13 (wr ((hI h9 437 13) + 1)) → HT h38 → HX h9 h38 → ∀ h39 : XH, h39 = sI h38 437 15 3 → HT h39 → HX h38 h39 → J14 h39))))))))))) ∧ ((x10 = 0 → J15) ∧ (¬ (x10 = 0) → (w_X14_isPack (wr (x7 - 97)) (fun x43 => rg x43 → (x43 = 0 ∨ x43 = 1) → (((x43 = 0 → J15) ∧ (¬ (x43 = 0) → (∀ h44 : XH, h44 = sI h9 437 15 0 → HT h44 → HX h9 h44 → ∀ h45 : XH, h45 = sI h44 437 16 (wr (x7 - 97)) → HT h45 → HX h44 h45 → J14 h45))))) h9))))) h9)) ∧ (¬ (x8 = 0) → (∀ h48 : XH, h48 = sI h4 437 16 0 → HT h48 → HX h4 h48 → (∃ (I50 : XH → Prop) (m50 : XH → Nat), I50 h48 ∧ ∀ (h49 : XH), HT h49 → HX h h49 → I50 h49 → (w_X14_isDigitAt (hI h49 437 13) (fun x51 => rg x51 → (x51 = 0 ∨ x51 = 1) → (((x51 = 0 → (∃ J53 : Int → Prop, (∀ (x52 : Int), rg x52 → J53 x52 → (∀ h54 : XH, h54 = sI h49 437 15 x52 → HT h54 → HX h49 h54 → K h54)) ∧ ((wr ((hI h49 437 13) - (hI h49 437 14)) ≤ 2 → (J53 1)) ∧ (¬ (wr ((hI h49 437 13) - (hI h49 437 14)) ≤ 2) → (J53 4))))) ∧ (¬ (x51 = 0) → (∀ x56 : Int, x56 = hI h49 437 13 → rg x56 → (0 ≤ x56 ∧ x56 < 200) ∧ w_J9_min_7cf53 1000 (wr ((wr ((wr (10 * (hI h49 437 16))) + (hI h49 441 x56.toNat))) - 48)) (fun x58 => rg x58 → (∀ h59 : XH, h59 = sI h49 437 16 x58 → HT h59 → HX h49 h59 → ∀ h60 : XH, h60 = sI h59 437 13 (wr ((hI h59 437 13) + 1)) → HT h60 → HX h59 h60 → (I50 h60 ∧ m50 h60 < m50 h49))) h49))))) h49))))))) h4)) ∧ (¬ (¬ hI h4 437 13 = hI h4 437 9) → (∀ h63 : XH, h63 = sI h4 437 15 5 → HT h63 → HX h4 h63 → K h63))))) ∧ ((hI h1 437 9 ≤ hI h1 437 13 → J3) ∧ (¬ (hI h1 437 9 ≤ hI h1 437 13) → (∀ x65 : Int, x65 = hI h1 437 13 → rg x65 → (0 ≤ x65 ∧ x65 < 200) ∧ ∃ J67 : Prop, (J67 → (∀ h68 : XH, h68 = sI h1 437 13 (wr ((hI h1 437 13) + 1)) → HT h68 → HX h1 h68 → (I2 h68 ∧ m2 h68 < m2 h1))) ∧ ((hI h1 441 x65.toNat = 32 → J67) ∧ (¬ (hI h1 441 x65.toNat = 32) → (∀ x69 : Int, x69 = hI h1 437 13 → rg x69 → (0 ≤ x69 ∧ x69 < 200) ∧ ((¬ hI h1 441 x69.toNat = 10 → J3) ∧ (¬ (¬ hI h1 441 x69.toNat = 10) → J67))))))))))
set_option maxHeartbeats 4000000 in
theorem a_X14_next {sc : Nat × (Nat → Int32)} {goal : XO → XH → Prop} {fs : List XF} {h : XH}  {K : XH → Prop} (hd : fs.length + 2 ≤ 1000) (w : w_X14_next  K h) (t0 : HT h) (k : ∀ (h1 : XH), HT h1 → HX h h1 → K h1 → XFin xP sc goal fs (.inl none) h1) : RR sc goal fs 260 0 [some (rv 437), none, none] [] h := by
  unfold w_X14_next at w
  obtain ⟨I2, m2, w, y2⟩ := w
  have Q2 : ∀ (n : Nat)  (h1 : XH), HT h1 → HX h h1 → m2 h1 < n → I2 h1 → RR sc goal fs 260 0 [some (rv 437), none, none] [] h1 := by
    intro n
    induction n with
    | zero => intro h1 t1 s1 q2 _; exact absurd q2 (Nat.not_lt_zero _)
    | succ n ih2 =>
      intro h1 t1 s1 q2 z2
      have w := y2 h1 t1 s1 z2
      refine r_aldn (pc1 := 1) rfl rfl rfl ?_
      refine r_gfI (pc1 := 4) rfl rfl rfl t1 (lyk t1 rfl) rfl rfl ?_
      refine r_aldn (pc1 := 5) rfl rfl rfl ?_
      refine r_gfI (pc1 := 8) rfl rfl rfl t1 (lyk t1 rfl) rfl rfl ?_
      obtain ⟨J3, j3, w⟩ := w
      have Q3 : J3 → RR sc goal fs 260 52 [some (rv 437), none, none] [] h1 := by
        intro z3
        have w := j3 z3
        refine r_aldn (pc1 := 53) rfl rfl rfl ?_
        refine r_aldn (pc1 := 54) rfl rfl rfl ?_
        refine r_gfI (pc1 := 57) rfl rfl rfl t1 (lyk t1 rfl) rfl rfl ?_
        refine r_pfI (pc1 := 60) rfl rfl rfl t1 (lyk t1 rfl) rfl rfl rfl (fun h4 eh4 t4 u4 => ?_)
        have w := w h4 eh4 t4 u4
        have s4 := HX_trans s1 u4
        refine r_aldn (pc1 := 61) rfl rfl rfl ?_
        refine r_gfI (pc1 := 64) rfl rfl rfl t4 (lyk t4 rfl) rfl rfl ?_
        refine r_aldn (pc1 := 65) rfl rfl rfl ?_
        refine r_gfI (pc1 := 68) rfl rfl rfl t4 (lyk t4 rfl) rfl rfl ?_
        refine r_ic (t := 77) (pc1 := 71) rfl rfl rfl (rgh _ _ _) (rgh _ _ _) (fun c64 => ?_) (fun c64 => ?_)
        · have w := w.1 c64
          refine r_aldn (pc1 := 78) rfl rfl rfl ?_
          refine r_gfC (pc1 := 81) (q := 441) rfl rfl rfl t4 (lyk t4 rfl) rfl rfl (lyR t4 rfl rfl) ?_
          refine r_aldn (pc1 := 82) rfl rfl rfl ?_
          refine r_gfI (pc1 := 85) rfl rfl rfl t4 (lyk t4 rfl) rfl rfl ?_
          refine r_vI (rgh _ _ _) (fun x5 ex5 rx5 => ?_)
          have w := w x5 ex5 rx5
          obtain ⟨c6, w⟩ := w
          refine r_ial (pc1 := 86) rfl rfl t4 (lyk t4 rfl) rx5 c6.1 (lt_len (lyn t4 rfl) c6.2) ?_
          refine r_vI (rgh _ _ _) (fun x7 ex7 rx7 => ?_)
          have w := w x7 ex7 rx7
          refine r_istn (pc1 := 87) (ls1 := [some (rv 437), some (.int (J x7)), none]) rfl rfl rfl rfl ?_
          refine r_aldn (pc1 := 88) rfl rfl rfl ?_
          refine r_aldn (pc1 := 89) rfl rfl rfl ?_
          refine r_gfI (pc1 := 92) rfl rfl rfl t4 (lyk t4 rfl) rfl rfl ?_
          refine r_iv rfl rfl rfl rfl rfl rfl t4 (lyk t4 rfl) rfl (xe_of (xa_r (xa_i xa_0)) rfl rfl) (r_d0 hd rfl) (a_X14_isDigitAt (hI h4 437 13) (r_d1 hd rfl) (rgh _ _ _) w t4 (fun x8 rx8 vx8 w => ?_))
          refine r_fI (pc1 := 95) rfl ?_
          have w := w rx8 vx8
          refine r_iz (t := 180) (pc1 := 98) rfl rfl rfl rx8 (fun c62 => ?_) (fun c62 => ?_)
          · have w := w.1 c62
            refine r_aldn (pc1 := 181) rfl rfl rfl ?_
            refine r_dupR (pc1 := 182) rfl rfl ?_
            refine r_gfI (pc1 := 185) rfl rfl rfl t4 (lyk t4 rfl) rfl rfl ?_
            refine r_n (pc1 := 186) [.int (J 1), .int (J (hI h4 437 13)), rv 437] _ rfl rfl ?_
            refine r_iadd (pc1 := 187) rfl rfl ?_
            refine r_pfI (pc1 := 190) rfl rfl rfl t4 (lyk t4 rfl) rfl rfl rfl (fun h9 eh9 t9 u9 => ?_)
            have w := w h9 eh9 t9 u9
            have s9 := HX_trans s4 u9
            refine r_n (pc1 := 191) [.int (J x7)] _ rfl rfl ?_
            refine r_n (pc1 := 193) [.int (J 97), .int (J x7)] _ rfl rfl ?_
            refine r_n (pc1 := 195) [.int (J 108), .int (J 97), .int (J x7)] _ rfl rfl ?_
            refine r_iq rfl rfl rfl rfl rfl rfl (xe_of (xa_i (xa_i (xa_i xa_0))) rfl rfl) (r_d0 hd rfl) (a_X14_within x7 97 108 (r_d1 hd rfl) rx7 (rgk rfl) (rgk rfl) w t9 (fun x10 rx10 vx10 w => ?_))
            refine r_fI (pc1 := 198) rfl ?_
            have w := w rx10 vx10
            obtain ⟨J14, j14, w⟩ := w
            have Q14 : ∀ (d11 : Option Value) (d12 : Option Value) (h13 : XH), HT h13 → HX h h13 → J14 h13 → RR sc goal fs 260 367 [some (rv 437), d11, d12] [] h13 := by
              intro d11 d12 h13 t13 s13 z14
              have w := j14 h13 t13 s13 z14
              exact r_retV rfl rfl rfl (k _ t13 s13 w)
            obtain ⟨J15, j15, w⟩ := w
            have Q15 : J15 → RR sc goal fs 260 228 [some (rv 437), some (.int (J x7)), none] [] h9 := by
              intro z15
              have w := j15 z15
              refine r_n (pc1 := 229) [.int (J x7)] _ rfl rfl ?_
              refine r_n (pc1 := 231) [.int (J 46), .int (J x7)] _ rfl rfl ?_
              obtain ⟨J16, j16, w⟩ := w
              have Q16 : J16 → RR sc goal fs 260 277 [some (rv 437), some (.int (J x7)), none] [] h9 := by
                intro z16
                have w := j16 z16
                refine r_n (pc1 := 278) [.int (J x7)] _ rfl rfl ?_
                refine r_n (pc1 := 280) [.int (J 35), .int (J x7)] _ rfl rfl ?_
                obtain ⟨J18, j18, w⟩ := w
                have Q18 : ∀ (x17 : Int), rg x17 → J18 x17 → RR sc goal fs 260 348 [some (rv 437), some (.int (J x7)), none] [.int (J x17)] h9 := by
                  intro x17 rx17 z18
                  have w := j18 x17 rx17 z18
                  refine r_istn (pc1 := 349) (ls1 := [some (rv 437), some (.int (J x7)), some (.int (J x17))]) rfl rfl rfl rfl ?_
                  refine r_aldn (pc1 := 350) rfl rfl rfl ?_
                  refine r_n (pc1 := 351) [.int (J x17), rv 437] _ rfl rfl ?_
                  obtain ⟨J20, j20, w⟩ := w
                  have Q20 : ∀ (x19 : Int), rg x19 → J20 x19 → RR sc goal fs 260 359 [some (rv 437), some (.int (J x7)), some (.int (J x17))] [.int (J x19), rv 437] h9 := by
                    intro x19 rx19 z20
                    have w := j20 x19 rx19 z20
                    refine r_pfI (pc1 := 362) rfl rfl rfl t9 (lyk t9 rfl) rfl rfl rfl (fun h21 eh21 t21 u21 => ?_)
                    have w := w h21 eh21 t21 u21
                    have s21 := HX_trans s9 u21
                    refine r_aldn (pc1 := 363) rfl rfl rfl ?_
                    refine r_n (pc1 := 364) [.int (J x7), rv 437] _ rfl rfl ?_
                    refine r_pfI (pc1 := 367) rfl rfl rfl t21 (lyk t21 rfl) rfl rfl rfl (fun h22 eh22 t22 u22 => ?_)
                    have w := w h22 eh22 t22 u22
                    have s22 := HX_trans s21 u22
                    exact Q14 _ _  h22 t22 s22  w
                  refine r_iz (t := 358) (pc1 := 354) rfl rfl rfl rx17 (fun c23 => ?_) (fun c23 => ?_)
                  · have w := w.1 c23
                    refine r_n (pc1 := 359) [.int (J 4), rv 437] _ rfl rfl ?_
                    exact Q20  4  (rgk rfl) w
                  · have w := w.2 c23
                    refine r_n (pc1 := 355) [.int (J 2), rv 437] _ rfl rfl ?_
                    refine r_goto (t := 359) rfl rfl ?_
                    exact Q20  2  (rgk rfl) w
                obtain ⟨J24, j24, w⟩ := w
                have Q24 : J24 → RR sc goal fs 260 343 [some (rv 437), some (.int (J x7)), none] [] h9 := by
                  intro z24
                  have w := j24 z24
                  refine r_n (pc1 := 344) [.int (J 1)] _ rfl rfl ?_
                  refine r_goto (t := 348) rfl rfl ?_
                  exact Q18  1  (rgk rfl) w
                refine r_ic (t := 343) (pc1 := 283) rfl rfl rfl rx7 (rgk rfl) (fun c35 => ?_) (fun c35 => ?_)
                · have w := w.1 c35
                  exact Q24     w
                · have w := w.2 c35
                  refine r_n (pc1 := 284) [.int (J x7)] _ rfl rfl ?_
                  refine r_n (pc1 := 286) [.int (J 124), .int (J x7)] _ rfl rfl ?_
                  refine r_ic (t := 343) (pc1 := 289) rfl rfl rfl rx7 (rgk rfl) (fun c34 => ?_) (fun c34 => ?_)
                  · have w := w.1 c34
                    exact Q24     w
                  · have w := w.2 c34
                    refine r_n (pc1 := 290) [.int (J x7)] _ rfl rfl ?_
                    refine r_n (pc1 := 292) [.int (J 44), .int (J x7)] _ rfl rfl ?_
                    refine r_ic (t := 343) (pc1 := 295) rfl rfl rfl rx7 (rgk rfl) (fun c33 => ?_) (fun c33 => ?_)
                    · have w := w.1 c33
                      exact Q24     w
                    · have w := w.2 c33
                      refine r_n (pc1 := 296) [.int (J x7)] _ rfl rfl ?_
                      refine r_n (pc1 := 298) [.int (J 42), .int (J x7)] _ rfl rfl ?_
                      refine r_ic (t := 343) (pc1 := 301) rfl rfl rfl rx7 (rgk rfl) (fun c32 => ?_) (fun c32 => ?_)
                      · have w := w.1 c32
                        exact Q24     w
                      · have w := w.2 c32
                        refine r_n (pc1 := 302) [.int (J x7)] _ rfl rfl ?_
                        refine r_n (pc1 := 304) [.int (J 61), .int (J x7)] _ rfl rfl ?_
                        refine r_ic (t := 343) (pc1 := 307) rfl rfl rfl rx7 (rgk rfl) (fun c31 => ?_) (fun c31 => ?_)
                        · have w := w.1 c31
                          exact Q24     w
                        · have w := w.2 c31
                          refine r_n (pc1 := 308) [.int (J x7)] _ rfl rfl ?_
                          refine r_n (pc1 := 310) [.int (J 62), .int (J x7)] _ rfl rfl ?_
                          refine r_ic (t := 343) (pc1 := 313) rfl rfl rfl rx7 (rgk rfl) (fun c30 => ?_) (fun c30 => ?_)
                          · have w := w.1 c30
                            exact Q24     w
                          · have w := w.2 c30
                            refine r_n (pc1 := 314) [.int (J x7)] _ rfl rfl ?_
                            refine r_n (pc1 := 316) [.int (J 60), .int (J x7)] _ rfl rfl ?_
                            refine r_ic (t := 343) (pc1 := 319) rfl rfl rfl rx7 (rgk rfl) (fun c29 => ?_) (fun c29 => ?_)
                            · have w := w.1 c29
                              exact Q24     w
                            · have w := w.2 c29
                              refine r_n (pc1 := 320) [.int (J x7)] _ rfl rfl ?_
                              refine r_n (pc1 := 322) [.int (J 94), .int (J x7)] _ rfl rfl ?_
                              refine r_ic (t := 343) (pc1 := 325) rfl rfl rfl rx7 (rgk rfl) (fun c28 => ?_) (fun c28 => ?_)
                              · have w := w.1 c28
                                exact Q24     w
                              · have w := w.2 c28
                                refine r_n (pc1 := 326) [.int (J x7)] _ rfl rfl ?_
                                refine r_n (pc1 := 328) [.int (J 126), .int (J x7)] _ rfl rfl ?_
                                refine r_ic (t := 343) (pc1 := 331) rfl rfl rfl rx7 (rgk rfl) (fun c27 => ?_) (fun c27 => ?_)
                                · have w := w.1 c27
                                  exact Q24     w
                                · have w := w.2 c27
                                  refine r_n (pc1 := 332) [.int (J x7)] _ rfl rfl ?_
                                  refine r_n (pc1 := 334) [.int (J 46), .int (J x7)] _ rfl rfl ?_
                                  refine r_ic (t := 343) (pc1 := 337) rfl rfl rfl rx7 (rgk rfl) (fun c26 => ?_) (fun c26 => ?_)
                                  · have w := w.1 c26
                                    exact Q24     w
                                  · have w := w.2 c26
                                    refine r_n (pc1 := 338) [.int (J x7)] _ rfl rfl ?_
                                    refine r_n (pc1 := 340) [.int (J 33), .int (J x7)] _ rfl rfl ?_
                                    refine r_ic (t := 347) (pc1 := 343) rfl rfl rfl rx7 (rgk rfl) (fun c25 => ?_) (fun c25 => ?_)
                                    · have w := w.1 c25
                                      refine r_n (pc1 := 348) [.int (J 0)] _ rfl rfl ?_
                                      exact Q18  0  (rgk rfl) w
                                    · have w := w.2 c25
                                      exact Q24     w
              refine r_ic (t := 277) (pc1 := 234) rfl rfl rfl rx7 (rgk rfl) (fun c42 => ?_) (fun c42 => ?_)
              · have w := w.1 c42
                exact Q16     w
              · have w := w.2 c42
                refine r_aldn (pc1 := 235) rfl rfl rfl ?_
                refine r_gfI (pc1 := 238) rfl rfl rfl t9 (lyk t9 rfl) rfl rfl ?_
                refine r_aldn (pc1 := 239) rfl rfl rfl ?_
                refine r_gfI (pc1 := 242) rfl rfl rfl t9 (lyk t9 rfl) rfl rfl ?_
                refine r_ic (t := 277) (pc1 := 245) rfl rfl rfl (rgh _ _ _) (rgh _ _ _) (fun c41 => ?_) (fun c41 => ?_)
                · have w := w.1 c41
                  exact Q16     w
                · have w := w.2 c41
                  refine r_aldn (pc1 := 246) rfl rfl rfl ?_
                  refine r_gfC (pc1 := 249) (q := 441) rfl rfl rfl t9 (lyk t9 rfl) rfl rfl (lyR t9 rfl rfl) ?_
                  refine r_aldn (pc1 := 250) rfl rfl rfl ?_
                  refine r_gfI (pc1 := 253) rfl rfl rfl t9 (lyk t9 rfl) rfl rfl ?_
                  refine r_vI (rgh _ _ _) (fun x36 ex36 rx36 => ?_)
                  have w := w x36 ex36 rx36
                  obtain ⟨c37, w⟩ := w
                  refine r_ial (pc1 := 254) rfl rfl t9 (lyk t9 rfl) rx36 c37.1 (lt_len (lyn t9 rfl) c37.2) ?_
                  refine r_n (pc1 := 256) [.int (J 46), .int (J (hI h9 441 x36.toNat))] _ rfl rfl ?_
                  refine r_ic (t := 277) (pc1 := 259) rfl rfl rfl (rgh _ _ _) (rgk rfl) (fun c40 => ?_) (fun c40 => ?_)
                  · have w := w.1 c40
                    exact Q16     w
                  · have w := w.2 c40
                    refine r_aldn (pc1 := 260) rfl rfl rfl ?_
                    refine r_dupR (pc1 := 261) rfl rfl ?_
                    refine r_gfI (pc1 := 264) rfl rfl rfl t9 (lyk t9 rfl) rfl rfl ?_
                    refine r_n (pc1 := 265) [.int (J 1), .int (J (hI h9 437 13)), rv 437] _ rfl rfl ?_
                    refine r_iadd (pc1 := 266) rfl rfl ?_
                    refine r_pfI (pc1 := 269) rfl rfl rfl t9 (lyk t9 rfl) rfl rfl rfl (fun h38 eh38 t38 u38 => ?_)
                    have w := w h38 eh38 t38 u38
                    have s38 := HX_trans s9 u38
                    refine r_aldn (pc1 := 270) rfl rfl rfl ?_
                    refine r_n (pc1 := 271) [.int (J 3), rv 437] _ rfl rfl ?_
                    refine r_pfI (pc1 := 274) rfl rfl rfl t38 (lyk t38 rfl) rfl rfl rfl (fun h39 eh39 t39 u39 => ?_)
                    have w := w h39 eh39 t39 u39
                    have s39 := HX_trans s38 u39
                    refine r_goto (t := 367) rfl rfl ?_
                    exact Q14 _ _  h39 t39 s39  w
            refine r_iz (t := 228) (pc1 := 201) rfl rfl rfl rx10 (fun c47 => ?_) (fun c47 => ?_)
            · have w := w.1 c47
              exact Q15     w
            · have w := w.2 c47
              refine r_aldn (pc1 := 202) rfl rfl rfl ?_
              refine r_n (pc1 := 203) [.int (J x7), rv 437] _ rfl rfl ?_
              refine r_n (pc1 := 205) [.int (J 97), .int (J x7), rv 437] _ rfl rfl ?_
              refine r_isub (pc1 := 206) rfl rfl ?_
              refine r_iv rfl rfl rfl rfl rfl rfl t9 (lyk t9 rfl) rfl (xe_of (xa_r (xa_i xa_0)) rfl rfl) (r_d0 hd rfl) (a_X14_isPack (wr (x7 - 97)) (r_d1 hd rfl) (rgw _) w t9 (fun x43 rx43 vx43 w => ?_))
              refine r_fI (pc1 := 209) rfl ?_
              have w := w rx43 vx43
              refine r_iz (t := 228) (pc1 := 212) rfl rfl rfl rx43 (fun c46 => ?_) (fun c46 => ?_)
              · have w := w.1 c46
                exact Q15     w
              · have w := w.2 c46
                refine r_aldn (pc1 := 213) rfl rfl rfl ?_
                refine r_n (pc1 := 214) [.int (J 0), rv 437] _ rfl rfl ?_
                refine r_pfI (pc1 := 217) rfl rfl rfl t9 (lyk t9 rfl) rfl rfl rfl (fun h44 eh44 t44 u44 => ?_)
                have w := w h44 eh44 t44 u44
                have s44 := HX_trans s9 u44
                refine r_aldn (pc1 := 218) rfl rfl rfl ?_
                refine r_n (pc1 := 219) [.int (J x7), rv 437] _ rfl rfl ?_
                refine r_n (pc1 := 221) [.int (J 97), .int (J x7), rv 437] _ rfl rfl ?_
                refine r_isub (pc1 := 222) rfl rfl ?_
                refine r_pfI (pc1 := 225) rfl rfl rfl t44 (lyk t44 rfl) rfl rfl rfl (fun h45 eh45 t45 u45 => ?_)
                have w := w h45 eh45 t45 u45
                have s45 := HX_trans s44 u45
                refine r_goto (t := 367) rfl rfl ?_
                exact Q14 _ _  h45 t45 s45  w
          · have w := w.2 c62
            refine r_aldn (pc1 := 99) rfl rfl rfl ?_
            refine r_n (pc1 := 100) [.int (J 0), rv 437] _ rfl rfl ?_
            refine r_pfI (pc1 := 103) rfl rfl rfl t4 (lyk t4 rfl) rfl rfl rfl (fun h48 eh48 t48 u48 => ?_)
            have w := w h48 eh48 t48 u48
            have s48 := HX_trans s4 u48
            obtain ⟨I50, m50, w, y50⟩ := w
            have Q50 : ∀ (n : Nat)  (h49 : XH), HT h49 → HX h h49 → m50 h49 < n → I50 h49 → RR sc goal fs 260 103 [some (rv 437), some (.int (J x7)), none] [] h49 := by
              intro n
              induction n with
              | zero => intro h49 t49 s49 q50 _; exact absurd q50 (Nat.not_lt_zero _)
              | succ n ih50 =>
                intro h49 t49 s49 q50 z50
                have w := y50 h49 t49 s49 z50
                refine r_aldn (pc1 := 104) rfl rfl rfl ?_
                refine r_aldn (pc1 := 105) rfl rfl rfl ?_
                refine r_gfI (pc1 := 108) rfl rfl rfl t49 (lyk t49 rfl) rfl rfl ?_
                refine r_iv rfl rfl rfl rfl rfl rfl t49 (lyk t49 rfl) rfl (xe_of (xa_r (xa_i xa_0)) rfl rfl) (r_d0 hd rfl) (a_X14_isDigitAt (hI h49 437 13) (r_d1 hd rfl) (rgh _ _ _) w t49 (fun x51 rx51 vx51 w => ?_))
                refine r_fI (pc1 := 111) rfl ?_
                have w := w rx51 vx51
                refine r_iz (t := 157) (pc1 := 114) rfl rfl rfl rx51 (fun c61 => ?_) (fun c61 => ?_)
                · have w := w.1 c61
                  refine r_aldn (pc1 := 158) rfl rfl rfl ?_
                  refine r_aldn (pc1 := 159) rfl rfl rfl ?_
                  refine r_gfI (pc1 := 162) rfl rfl rfl t49 (lyk t49 rfl) rfl rfl ?_
                  refine r_aldn (pc1 := 163) rfl rfl rfl ?_
                  refine r_gfI (pc1 := 166) rfl rfl rfl t49 (lyk t49 rfl) rfl rfl ?_
                  refine r_isub (pc1 := 167) rfl rfl ?_
                  refine r_n (pc1 := 168) [.int (J 2), .int (J (wr ((hI h49 437 13) - (hI h49 437 14)))), rv 437] _ rfl rfl ?_
                  obtain ⟨J53, j53, w⟩ := w
                  have Q53 : ∀ (x52 : Int), rg x52 → J53 x52 → RR sc goal fs 260 176 [some (rv 437), some (.int (J x7)), none] [.int (J x52), rv 437] h49 := by
                    intro x52 rx52 z53
                    have w := j53 x52 rx52 z53
                    refine r_pfI (pc1 := 179) rfl rfl rfl t49 (lyk t49 rfl) rfl rfl rfl (fun h54 eh54 t54 u54 => ?_)
                    have w := w h54 eh54 t54 u54
                    have s54 := HX_trans s49 u54
                    exact r_retV rfl rfl rfl (k _ t54 s54 w)
                  refine r_ic (t := 175) (pc1 := 171) rfl rfl rfl (rgw _) (rgk rfl) (fun c55 => ?_) (fun c55 => ?_)
                  · have w := w.1 c55
                    refine r_n (pc1 := 176) [.int (J 1), rv 437] _ rfl rfl ?_
                    exact Q53  1  (rgk rfl) w
                  · have w := w.2 c55
                    refine r_n (pc1 := 172) [.int (J 4), rv 437] _ rfl rfl ?_
                    refine r_goto (t := 176) rfl rfl ?_
                    exact Q53  4  (rgk rfl) w
                · have w := w.2 c61
                  refine r_aldn (pc1 := 115) rfl rfl rfl ?_
                  refine r_n (pc1 := 118) [.int (J 1000), rv 437] _ rfl rfl ?_
                  refine r_n (pc1 := 120) [.int (J 10), .int (J 1000), rv 437] _ rfl rfl ?_
                  refine r_aldn (pc1 := 121) rfl rfl rfl ?_
                  refine r_gfI (pc1 := 124) rfl rfl rfl t49 (lyk t49 rfl) rfl rfl ?_
                  refine r_imul (pc1 := 125) rfl rfl ?_
                  refine r_aldn (pc1 := 126) rfl rfl rfl ?_
                  refine r_gfC (pc1 := 129) (q := 441) rfl rfl rfl t49 (lyk t49 rfl) rfl rfl (lyR t49 rfl rfl) ?_
                  refine r_aldn (pc1 := 130) rfl rfl rfl ?_
                  refine r_gfI (pc1 := 133) rfl rfl rfl t49 (lyk t49 rfl) rfl rfl ?_
                  refine r_vI (rgh _ _ _) (fun x56 ex56 rx56 => ?_)
                  have w := w x56 ex56 rx56
                  obtain ⟨c57, w⟩ := w
                  refine r_ial (pc1 := 134) rfl rfl t49 (lyk t49 rfl) rx56 c57.1 (lt_len (lyn t49 rfl) c57.2) ?_
                  refine r_iadd (pc1 := 135) rfl rfl ?_
                  refine r_n (pc1 := 137) [.int (J 48), .int (J (wr ((wr (10 * (hI h49 437 16))) + (hI h49 441 x56.toNat)))), .int (J 1000), rv 437] _ rfl rfl ?_
                  refine r_isub (pc1 := 138) rfl rfl ?_
                  refine r_iq rfl rfl rfl rfl rfl rfl (xe_of (xa_i (xa_i xa_0)) rfl rfl) (r_d0 hd rfl) (a_J9_min_7cf53 1000 (wr ((wr ((wr (10 * (hI h49 437 16))) + (hI h49 441 x56.toNat))) - 48)) (r_d1 hd rfl) (rgk rfl) (rgw _) w t49 (fun x58 rx58 w => ?_))
                  refine r_fI (pc1 := 141) rfl ?_
                  have w := w rx58
                  refine r_pfI (pc1 := 144) rfl rfl rfl t49 (lyk t49 rfl) rfl rfl rfl (fun h59 eh59 t59 u59 => ?_)
                  have w := w h59 eh59 t59 u59
                  have s59 := HX_trans s49 u59
                  refine r_aldn (pc1 := 145) rfl rfl rfl ?_
                  refine r_dupR (pc1 := 146) rfl rfl ?_
                  refine r_gfI (pc1 := 149) rfl rfl rfl t59 (lyk t59 rfl) rfl rfl ?_
                  refine r_n (pc1 := 150) [.int (J 1), .int (J (hI h59 437 13)), rv 437] _ rfl rfl ?_
                  refine r_iadd (pc1 := 151) rfl rfl ?_
                  refine r_pfI (pc1 := 154) rfl rfl rfl t59 (lyk t59 rfl) rfl rfl rfl (fun h60 eh60 t60 u60 => ?_)
                  have w := w h60 eh60 t60 u60
                  have s60 := HX_trans s59 u60
                  refine r_goto (t := 103) rfl rfl ?_
                  exact ih50   h60 t60 s60  (Nat.lt_of_lt_of_le w.2 (Nat.le_of_lt_succ q50)) w.1
            exact Q50 _   h48 t48 s48  (Nat.lt_succ_self _) w
        · have w := w.2 c64
          refine r_aldn (pc1 := 72) rfl rfl rfl ?_
          refine r_n (pc1 := 73) [.int (J 5), rv 437] _ rfl rfl ?_
          refine r_pfI (pc1 := 76) rfl rfl rfl t4 (lyk t4 rfl) rfl rfl rfl (fun h63 eh63 t63 u63 => ?_)
          have w := w h63 eh63 t63 u63
          have s63 := HX_trans s4 u63
          exact r_retV rfl rfl rfl (k _ t63 s63 w)
      refine r_ic (t := 52) (pc1 := 11) rfl rfl rfl (rgh _ _ _) (rgh _ _ _) (fun c73 => ?_) (fun c73 => ?_)
      · have w := w.1 c73
        exact Q3     w
      · have w := w.2 c73
        refine r_aldn (pc1 := 12) rfl rfl rfl ?_
        refine r_gfC (pc1 := 15) (q := 441) rfl rfl rfl t1 (lyk t1 rfl) rfl rfl (lyR t1 rfl rfl) ?_
        refine r_aldn (pc1 := 16) rfl rfl rfl ?_
        refine r_gfI (pc1 := 19) rfl rfl rfl t1 (lyk t1 rfl) rfl rfl ?_
        refine r_vI (rgh _ _ _) (fun x65 ex65 rx65 => ?_)
        have w := w x65 ex65 rx65
        obtain ⟨c66, w⟩ := w
        refine r_ial (pc1 := 20) rfl rfl t1 (lyk t1 rfl) rx65 c66.1 (lt_len (lyn t1 rfl) c66.2) ?_
        refine r_n (pc1 := 22) [.int (J 32), .int (J (hI h1 441 x65.toNat))] _ rfl rfl ?_
        obtain ⟨J67, j67, w⟩ := w
        have Q67 : J67 → RR sc goal fs 260 39 [some (rv 437), none, none] [] h1 := by
          intro z67
          have w := j67 z67
          refine r_aldn (pc1 := 40) rfl rfl rfl ?_
          refine r_dupR (pc1 := 41) rfl rfl ?_
          refine r_gfI (pc1 := 44) rfl rfl rfl t1 (lyk t1 rfl) rfl rfl ?_
          refine r_n (pc1 := 45) [.int (J 1), .int (J (hI h1 437 13)), rv 437] _ rfl rfl ?_
          refine r_iadd (pc1 := 46) rfl rfl ?_
          refine r_pfI (pc1 := 49) rfl rfl rfl t1 (lyk t1 rfl) rfl rfl rfl (fun h68 eh68 t68 u68 => ?_)
          have w := w h68 eh68 t68 u68
          have s68 := HX_trans s1 u68
          refine r_goto (t := 0) rfl rfl ?_
          exact ih2   h68 t68 s68  (Nat.lt_of_lt_of_le w.2 (Nat.le_of_lt_succ q2)) w.1
        refine r_ic (t := 39) (pc1 := 25) rfl rfl rfl (rgh _ _ _) (rgk rfl) (fun c72 => ?_) (fun c72 => ?_)
        · have w := w.1 c72
          exact Q67     w
        · have w := w.2 c72
          refine r_aldn (pc1 := 26) rfl rfl rfl ?_
          refine r_gfC (pc1 := 29) (q := 441) rfl rfl rfl t1 (lyk t1 rfl) rfl rfl (lyR t1 rfl rfl) ?_
          refine r_aldn (pc1 := 30) rfl rfl rfl ?_
          refine r_gfI (pc1 := 33) rfl rfl rfl t1 (lyk t1 rfl) rfl rfl ?_
          refine r_vI (rgh _ _ _) (fun x69 ex69 rx69 => ?_)
          have w := w x69 ex69 rx69
          obtain ⟨c70, w⟩ := w
          refine r_ial (pc1 := 34) rfl rfl t1 (lyk t1 rfl) rx69 c70.1 (lt_len (lyn t1 rfl) c70.2) ?_
          refine r_n (pc1 := 36) [.int (J 10), .int (J (hI h1 441 x69.toNat))] _ rfl rfl ?_
          refine r_ic (t := 52) (pc1 := 39) rfl rfl rfl (rgh _ _ _) (rgk rfl) (fun c71 => ?_) (fun c71 => ?_)
          · have w := w.1 c71
            exact Q3     w
          · have w := w.2 c71
            exact Q67     w
  exact Q2 _   h t0 (HX_refl h)  (Nat.lt_succ_self _) w
def w_X14_startText  (K : XH → Prop) (h : XH) : Prop :=
  (∀ h1 : XH, h1 = sI h 437 13 0 → HT h1 → HX h h1 → ∀ h2 : XH, h2 = sI h1 437 21 0 → HT h2 → HX h1 h2 → ∀ h3 : XH, h3 = sI h2 437 22 0 → HT h3 → HX h2 h3 → w_X14_next (fun h4 => HT h4 → HX h3 h4 → (K h4)) h3)
set_option maxHeartbeats 4000000 in
theorem a_X14_startText {sc : Nat × (Nat → Int32)} {goal : XO → XH → Prop} {fs : List XF} {h : XH}  {K : XH → Prop} (hd : fs.length + 3 ≤ 1000) (w : w_X14_startText  K h) (t0 : HT h) (k : ∀ (h1 : XH), HT h1 → HX h h1 → K h1 → XFin xP sc goal fs (.inl none) h1) : RR sc goal fs 305 0 [some (rv 437)] [] h := by
  unfold w_X14_startText at w
  refine r_aldn (pc1 := 1) rfl rfl rfl ?_
  refine r_n (pc1 := 2) [.int (J 0), rv 437] _ rfl rfl ?_
  refine r_pfI (pc1 := 5) rfl rfl rfl t0 (lyk t0 rfl) rfl rfl rfl (fun h1 eh1 t1 u1 => ?_)
  have w := w h1 eh1 t1 u1
  have s1 := HX_trans (HX_refl h) u1
  refine r_aldn (pc1 := 6) rfl rfl rfl ?_
  refine r_n (pc1 := 7) [.int (J 0), rv 437] _ rfl rfl ?_
  refine r_pfI (pc1 := 10) rfl rfl rfl t1 (lyk t1 rfl) rfl rfl rfl (fun h2 eh2 t2 u2 => ?_)
  have w := w h2 eh2 t2 u2
  have s2 := HX_trans s1 u2
  refine r_aldn (pc1 := 11) rfl rfl rfl ?_
  refine r_n (pc1 := 12) [.int (J 0), rv 437] _ rfl rfl ?_
  refine r_pfI (pc1 := 15) rfl rfl rfl t2 (lyk t2 rfl) rfl rfl rfl (fun h3 eh3 t3 u3 => ?_)
  have w := w h3 eh3 t3 u3
  have s3 := HX_trans s2 u3
  refine r_aldn (pc1 := 16) rfl rfl rfl ?_
  refine r_iv rfl rfl rfl rfl rfl rfl t3 (lyk t3 rfl) rfl (xe_of (xa_r xa_0) rfl rfl) (r_d0 hd rfl) (a_X14_next  (r_d1 hd rfl)  w t3 (fun h4 t4 u4 w => ?_))
  refine r_fV (pc1 := 19) rfl ?_
  have s4 := HX_trans s3 u4
  have w := w t4 u4
  exact r_retV rfl rfl rfl (k _ t4 s4 w)
def w_X14_wrong  (K : Int → XH → Prop) (h : XH) : Prop :=
  (∀ h1 : XH, h1 = sI h 437 17 (hI h 437 14) → HT h1 → HX h h1 → K 0 h1)
set_option maxHeartbeats 4000000 in
theorem a_X14_wrong {sc : Nat × (Nat → Int32)} {goal : XO → XH → Prop} {fs : List XF} {h : XH}  {K : Int → XH → Prop} (hd : fs.length + 0 ≤ 1000) (w : w_X14_wrong  K h) (t0 : HT h) (k : ∀ (r : Int) (h1 : XH), HT h1 → HX h h1 → rg r → (r = 0 ∨ r = 1) → K r h1 → XFin xP sc goal fs (.inl (some (.int (J r)))) h1) : RR sc goal fs 327 0 [some (rv 437)] [] h := by
  unfold w_X14_wrong at w
  refine r_aldn (pc1 := 1) rfl rfl rfl ?_
  refine r_aldn (pc1 := 2) rfl rfl rfl ?_
  refine r_gfI (pc1 := 5) rfl rfl rfl t0 (lyk t0 rfl) rfl rfl ?_
  refine r_pfI (pc1 := 8) rfl rfl rfl t0 (lyk t0 rfl) rfl rfl rfl (fun h1 eh1 t1 u1 => ?_)
  have w := w h1 eh1 t1 u1
  have s1 := HX_trans (HX_refl h) u1
  refine r_n (pc1 := 9) [.int (J 0)] _ rfl rfl ?_
  exact r_retB rfl rfl rfl (.inl rfl) (k _ _ t1 s1 (rgk rfl) (.inl rfl) w)
def w_X14_readLetter  (K : Int → XH → Prop) (h : XH) : Prop :=
  (((hI h 437 15 = 0 → ((0 ≤ hI h 437 21 ∧ hI h 437 21 < 200) ∧ ∀ h2 : XH, h2 = sI h 443 (hI h 437 21).toNat (hI h 437 16) → HT h2 → HX h h2 → (0 ≤ hI h2 437 21 ∧ hI h2 437 21 < 201) ∧ ∀ h4 : XH, h4 = sI h2 444 (hI h2 437 21).toNat (hI h2 437 22) → HT h4 → HX h2 h4 → ∀ h5 : XH, h5 = sI h4 437 21 (wr ((hI h4 437 21) + 1)) → HT h5 → HX h4 h5 → w_X14_next (fun h6 => HT h6 → HX h5 h6 → (K 1 h6)) h5)) ∧ (¬ (hI h 437 15 = 0) → (w_X14_wrong (fun x7 h8 => HT h8 → HX h h8 → rg x7 → (x7 = 0 ∨ x7 = 1) → (K x7 h8)) h))))
set_option maxHeartbeats 4000000 in
theorem a_X14_readLetter {sc : Nat × (Nat → Int32)} {goal : XO → XH → Prop} {fs : List XF} {h : XH}  {K : Int → XH → Prop} (hd : fs.length + 3 ≤ 1000) (w : w_X14_readLetter  K h) (t0 : HT h) (k : ∀ (r : Int) (h1 : XH), HT h1 → HX h h1 → rg r → (r = 0 ∨ r = 1) → K r h1 → XFin xP sc goal fs (.inl (some (.int (J r)))) h1) : RR sc goal fs 283 0 [some (rv 437)] [] h := by
  unfold w_X14_readLetter at w
  refine r_aldn (pc1 := 1) rfl rfl rfl ?_
  refine r_gfI (pc1 := 4) rfl rfl rfl t0 (lyk t0 rfl) rfl rfl ?_
  refine r_iz (t := 12) (pc1 := 7) rfl rfl rfl (rgh _ _ _) (fun c9 => ?_) (fun c9 => ?_)
  · have w := w.1 c9
    refine r_aldn (pc1 := 13) rfl rfl rfl ?_
    refine r_gfC (pc1 := 16) (q := 443) rfl rfl rfl t0 (lyk t0 rfl) rfl rfl (lyR t0 rfl rfl) ?_
    refine r_aldn (pc1 := 17) rfl rfl rfl ?_
    refine r_gfI (pc1 := 20) rfl rfl rfl t0 (lyk t0 rfl) rfl rfl ?_
    refine r_aldn (pc1 := 21) rfl rfl rfl ?_
    refine r_gfI (pc1 := 24) rfl rfl rfl t0 (lyk t0 rfl) rfl rfl ?_
    obtain ⟨c1, w⟩ := w
    refine r_iast (pc1 := 25) rfl rfl t0 (lyk t0 rfl) (rgh _ _ _) c1.1 (lt_len (lyn t0 rfl) c1.2) (fun h2 eh2 t2 u2 => ?_)
    have w := w h2 eh2 t2 u2
    have s2 := HX_trans (HX_refl h) u2
    refine r_aldn (pc1 := 26) rfl rfl rfl ?_
    refine r_gfC (pc1 := 29) (q := 444) rfl rfl rfl t2 (lyk t2 rfl) rfl rfl (lyR t2 rfl rfl) ?_
    refine r_aldn (pc1 := 30) rfl rfl rfl ?_
    refine r_gfI (pc1 := 33) rfl rfl rfl t2 (lyk t2 rfl) rfl rfl ?_
    refine r_aldn (pc1 := 34) rfl rfl rfl ?_
    refine r_gfI (pc1 := 37) rfl rfl rfl t2 (lyk t2 rfl) rfl rfl ?_
    obtain ⟨c3, w⟩ := w
    refine r_iast (pc1 := 38) rfl rfl t2 (lyk t2 rfl) (rgh _ _ _) c3.1 (lt_len (lyn t2 rfl) c3.2) (fun h4 eh4 t4 u4 => ?_)
    have w := w h4 eh4 t4 u4
    have s4 := HX_trans s2 u4
    refine r_aldn (pc1 := 39) rfl rfl rfl ?_
    refine r_dupR (pc1 := 40) rfl rfl ?_
    refine r_gfI (pc1 := 43) rfl rfl rfl t4 (lyk t4 rfl) rfl rfl ?_
    refine r_n (pc1 := 44) [.int (J 1), .int (J (hI h4 437 21)), rv 437] _ rfl rfl ?_
    refine r_iadd (pc1 := 45) rfl rfl ?_
    refine r_pfI (pc1 := 48) rfl rfl rfl t4 (lyk t4 rfl) rfl rfl rfl (fun h5 eh5 t5 u5 => ?_)
    have w := w h5 eh5 t5 u5
    have s5 := HX_trans s4 u5
    refine r_aldn (pc1 := 49) rfl rfl rfl ?_
    refine r_iv rfl rfl rfl rfl rfl rfl t5 (lyk t5 rfl) rfl (xe_of (xa_r xa_0) rfl rfl) (r_d0 hd rfl) (a_X14_next  (r_d1 hd rfl)  w t5 (fun h6 t6 u6 w => ?_))
    refine r_fV (pc1 := 52) rfl ?_
    have s6 := HX_trans s5 u6
    have w := w t6 u6
    refine r_n (pc1 := 53) [.int (J 1)] _ rfl rfl ?_
    exact r_retB rfl rfl rfl (.inr rfl) (k _ _ t6 s6 (rgk rfl) (.inr rfl) w)
  · have w := w.2 c9
    refine r_aldn (pc1 := 8) rfl rfl rfl ?_
    refine r_iv rfl rfl rfl rfl rfl rfl t0 (lyk t0 rfl) rfl (xe_of (xa_r xa_0) rfl rfl) (r_d0 hd rfl) (a_X14_wrong  (r_d1 hd rfl)  w t0 (fun x7 h8 t8 u8 rx7 vx7 w => ?_))
    refine r_fI (pc1 := 11) rfl ?_
    have s8 := HX_trans (HX_refl h) u8
    have w := w t8 u8
    have w := w rx7 vx7
    exact r_retB rfl rfl rfl vx7 (k _ _ t8 s8 rx7 vx7 w)
def w_X13_init (t : Nat) (p0 : Int) (p1 : Nat) (p2 : Nat) (p3 : Nat) (K : XH → Prop) (h : XH) : Prop :=
  ((p0 = 0 ∨ p0 = 1) ∧ ∀ h2 : XH, h2 = sI h t 0 p0 → HT h2 → HX h h2 → ∀ h3 : XH, h3 = sR h2 t 1 p1 → HT h3 → HX h2 h3 → ∀ h4 : XH, h4 = sR h3 t 2 p2 → HT h4 → HX h3 h4 → ∀ h5 : XH, h5 = sR h4 t 3 p3 → HT h5 → HX h4 h5 → K h5)
set_option maxHeartbeats 4000000 in
theorem a_X13_init {sc : Nat × (Nat → Int32)} {goal : XO → XH → Prop} {fs : List XF} {h : XH} (t : Nat) (p0 : Int) (p1 : Nat) (p2 : Nat) (p3 : Nat) {K : XH → Prop} (hd : fs.length + 0 ≤ 1000) (c0 : hk h t = 14) (rp0 : rg p0) (w : w_X13_init t p0 p1 p2 p3 K h) (t0 : HT h) (k : ∀ (h1 : XH), HT h1 → HX h h1 → K h1 → XFin xP sc goal fs (.inl none) h1) : RR sc goal fs 166 0 [some (rv t), some (.int (J p0)), some (rv p1), some (rv p2), some (rv p3)] [] h := by
  unfold w_X13_init at w
  refine r_aldn (pc1 := 1) rfl rfl rfl ?_
  refine r_i7 (pc1 := 4) rfl rfl rfl t0 (HXk (HX_refl h) c0 rfl) rfl rfl ?_
  refine r_aldn (pc1 := 5) rfl rfl rfl ?_
  refine r_n (pc1 := 6) [.int (J p0), rv t] _ rfl rfl ?_
  obtain ⟨c1, w⟩ := w
  refine r_pfB (pc1 := 9) rfl rfl rfl t0 (HXk (HX_refl h) c0 rfl) rfl rfl rfl c1 (fun h2 eh2 t2 u2 => ?_)
  have w := w h2 eh2 t2 u2
  have s2 := HX_trans (HX_refl h) u2
  refine r_aldn (pc1 := 10) rfl rfl rfl ?_
  refine r_aldn (pc1 := 11) rfl rfl rfl ?_
  refine r_pfA (pc1 := 14) rfl rfl rfl t2 (HXk s2 c0 rfl) rfl rfl rfl (fun h3 eh3 t3 u3 => ?_)
  have w := w h3 eh3 t3 u3
  have s3 := HX_trans s2 u3
  refine r_aldn (pc1 := 15) rfl rfl rfl ?_
  refine r_aldn (pc1 := 16) rfl rfl rfl ?_
  refine r_pfA (pc1 := 19) rfl rfl rfl t3 (HXk s3 c0 rfl) rfl rfl rfl (fun h4 eh4 t4 u4 => ?_)
  have w := w h4 eh4 t4 u4
  have s4 := HX_trans s3 u4
  refine r_aldn (pc1 := 20) rfl rfl rfl ?_
  refine r_ald (pc1 := 22) rfl rfl rfl ?_
  refine r_pfA (pc1 := 25) rfl rfl rfl t4 (HXk s4 c0 rfl) rfl rfl rfl (fun h5 eh5 t5 u5 => ?_)
  have w := w h5 eh5 t5 u5
  have s5 := HX_trans s4 u5
  exact r_retV rfl rfl rfl (k _ t5 s5 w)
def w_X14_taken (p0 : Int) (p1 : Int) (K : Nat → XH → Prop) (h : XH) : Prop :=
  (∀ h1 : XH, h1 = sI h 437 9 0 → HT h1 → HX h h1 → ∃ J3 : Int → Prop, (∀ (x2 : Int), rg x2 → J3 x2 → (∀ h4 : XH, h4 = sI h1 437 10 x2 → HT h4 → HX h1 h4 → ((¬ p0 = 0 → ((0 ≤ hI h4 437 21 ∧ hI h4 437 21 < 67108864) ∧ ∀ (a6 : Nat) (h7 : XH), a6 = h4.length → h7 = nA h4 0 (hI h4 437 21).toNat → HT h7 → HX h4 h7 → hk h7 a6 = 100 → hn h7 a6 = (hI h4 437 21).toNat → (0 ≤ wr ((hI h7 437 21) + 1) ∧ wr ((hI h7 437 21) + 1) < 67108864) ∧ ∀ (a9 : Nat) (h10 : XH), a9 = h7.length → h10 = nA h7 0 (wr ((hI h7 437 21) + 1)).toNat → HT h10 → HX h7 h10 → hk h10 a9 = 100 → hn h10 a9 = (wr ((hI h7 437 21) + 1)).toNat → (0 ≤ wr (3 * (hI h10 437 22)) ∧ wr (3 * (hI h10 437 22)) < 67108864) ∧ ∀ (a12 : Nat) (h13 : XH), a12 = h10.length → h13 = nA h10 0 (wr (3 * (hI h10 437 22))).toNat → HT h13 → HX h10 h13 → hk h13 a12 = 100 → hn h13 a12 = (wr (3 * (hI h10 437 22))).toNat → (¬ 443 = a6 ∧ (0 : Int) ≤ 0 ∧ (0 : Int) ≤ 0 ∧ (0 : Int) ≤ hI h13 437 21 ∧ ((0 + (hI h13 437 21) : Int)) ≤ 200 ∧ ((0 + (hI h13 437 21) : Int)) ≤ (hn h13 a6 : Int)) ∧ ∀ h15 : XH, h15 = cA h13 443 0 a6 0 (hI h13 437 21).toNat → HT h15 → HX h13 h15 → (¬ 444 = a9 ∧ (0 : Int) ≤ 0 ∧ (0 : Int) ≤ 0 ∧ (0 : Int) ≤ hI h15 437 21 ∧ ((0 + (hI h15 437 21) : Int)) ≤ 201 ∧ ((0 + (hI h15 437 21) : Int)) ≤ (hn h15 a9 : Int)) ∧ ∀ h17 : XH, h17 = cA h15 444 0 a9 0 (hI h15 437 21).toNat → HT h17 → HX h15 h17 → (0 ≤ hI h17 437 21 ∧ hI h17 437 21 < (hn h17 a9 : Int)) ∧ ∀ h19 : XH, h19 = sI h17 a9 (hI h17 437 21).toNat (hI h17 437 22) → HT h19 → HX h17 h19 → (hn h19 a12 : Int) < 2147483648 ∧ (¬ 445 = a12 ∧ (0 : Int) ≤ 0 ∧ (0 : Int) ≤ 0 ∧ (0 : Int) ≤ (hn h19 a12 : Int) ∧ ((0 + (hn h19 a12 : Int) : Int)) ≤ 600 ∧ ((0 + (hn h19 a12 : Int) : Int)) ≤ (hn h19 a12 : Int)) ∧ ∀ h22 : XH, h22 = cA h19 445 0 a12 0 (hn h19 a12 : Int).toNat → HT h22 → HX h19 h22 → ∀ (a23 : Nat) (h24 : XH), a23 = h22.length → h24 = nO h22 14 → HT h24 → HX h22 h24 → hk h24 a23 = 14 → w_X13_init a23 p1 a6 a9 a12 (fun h25 => HT h25 → HX h24 h25 → (K a23 h25)) h24)) ∧ (¬ (¬ p0 = 0) → (K 0 h4))))) ∧ ((p0 = 0 → (J3 (hI h1 437 17))) ∧ (¬ (p0 = 0) → (J3 (-1)))))
set_option maxHeartbeats 4000000 in
theorem a_X14_taken {sc : Nat × (Nat → Int32)} {goal : XO → XH → Prop} {fs : List XF} {h : XH} (p0 : Int) (p1 : Int) {K : Nat → XH → Prop} (hd : fs.length + 1 ≤ 1000) (rp0 : rg p0) (rp1 : rg p1) (w : w_X14_taken p0 p1 K h) (t0 : HT h) (k : ∀ (r : Nat) (h1 : XH), HT h1 → HX h h1 → K r h1 → XFin xP sc goal fs (.inl (some (rv r))) h1) : RR sc goal fs 309 0 [some (rv 437), some (.int (J p0)), some (.int (J p1)), none, none, none] [] h := by
  unfold w_X14_taken at w
  refine r_aldn (pc1 := 1) rfl rfl rfl ?_
  refine r_n (pc1 := 2) [.int (J 0), rv 437] _ rfl rfl ?_
  refine r_pfI (pc1 := 5) rfl rfl rfl t0 (lyk t0 rfl) rfl rfl rfl (fun h1 eh1 t1 u1 => ?_)
  have w := w h1 eh1 t1 u1
  have s1 := HX_trans (HX_refl h) u1
  refine r_aldn (pc1 := 6) rfl rfl rfl ?_
  refine r_n (pc1 := 7) [.int (J p0), rv 437] _ rfl rfl ?_
  obtain ⟨J3, j3, w⟩ := w
  have Q3 : ∀ (x2 : Int), rg x2 → J3 x2 → RR sc goal fs 309 18 [some (rv 437), some (.int (J p0)), some (.int (J p1)), none, none, none] [.int (J x2), rv 437] h1 := by
    intro x2 rx2 z3
    have w := j3 x2 rx2 z3
    refine r_pfI (pc1 := 21) rfl rfl rfl t1 (lyk t1 rfl) rfl rfl rfl (fun h4 eh4 t4 u4 => ?_)
    have w := w h4 eh4 t4 u4
    have s4 := HX_trans s1 u4
    refine r_n (pc1 := 22) [.int (J p0)] _ rfl rfl ?_
    refine r_iz (t := 27) (pc1 := 25) rfl rfl rfl rp0 (fun c26 => ?_) (fun c26 => ?_)
    · have w := w.1 c26
      refine r_aldn (pc1 := 28) rfl rfl rfl ?_
      refine r_gfI (pc1 := 31) rfl rfl rfl t4 (lyk t4 rfl) rfl rfl ?_
      obtain ⟨c5, w⟩ := w
      refine r_na (pc1 := 33) (u := 0) (m := 2) rfl rfl rfl t4 rfl (rgh _ _ _) c5.1 c5.2 (fun a6 h7 ea6 eh7 t7 u7 ca6 la6 => ?_)
      have w := w a6 h7 ea6 eh7 t7 u7 ca6 la6
      have s7 := HX_trans s4 u7
      refine r_astn (pc1 := 34) (ls1 := [some (rv 437), some (.int (J p0)), some (.int (J p1)), some (rv a6), none, none]) rfl rfl rfl rfl ?_
      refine r_aldn (pc1 := 35) rfl rfl rfl ?_
      refine r_gfI (pc1 := 38) rfl rfl rfl t7 (lyk t7 rfl) rfl rfl ?_
      refine r_n (pc1 := 39) [.int (J 1), .int (J (hI h7 437 21))] _ rfl rfl ?_
      refine r_iadd (pc1 := 40) rfl rfl ?_
      obtain ⟨c8, w⟩ := w
      refine r_na (pc1 := 42) (u := 0) (m := 2) rfl rfl rfl t7 rfl (rgw _) c8.1 c8.2 (fun a9 h10 ea9 eh10 t10 u10 ca9 la9 => ?_)
      have w := w a9 h10 ea9 eh10 t10 u10 ca9 la9
      have s10 := HX_trans s7 u10
      refine r_ast (pc1 := 44) (ls1 := [some (rv 437), some (.int (J p0)), some (.int (J p1)), some (rv a6), some (rv a9), none]) rfl rfl rfl (xput1_rv rfl rfl) ?_
      refine r_n (pc1 := 45) [.int (J 3)] _ rfl rfl ?_
      refine r_aldn (pc1 := 46) rfl rfl rfl ?_
      refine r_gfI (pc1 := 49) rfl rfl rfl t10 (lyk t10 rfl) rfl rfl ?_
      refine r_imul (pc1 := 50) rfl rfl ?_
      obtain ⟨c11, w⟩ := w
      refine r_na (pc1 := 52) (u := 0) (m := 2) rfl rfl rfl t10 rfl (rgw _) c11.1 c11.2 (fun a12 h13 ea12 eh13 t13 u13 ca12 la12 => ?_)
      have w := w a12 h13 ea12 eh13 t13 u13 ca12 la12
      have s13 := HX_trans s10 u13
      refine r_ast (pc1 := 54) (ls1 := [some (rv 437), some (.int (J p0)), some (.int (J p1)), some (rv a6), some (rv a9), some (rv a12)]) rfl rfl rfl (xput1_rv rfl rfl) ?_
      refine r_aldn (pc1 := 55) rfl rfl rfl ?_
      refine r_gfC (pc1 := 58) (q := 443) rfl rfl rfl t13 (lyk t13 rfl) rfl rfl (lyR t13 rfl rfl) ?_
      refine r_n (pc1 := 59) [.int (J 0), rv 443] _ rfl rfl ?_
      refine r_aldn (pc1 := 60) rfl rfl rfl ?_
      refine r_n (pc1 := 61) [.int (J 0), rv a6, .int (J 0), rv 443] _ rfl rfl ?_
      refine r_aldn (pc1 := 62) rfl rfl rfl ?_
      refine r_gfI (pc1 := 65) rfl rfl rfl t13 (lyk t13 rfl) rfl rfl ?_
      obtain ⟨c14, w⟩ := w
      refine r_cp (pc1 := 68) (u := 0) rfl rfl rfl rfl t13 (lyk t13 rfl) (HXk u13 (HXk u10 ca6 rfl) rfl) (by decide) (rgk rfl) (rgk rfl) (rgh _ _ _) (lyn t13 rfl) rfl c14 (fun h15 eh15 t15 u15 => ?_)
      have w := w h15 eh15 t15 u15
      have s15 := HX_trans s13 u15
      refine r_aldn (pc1 := 69) rfl rfl rfl ?_
      refine r_gfC (pc1 := 72) (q := 444) rfl rfl rfl t15 (lyk t15 rfl) rfl rfl (lyR t15 rfl rfl) ?_
      refine r_n (pc1 := 73) [.int (J 0), rv 444] _ rfl rfl ?_
      refine r_ald (pc1 := 75) rfl rfl rfl ?_
      refine r_n (pc1 := 76) [.int (J 0), rv a9, .int (J 0), rv 444] _ rfl rfl ?_
      refine r_aldn (pc1 := 77) rfl rfl rfl ?_
      refine r_gfI (pc1 := 80) rfl rfl rfl t15 (lyk t15 rfl) rfl rfl ?_
      obtain ⟨c16, w⟩ := w
      refine r_cp (pc1 := 83) (u := 0) rfl rfl rfl rfl t15 (lyk t15 rfl) (HXk u15 (HXk u13 ca9 rfl) rfl) (by decide) (rgk rfl) (rgk rfl) (rgh _ _ _) (lyn t15 rfl) rfl c16 (fun h17 eh17 t17 u17 => ?_)
      have w := w h17 eh17 t17 u17
      have s17 := HX_trans s15 u17
      refine r_ald (pc1 := 85) rfl rfl rfl ?_
      refine r_aldn (pc1 := 86) rfl rfl rfl ?_
      refine r_gfI (pc1 := 89) rfl rfl rfl t17 (lyk t17 rfl) rfl rfl ?_
      refine r_aldn (pc1 := 90) rfl rfl rfl ?_
      refine r_gfI (pc1 := 93) rfl rfl rfl t17 (lyk t17 rfl) rfl rfl ?_
      obtain ⟨c18, w⟩ := w
      refine r_iast (pc1 := 94) rfl rfl t17 (HXk u17 (HXk u15 (HXk u13 ca9 rfl) rfl) rfl) (rgh _ _ _) c18.1 c18.2 (fun h19 eh19 t19 u19 => ?_)
      have w := w h19 eh19 t19 u19
      have s19 := HX_trans s17 u19
      refine r_aldn (pc1 := 95) rfl rfl rfl ?_
      refine r_gfC (pc1 := 98) (q := 445) rfl rfl rfl t19 (lyk t19 rfl) rfl rfl (lyR t19 rfl rfl) ?_
      refine r_n (pc1 := 99) [.int (J 0), rv 445] _ rfl rfl ?_
      refine r_ald (pc1 := 101) rfl rfl rfl ?_
      refine r_n (pc1 := 102) [.int (J 0), rv a12, .int (J 0), rv 445] _ rfl rfl ?_
      refine r_ald (pc1 := 104) rfl rfl rfl ?_
      obtain ⟨c20, w⟩ := w
      refine r_len (pc1 := 105) (u := 0) rfl rfl t19 (HXk u19 (HXk u17 (HXk u15 ca12 rfl) rfl) rfl) (by decide) (fun rc20 => ?_) c20
      obtain ⟨c21, w⟩ := w
      refine r_cp (pc1 := 108) (u := 0) rfl rfl rfl rfl t19 (lyk t19 rfl) (HXk u19 (HXk u17 (HXk u15 ca12 rfl) rfl) rfl) (by decide) (rgk rfl) (rgk rfl) rc20 (lyn t19 rfl) rfl c21 (fun h22 eh22 t22 u22 => ?_)
      have w := w h22 eh22 t22 u22
      have s22 := HX_trans s19 u22
      refine r_new (pc1 := 111) rfl rfl rfl t22 (by decide) (fun a23 h24 ea23 eh24 t24 u24 ca23 => ?_)
      have w := w a23 h24 ea23 eh24 t24 u24 ca23
      have s24 := HX_trans s22 u24
      refine r_dupR (pc1 := 112) rfl rfl ?_
      refine r_n (pc1 := 113) [.int (J p1), rv a23, rv a23] _ rfl rfl ?_
      refine r_aldn (pc1 := 114) rfl rfl rfl ?_
      refine r_ald (pc1 := 116) rfl rfl rfl ?_
      refine r_ald (pc1 := 118) rfl rfl rfl ?_
      refine r_ip rfl rfl rfl rfl rfl rfl t24 ca23 rfl (xe_of (xa_r (xa_i (xa_r (xa_r (xa_r xa_0))))) rfl rfl) (r_d0 hd rfl) (a_X13_init a23 p1 a6 a9 a12 (r_d1 hd rfl) ca23 rp1 w t24 (fun h25 t25 u25 w => ?_))
      refine r_fV (pc1 := 121) rfl ?_
      have s25 := HX_trans s24 u25
      have w := w t25 u25
      exact r_retR rfl rfl rfl xok_O xokr_O (k _ _ t25 s25 w)
    · have w := w.2 c26
      refine r_n (pc1 := 26) [rv 0] _ rfl rfl ?_
      exact r_retR rfl rfl rfl xok_O xokr_O (k _ _ t4 s4 w)
  refine r_iz (t := 14) (pc1 := 10) rfl rfl rfl rp0 (fun c27 => ?_) (fun c27 => ?_)
  · have w := w.1 c27
    refine r_aldn (pc1 := 15) rfl rfl rfl ?_
    refine r_gfI (pc1 := 18) rfl rfl rfl t1 (lyk t1 rfl) rfl rfl ?_
    exact Q3  (hI h1 437 17)  (rgh _ _ _) w
  · have w := w.2 c27
    refine r_n (pc1 := 11) [.int (J (-1)), rv 437] _ rfl rfl ?_
    refine r_goto (t := 18) rfl rfl ?_
    exact Q3  (-1)  (rgk rfl) w
def w_X14_isSign (p0 : Int) (K : Int → Prop) (h : XH) : Prop :=
  (∃ J2 : Int → Prop, (∀ (x1 : Int), rg x1 → J2 x1 → ((x1 = 0 ∨ x1 = 1) ∧ K x1)) ∧ ∃ J4 : Prop, (J4 → (J2 0)) ∧ ((¬ hI h 437 15 = 2 → J4) ∧ (¬ (¬ hI h 437 15 = 2) → (((¬ hI h 437 16 = p0 → J4) ∧ (¬ (¬ hI h 437 16 = p0) → (J2 1)))))))
set_option maxHeartbeats 4000000 in
theorem a_X14_isSign {sc : Nat × (Nat → Int32)} {goal : XO → XH → Prop} {fs : List XF} {h : XH} (p0 : Int) {K : Int → Prop} (hd : fs.length + 0 ≤ 1000) (rp0 : rg p0) (w : w_X14_isSign p0 K h) (t0 : HT h) (k : ∀ (r : Int), rg r → (r = 0 ∨ r = 1) → K r → XFin xP sc goal fs (.inl (some (.int (J r)))) h) : RR sc goal fs 237 0 [some (rv 437), some (.int (J p0))] [] h := by
  unfold w_X14_isSign at w
  refine r_aldn (pc1 := 1) rfl rfl rfl ?_
  refine r_gfI (pc1 := 4) rfl rfl rfl t0 (lyk t0 rfl) rfl rfl ?_
  refine r_n (pc1 := 5) [.int (J 2), .int (J (hI h 437 15))] _ rfl rfl ?_
  obtain ⟨J2, j2, w⟩ := w
  have Q2 : ∀ (x1 : Int), rg x1 → J2 x1 → RR sc goal fs 237 21 [some (rv 437), some (.int (J p0))] [.int (J x1)] h := by
    intro x1 rx1 z2
    have w := j2 x1 rx1 z2
    obtain ⟨c3, w⟩ := w
    exact r_retB rfl rfl rfl c3 (k _ rx1 c3 w)
  obtain ⟨J4, j4, w⟩ := w
  have Q4 : J4 → RR sc goal fs 237 20 [some (rv 437), some (.int (J p0))] [] h := by
    intro z4
    have w := j4 z4
    refine r_n (pc1 := 21) [.int (J 0)] _ rfl rfl ?_
    exact Q2  0  (rgk rfl) w
  refine r_ic (t := 20) (pc1 := 8) rfl rfl rfl (rgh _ _ _) (rgk rfl) (fun c6 => ?_) (fun c6 => ?_)
  · have w := w.1 c6
    exact Q4     w
  · have w := w.2 c6
    refine r_aldn (pc1 := 9) rfl rfl rfl ?_
    refine r_gfI (pc1 := 12) rfl rfl rfl t0 (lyk t0 rfl) rfl rfl ?_
    refine r_n (pc1 := 13) [.int (J p0), .int (J (hI h 437 16))] _ rfl rfl ?_
    refine r_ic (t := 20) (pc1 := 16) rfl rfl rfl (rgh _ _ _) rp0 (fun c5 => ?_) (fun c5 => ?_)
    · have w := w.1 c5
      exact Q4     w
    · have w := w.2 c5
      refine r_n (pc1 := 17) [.int (J 1)] _ rfl rfl ?_
      refine r_goto (t := 21) rfl rfl ?_
      exact Q2  1  (rgk rfl) w
def w_X14_addSpan (p0 : Int) (p1 : Int) (p2 : Int) (K : Int → XH → Prop) (h : XH) : Prop :=
  ((0 ≤ wr (3 * (hI h 437 22)) ∧ wr (3 * (hI h 437 22)) < 600) ∧ ∀ h2 : XH, h2 = sI h 445 (wr (3 * (hI h 437 22))).toNat p0 → HT h2 → HX h h2 → (0 ≤ wr ((wr (3 * (hI h2 437 22))) + 1) ∧ wr ((wr (3 * (hI h2 437 22))) + 1) < 600) ∧ ∀ h4 : XH, h4 = sI h2 445 (wr ((wr (3 * (hI h2 437 22))) + 1)).toNat p1 → HT h4 → HX h2 h4 → (0 ≤ wr ((wr (3 * (hI h4 437 22))) + 2) ∧ wr ((wr (3 * (hI h4 437 22))) + 2) < 600) ∧ ∀ h6 : XH, h6 = sI h4 445 (wr ((wr (3 * (hI h4 437 22))) + 2)).toNat p2 → HT h6 → HX h4 h6 → ∀ h7 : XH, h7 = sI h6 437 22 (wr ((hI h6 437 22) + 1)) → HT h7 → HX h6 h7 → K 1 h7)
set_option maxHeartbeats 4000000 in
theorem a_X14_addSpan {sc : Nat × (Nat → Int32)} {goal : XO → XH → Prop} {fs : List XF} {h : XH} (p0 : Int) (p1 : Int) (p2 : Int) {K : Int → XH → Prop} (hd : fs.length + 0 ≤ 1000) (rp0 : rg p0) (rp1 : rg p1) (rp2 : rg p2) (w : w_X14_addSpan p0 p1 p2 K h) (t0 : HT h) (k : ∀ (r : Int) (h1 : XH), HT h1 → HX h h1 → rg r → (r = 0 ∨ r = 1) → K r h1 → XFin xP sc goal fs (.inl (some (.int (J r)))) h1) : RR sc goal fs 171 0 [some (rv 437), some (.int (J p0)), some (.int (J p1)), some (.int (J p2))] [] h := by
  unfold w_X14_addSpan at w
  refine r_aldn (pc1 := 1) rfl rfl rfl ?_
  refine r_gfC (pc1 := 4) (q := 445) rfl rfl rfl t0 (lyk t0 rfl) rfl rfl (lyR t0 rfl rfl) ?_
  refine r_n (pc1 := 5) [.int (J 3), rv 445] _ rfl rfl ?_
  refine r_aldn (pc1 := 6) rfl rfl rfl ?_
  refine r_gfI (pc1 := 9) rfl rfl rfl t0 (lyk t0 rfl) rfl rfl ?_
  refine r_imul (pc1 := 10) rfl rfl ?_
  refine r_n (pc1 := 11) [.int (J p0), .int (J (wr (3 * (hI h 437 22)))), rv 445] _ rfl rfl ?_
  obtain ⟨c1, w⟩ := w
  refine r_iast (pc1 := 12) rfl rfl t0 (lyk t0 rfl) (rgw _) c1.1 (lt_len (lyn t0 rfl) c1.2) (fun h2 eh2 t2 u2 => ?_)
  have w := w h2 eh2 t2 u2
  have s2 := HX_trans (HX_refl h) u2
  refine r_aldn (pc1 := 13) rfl rfl rfl ?_
  refine r_gfC (pc1 := 16) (q := 445) rfl rfl rfl t2 (lyk t2 rfl) rfl rfl (lyR t2 rfl rfl) ?_
  refine r_n (pc1 := 17) [.int (J 3), rv 445] _ rfl rfl ?_
  refine r_aldn (pc1 := 18) rfl rfl rfl ?_
  refine r_gfI (pc1 := 21) rfl rfl rfl t2 (lyk t2 rfl) rfl rfl ?_
  refine r_imul (pc1 := 22) rfl rfl ?_
  refine r_n (pc1 := 23) [.int (J 1), .int (J (wr (3 * (hI h2 437 22)))), rv 445] _ rfl rfl ?_
  refine r_iadd (pc1 := 24) rfl rfl ?_
  refine r_n (pc1 := 25) [.int (J p1), .int (J (wr ((wr (3 * (hI h2 437 22))) + 1))), rv 445] _ rfl rfl ?_
  obtain ⟨c3, w⟩ := w
  refine r_iast (pc1 := 26) rfl rfl t2 (lyk t2 rfl) (rgw _) c3.1 (lt_len (lyn t2 rfl) c3.2) (fun h4 eh4 t4 u4 => ?_)
  have w := w h4 eh4 t4 u4
  have s4 := HX_trans s2 u4
  refine r_aldn (pc1 := 27) rfl rfl rfl ?_
  refine r_gfC (pc1 := 30) (q := 445) rfl rfl rfl t4 (lyk t4 rfl) rfl rfl (lyR t4 rfl rfl) ?_
  refine r_n (pc1 := 31) [.int (J 3), rv 445] _ rfl rfl ?_
  refine r_aldn (pc1 := 32) rfl rfl rfl ?_
  refine r_gfI (pc1 := 35) rfl rfl rfl t4 (lyk t4 rfl) rfl rfl ?_
  refine r_imul (pc1 := 36) rfl rfl ?_
  refine r_n (pc1 := 37) [.int (J 2), .int (J (wr (3 * (hI h4 437 22)))), rv 445] _ rfl rfl ?_
  refine r_iadd (pc1 := 38) rfl rfl ?_
  refine r_n (pc1 := 39) [.int (J p2), .int (J (wr ((wr (3 * (hI h4 437 22))) + 2))), rv 445] _ rfl rfl ?_
  obtain ⟨c5, w⟩ := w
  refine r_iast (pc1 := 40) rfl rfl t4 (lyk t4 rfl) (rgw _) c5.1 (lt_len (lyn t4 rfl) c5.2) (fun h6 eh6 t6 u6 => ?_)
  have w := w h6 eh6 t6 u6
  have s6 := HX_trans s4 u6
  refine r_aldn (pc1 := 41) rfl rfl rfl ?_
  refine r_dupR (pc1 := 42) rfl rfl ?_
  refine r_gfI (pc1 := 45) rfl rfl rfl t6 (lyk t6 rfl) rfl rfl ?_
  refine r_n (pc1 := 46) [.int (J 1), .int (J (hI h6 437 22)), rv 437] _ rfl rfl ?_
  refine r_iadd (pc1 := 47) rfl rfl ?_
  refine r_pfI (pc1 := 50) rfl rfl rfl t6 (lyk t6 rfl) rfl rfl rfl (fun h7 eh7 t7 u7 => ?_)
  have w := w h7 eh7 t7 u7
  have s7 := HX_trans s6 u7
  refine r_n (pc1 := 51) [.int (J 1)] _ rfl rfl ?_
  exact r_retB rfl rfl rfl (.inr rfl) (k _ _ t7 s7 (rgk rfl) (.inr rfl) w)
def w_X14_readVersion  (K : Int → XH → Prop) (h : XH) : Prop :=
  (((hI h 437 15 = 1 → (∀ x1 : Int, x1 = wr (10000 * (hI h 437 16)) → rg x1 → w_X14_next (fun h2 => HT h2 → HX h h2 → (w_X14_isSign 46 (fun x3 => rg x3 → (x3 = 0 ∨ x3 = 1) → (((¬ x3 = 0 → (w_X14_next (fun h4 => HT h4 → HX h2 h4 → (((hI h4 437 15 = 1 → (∀ x5 : Int, x5 = wr (x1 + (wr ((wr (100 * (hI h4 437 16))) + 99))) → rg x5 → w_X14_next (fun h6 => HT h6 → HX h4 h6 → (w_X14_isSign 33 (fun x7 => rg x7 → (x7 = 0 ∨ x7 = 1) → (∃ J10 : Int → XH → Prop, (∀ (x8 : Int) (h9 : XH), HT h9 → HX h h9 → rg x8 → J10 x8 h9 → (∀ h11 : XH, h11 = sI h9 437 23 x8 → HT h11 → HX h9 h11 → K 1 h11)) ∧ ((x7 = 0 → J10 x5 h6) ∧ (¬ (x7 = 0) → (w_X14_next (fun h12 => HT h12 → HX h6 h12 → (∃ J13 : Prop, (J13 → (w_X14_wrong (fun x14 h15 => HT h15 → HX h12 h15 → rg x14 → (x14 = 0 ∨ x14 = 1) → (K x14 h15)) h12)) ∧ ((¬ hI h12 437 15 = 1 → J13) ∧ (¬ (¬ hI h12 437 15 = 1) → (w_X14_within (hI h12 437 16) 1 98 (fun x16 => rg x16 → (x16 = 0 ∨ x16 = 1) → (((¬ x16 = 0 → (∀ x17 : Int, x17 = wr (x5 + (wr ((hI h12 437 16) - 99))) → rg x17 → w_X14_next (fun h18 => HT h18 → HX h12 h18 → J10 x17 h18) h12)) ∧ (¬ (¬ x16 = 0) → J13)))) h12))))) h6))))) h6)) h4)) ∧ (¬ (hI h4 437 15 = 1) → (w_X14_wrong (fun x22 h23 => HT h23 → HX h4 h23 → rg x22 → (x22 = 0 ∨ x22 = 1) → (K x22 h23)) h4))))) h2)) ∧ (¬ (¬ x3 = 0) → (w_X14_wrong (fun x25 h26 => HT h26 → HX h2 h26 → rg x25 → (x25 = 0 ∨ x25 = 1) → (K x25 h26)) h2))))) h2)) h)) ∧ (¬ (hI h 437 15 = 1) → (w_X14_wrong (fun x28 h29 => HT h29 → HX h h29 → rg x28 → (x28 = 0 ∨ x28 = 1) → (K x28 h29)) h))))
set_option maxHeartbeats 4000000 in
theorem a_X14_readVersion {sc : Nat × (Nat → Int32)} {goal : XO → XH → Prop} {fs : List XF} {h : XH}  {K : Int → XH → Prop} (hd : fs.length + 3 ≤ 1000) (w : w_X14_readVersion  K h) (t0 : HT h) (k : ∀ (r : Int) (h1 : XH), HT h1 → HX h h1 → rg r → (r = 0 ∨ r = 1) → K r h1 → XFin xP sc goal fs (.inl (some (.int (J r)))) h1) : RR sc goal fs 288 0 [some (rv 437), none] [] h := by
  unfold w_X14_readVersion at w
  refine r_aldn (pc1 := 1) rfl rfl rfl ?_
  refine r_gfI (pc1 := 4) rfl rfl rfl t0 (lyk t0 rfl) rfl rfl ?_
  refine r_n (pc1 := 5) [.int (J 1), .int (J (hI h 437 15))] _ rfl rfl ?_
  refine r_ic (t := 13) (pc1 := 8) rfl rfl rfl (rgh _ _ _) (rgk rfl) (fun c30 => ?_) (fun c30 => ?_)
  · have w := w.1 c30
    refine r_n (pc1 := 16) [.int (J 10000)] _ rfl rfl ?_
    refine r_aldn (pc1 := 17) rfl rfl rfl ?_
    refine r_gfI (pc1 := 20) rfl rfl rfl t0 (lyk t0 rfl) rfl rfl ?_
    refine r_imul (pc1 := 21) rfl rfl ?_
    refine r_vI (rgw _) (fun x1 ex1 rx1 => ?_)
    have w := w x1 ex1 rx1
    refine r_istn (pc1 := 22) (ls1 := [some (rv 437), some (.int (J x1))]) rfl rfl rfl rfl ?_
    refine r_aldn (pc1 := 23) rfl rfl rfl ?_
    refine r_iv rfl rfl rfl rfl rfl rfl t0 (lyk t0 rfl) rfl (xe_of (xa_r xa_0) rfl rfl) (r_d0 hd rfl) (a_X14_next  (r_d1 hd rfl)  w t0 (fun h2 t2 u2 w => ?_))
    refine r_fV (pc1 := 26) rfl ?_
    have s2 := HX_trans (HX_refl h) u2
    have w := w t2 u2
    refine r_aldn (pc1 := 27) rfl rfl rfl ?_
    refine r_n (pc1 := 29) [.int (J 46), rv 437] _ rfl rfl ?_
    refine r_iv rfl rfl rfl rfl rfl rfl t2 (lyk t2 rfl) rfl (xe_of (xa_r (xa_i xa_0)) rfl rfl) (r_d0 hd rfl) (a_X14_isSign 46 (r_d1 hd rfl) (rgk rfl) w t2 (fun x3 rx3 vx3 w => ?_))
    refine r_fI (pc1 := 32) rfl ?_
    have w := w rx3 vx3
    refine r_iz (t := 40) (pc1 := 35) rfl rfl rfl rx3 (fun c27 => ?_) (fun c27 => ?_)
    · have w := w.1 c27
      refine r_aldn (pc1 := 41) rfl rfl rfl ?_
      refine r_iv rfl rfl rfl rfl rfl rfl t2 (lyk t2 rfl) rfl (xe_of (xa_r xa_0) rfl rfl) (r_d0 hd rfl) (a_X14_next  (r_d1 hd rfl)  w t2 (fun h4 t4 u4 w => ?_))
      refine r_fV (pc1 := 44) rfl ?_
      have s4 := HX_trans s2 u4
      have w := w t4 u4
      refine r_aldn (pc1 := 45) rfl rfl rfl ?_
      refine r_gfI (pc1 := 48) rfl rfl rfl t4 (lyk t4 rfl) rfl rfl ?_
      refine r_n (pc1 := 49) [.int (J 1), .int (J (hI h4 437 15))] _ rfl rfl ?_
      refine r_ic (t := 57) (pc1 := 52) rfl rfl rfl (rgh _ _ _) (rgk rfl) (fun c24 => ?_) (fun c24 => ?_)
      · have w := w.1 c24
        refine r_n (pc1 := 58) [.int (J x1)] _ rfl rfl ?_
        refine r_n (pc1 := 60) [.int (J 100), .int (J x1)] _ rfl rfl ?_
        refine r_aldn (pc1 := 61) rfl rfl rfl ?_
        refine r_gfI (pc1 := 64) rfl rfl rfl t4 (lyk t4 rfl) rfl rfl ?_
        refine r_imul (pc1 := 65) rfl rfl ?_
        refine r_n (pc1 := 67) [.int (J 99), .int (J (wr (100 * (hI h4 437 16)))), .int (J x1)] _ rfl rfl ?_
        refine r_iadd (pc1 := 68) rfl rfl ?_
        refine r_iadd (pc1 := 69) rfl rfl ?_
        refine r_vI (rgw _) (fun x5 ex5 rx5 => ?_)
        have w := w x5 ex5 rx5
        refine r_istn (pc1 := 70) (ls1 := [some (rv 437), some (.int (J x5))]) rfl rfl rfl rfl ?_
        refine r_aldn (pc1 := 71) rfl rfl rfl ?_
        refine r_iv rfl rfl rfl rfl rfl rfl t4 (lyk t4 rfl) rfl (xe_of (xa_r xa_0) rfl rfl) (r_d0 hd rfl) (a_X14_next  (r_d1 hd rfl)  w t4 (fun h6 t6 u6 w => ?_))
        refine r_fV (pc1 := 74) rfl ?_
        have s6 := HX_trans s4 u6
        have w := w t6 u6
        refine r_aldn (pc1 := 75) rfl rfl rfl ?_
        refine r_n (pc1 := 77) [.int (J 33), rv 437] _ rfl rfl ?_
        refine r_iv rfl rfl rfl rfl rfl rfl t6 (lyk t6 rfl) rfl (xe_of (xa_r (xa_i xa_0)) rfl rfl) (r_d0 hd rfl) (a_X14_isSign 33 (r_d1 hd rfl) (rgk rfl) w t6 (fun x7 rx7 vx7 w => ?_))
        refine r_fI (pc1 := 80) rfl ?_
        have w := w rx7 vx7
        obtain ⟨J10, j10, w⟩ := w
        have Q10 : ∀ (x8 : Int) (h9 : XH), HT h9 → HX h h9 → rg x8 → J10 x8 h9 → RR sc goal fs 288 127 [some (rv 437), some (.int (J x8))] [] h9 := by
          intro x8 h9 t9 s9 rx8 z10
          have w := j10 x8 h9 t9 s9 rx8 z10
          refine r_aldn (pc1 := 128) rfl rfl rfl ?_
          refine r_n (pc1 := 129) [.int (J x8), rv 437] _ rfl rfl ?_
          refine r_pfI (pc1 := 132) rfl rfl rfl t9 (lyk t9 rfl) rfl rfl rfl (fun h11 eh11 t11 u11 => ?_)
          have w := w h11 eh11 t11 u11
          have s11 := HX_trans s9 u11
          refine r_n (pc1 := 133) [.int (J 1)] _ rfl rfl ?_
          exact r_retB rfl rfl rfl (.inr rfl) (k _ _ t11 s11 (rgk rfl) (.inr rfl) w)
        refine r_iz (t := 127) (pc1 := 83) rfl rfl rfl rx7 (fun c21 => ?_) (fun c21 => ?_)
        · have w := w.1 c21
          exact Q10  x5 h6 t6 s6 rx5 w
        · have w := w.2 c21
          refine r_aldn (pc1 := 84) rfl rfl rfl ?_
          refine r_iv rfl rfl rfl rfl rfl rfl t6 (lyk t6 rfl) rfl (xe_of (xa_r xa_0) rfl rfl) (r_d0 hd rfl) (a_X14_next  (r_d1 hd rfl)  w t6 (fun h12 t12 u12 w => ?_))
          refine r_fV (pc1 := 87) rfl ?_
          have s12 := HX_trans s6 u12
          have w := w t12 u12
          refine r_aldn (pc1 := 88) rfl rfl rfl ?_
          refine r_gfI (pc1 := 91) rfl rfl rfl t12 (lyk t12 rfl) rfl rfl ?_
          refine r_n (pc1 := 92) [.int (J 1), .int (J (hI h12 437 15))] _ rfl rfl ?_
          obtain ⟨J13, j13, w⟩ := w
          have Q13 : J13 → RR sc goal fs 288 108 [some (rv 437), some (.int (J x5))] [] h12 := by
            intro z13
            have w := j13 z13
            refine r_aldn (pc1 := 109) rfl rfl rfl ?_
            refine r_iv rfl rfl rfl rfl rfl rfl t12 (lyk t12 rfl) rfl (xe_of (xa_r xa_0) rfl rfl) (r_d0 hd rfl) (a_X14_wrong  (r_d1 hd rfl)  w t12 (fun x14 h15 t15 u15 rx14 vx14 w => ?_))
            refine r_fI (pc1 := 112) rfl ?_
            have s15 := HX_trans s12 u15
            have w := w t15 u15
            have w := w rx14 vx14
            exact r_retB rfl rfl rfl vx14 (k _ _ t15 s15 rx14 vx14 w)
          refine r_ic (t := 108) (pc1 := 95) rfl rfl rfl (rgh _ _ _) (rgk rfl) (fun c20 => ?_) (fun c20 => ?_)
          · have w := w.1 c20
            exact Q13     w
          · have w := w.2 c20
            refine r_aldn (pc1 := 96) rfl rfl rfl ?_
            refine r_gfI (pc1 := 99) rfl rfl rfl t12 (lyk t12 rfl) rfl rfl ?_
            refine r_n (pc1 := 100) [.int (J 1), .int (J (hI h12 437 16))] _ rfl rfl ?_
            refine r_n (pc1 := 102) [.int (J 98), .int (J 1), .int (J (hI h12 437 16))] _ rfl rfl ?_
            refine r_iq rfl rfl rfl rfl rfl rfl (xe_of (xa_i (xa_i (xa_i xa_0))) rfl rfl) (r_d0 hd rfl) (a_X14_within (hI h12 437 16) 1 98 (r_d1 hd rfl) (rgh _ _ _) (rgk rfl) (rgk rfl) w t12 (fun x16 rx16 vx16 w => ?_))
            refine r_fI (pc1 := 105) rfl ?_
            have w := w rx16 vx16
            refine r_iz (t := 113) (pc1 := 108) rfl rfl rfl rx16 (fun c19 => ?_) (fun c19 => ?_)
            · have w := w.1 c19
              refine r_n (pc1 := 114) [.int (J x5)] _ rfl rfl ?_
              refine r_aldn (pc1 := 115) rfl rfl rfl ?_
              refine r_gfI (pc1 := 118) rfl rfl rfl t12 (lyk t12 rfl) rfl rfl ?_
              refine r_n (pc1 := 120) [.int (J 99), .int (J (hI h12 437 16)), .int (J x5)] _ rfl rfl ?_
              refine r_isub (pc1 := 121) rfl rfl ?_
              refine r_iadd (pc1 := 122) rfl rfl ?_
              refine r_vI (rgw _) (fun x17 ex17 rx17 => ?_)
              have w := w x17 ex17 rx17
              refine r_istn (pc1 := 123) (ls1 := [some (rv 437), some (.int (J x17))]) rfl rfl rfl rfl ?_
              refine r_aldn (pc1 := 124) rfl rfl rfl ?_
              refine r_iv rfl rfl rfl rfl rfl rfl t12 (lyk t12 rfl) rfl (xe_of (xa_r xa_0) rfl rfl) (r_d0 hd rfl) (a_X14_next  (r_d1 hd rfl)  w t12 (fun h18 t18 u18 w => ?_))
              refine r_fV (pc1 := 127) rfl ?_
              have s18 := HX_trans s12 u18
              have w := w t18 u18
              exact Q10  x17 h18 t18 s18 rx17 w
            · have w := w.2 c19
              exact Q13     w
      · have w := w.2 c24
        refine r_aldn (pc1 := 53) rfl rfl rfl ?_
        refine r_iv rfl rfl rfl rfl rfl rfl t4 (lyk t4 rfl) rfl (xe_of (xa_r xa_0) rfl rfl) (r_d0 hd rfl) (a_X14_wrong  (r_d1 hd rfl)  w t4 (fun x22 h23 t23 u23 rx22 vx22 w => ?_))
        refine r_fI (pc1 := 56) rfl ?_
        have s23 := HX_trans s4 u23
        have w := w t23 u23
        have w := w rx22 vx22
        exact r_retB rfl rfl rfl vx22 (k _ _ t23 s23 rx22 vx22 w)
    · have w := w.2 c27
      refine r_aldn (pc1 := 36) rfl rfl rfl ?_
      refine r_iv rfl rfl rfl rfl rfl rfl t2 (lyk t2 rfl) rfl (xe_of (xa_r xa_0) rfl rfl) (r_d0 hd rfl) (a_X14_wrong  (r_d1 hd rfl)  w t2 (fun x25 h26 t26 u26 rx25 vx25 w => ?_))
      refine r_fI (pc1 := 39) rfl ?_
      have s26 := HX_trans s2 u26
      have w := w t26 u26
      have w := w rx25 vx25
      exact r_retB rfl rfl rfl vx25 (k _ _ t26 s26 rx25 vx25 w)
  · have w := w.2 c30
    refine r_aldn (pc1 := 9) rfl rfl rfl ?_
    refine r_iv rfl rfl rfl rfl rfl rfl t0 (lyk t0 rfl) rfl (xe_of (xa_r xa_0) rfl rfl) (r_d0 hd rfl) (a_X14_wrong  (r_d1 hd rfl)  w t0 (fun x28 h29 t29 u29 rx28 vx28 w => ?_))
    refine r_fI (pc1 := 12) rfl ?_
    have s29 := HX_trans (HX_refl h) u29
    have w := w t29 u29
    have w := w rx28 vx28
    exact r_retB rfl rfl rfl vx28 (k _ _ t29 s29 rx28 vx28 w)
def w_X14_readSpan  (K : Int → XH → Prop) (h : XH) : Prop :=
  (w_X14_isSign 42 (fun x1 => rg x1 → (x1 = 0 ∨ x1 = 1) → (((x1 = 0 → (w_X14_isSign 61 (fun x2 => rg x2 → (x2 = 0 ∨ x2 = 1) → (∃ J4 : Int → Prop, (∀ (x3 : Int), rg x3 → J4 x3 → (((x3 = (-1) → (w_X14_readVersion (fun x5 h6 => HT h6 → HX h h6 → rg x5 → (x5 = 0 ∨ x5 = 1) → (((¬ x5 = 0 → (∀ x7 : Int, x7 = hI h6 437 23 → rg x7 → ((hI h6 437 15 = 3 → (∀ x8 : Int, x8 = hI h6 437 14 → rg x8 → w_X14_next (fun h9 => HT h9 → HX h6 h9 → (w_X14_readVersion (fun x10 h11 => HT h11 → HX h9 h11 → rg x10 → (x10 = 0 ∨ x10 = 1) → (((¬ x10 = 0 → (((x7 ≤ hI h11 437 23 → (w_X14_addSpan 6 x7 (hI h11 437 23) (fun x12 h13 => HT h13 → HX h11 h13 → rg x12 → (x12 = 0 ∨ x12 = 1) → (K x12 h13)) h11)) ∧ (¬ (x7 ≤ hI h11 437 23) → (∀ h14 : XH, h14 = sI h11 437 17 x8 → HT h14 → HX h11 h14 → K 0 h14))))) ∧ (¬ (¬ x10 = 0) → (K 0 h11))))) h9)) h6)) ∧ (¬ (hI h6 437 15 = 3) → (w_X14_addSpan 1 x7 x7 (fun x17 h18 => HT h18 → HX h6 h18 → rg x17 → (x17 = 0 ∨ x17 = 1) → (K x17 h18)) h6))))) ∧ (¬ (¬ x5 = 0) → (K 0 h6))))) h)) ∧ (¬ (x3 = (-1)) → (w_X14_next (fun h21 => HT h21 → HX h h21 → (w_X14_readVersion (fun x22 h23 => HT h23 → HX h21 h23 → rg x22 → (x22 = 0 ∨ x22 = 1) → (∃ J26 : Int → XH → Prop, (∀ (x24 : Int) (h25 : XH), HT h25 → HX h h25 → rg x24 → J26 x24 h25 → ((x24 = 0 ∨ x24 = 1) ∧ K x24 h25)) ∧ ∃ J29 : XH → Prop, (∀ (h28 : XH), HT h28 → HX h h28 → J29 h28 → (J26 0 h28)) ∧ ((x22 = 0 → J29 h23) ∧ (¬ (x22 = 0) → (w_X14_addSpan x3 (hI h23 437 23) (hI h23 437 23) (fun x30 h31 => HT h31 → HX h23 h31 → rg x30 → (x30 = 0 ∨ x30 = 1) → (((x30 = 0 → J29 h31) ∧ (¬ (x30 = 0) → (J26 1 h31))))) h23))))) h21)) h))))) ∧ ((x2 = 0 → (w_X14_isSign 62 (fun x35 => rg x35 → (x35 = 0 ∨ x35 = 1) → (((x35 = 0 → (w_X14_isSign 60 (fun x36 => rg x36 → (x36 = 0 ∨ x36 = 1) → (((x36 = 0 → (w_X14_isSign 94 (fun x37 => rg x37 → (x37 = 0 ∨ x37 = 1) → (((x37 = 0 → (w_X14_isSign 126 (fun x38 => rg x38 → (x38 = 0 ∨ x38 = 1) → (((x38 = 0 → (J4 (-1))) ∧ (¬ (x38 = 0) → (J4 5))))) h)) ∧ (¬ (x37 = 0) → (J4 4))))) h)) ∧ (¬ (x36 = 0) → (J4 3))))) h)) ∧ (¬ (x35 = 0) → (J4 2))))) h)) ∧ (¬ (x2 = 0) → (J4 1))))) h)) ∧ (¬ (x1 = 0) → (w_X14_next (fun h44 => HT h44 → HX h h44 → (w_X14_addSpan 0 0 0 (fun x45 h46 => HT h46 → HX h44 h46 → rg x45 → (x45 = 0 ∨ x45 = 1) → (K x45 h46)) h44)) h))))) h)
set_option maxHeartbeats 4000000 in
theorem a_X14_readSpan {sc : Nat × (Nat → Int32)} {goal : XO → XH → Prop} {fs : List XF} {h : XH}  {K : Int → XH → Prop} (hd : fs.length + 4 ≤ 1000) (w : w_X14_readSpan  K h) (t0 : HT h) (k : ∀ (r : Int) (h1 : XH), HT h1 → HX h h1 → rg r → (r = 0 ∨ r = 1) → K r h1 → XFin xP sc goal fs (.inl (some (.int (J r)))) h1) : RR sc goal fs 287 0 [some (rv 437), none, none, none] [] h := by
  unfold w_X14_readSpan at w
  refine r_aldn (pc1 := 1) rfl rfl rfl ?_
  refine r_n (pc1 := 3) [.int (J 42), rv 437] _ rfl rfl ?_
  refine r_iv rfl rfl rfl rfl rfl rfl t0 (lyk t0 rfl) rfl (xe_of (xa_r (xa_i xa_0)) rfl rfl) (r_d0 hd rfl) (a_X14_isSign 42 (r_d1 hd rfl) (rgk rfl) w t0 (fun x1 rx1 vx1 w => ?_))
  refine r_fI (pc1 := 6) rfl ?_
  have w := w rx1 vx1
  refine r_iz (t := 21) (pc1 := 9) rfl rfl rfl rx1 (fun c47 => ?_) (fun c47 => ?_)
  · have w := w.1 c47
    refine r_aldn (pc1 := 22) rfl rfl rfl ?_
    refine r_n (pc1 := 24) [.int (J 61), rv 437] _ rfl rfl ?_
    refine r_iv rfl rfl rfl rfl rfl rfl t0 (lyk t0 rfl) rfl (xe_of (xa_r (xa_i xa_0)) rfl rfl) (r_d0 hd rfl) (a_X14_isSign 61 (r_d1 hd rfl) (rgk rfl) w t0 (fun x2 rx2 vx2 w => ?_))
    refine r_fI (pc1 := 27) rfl ?_
    have w := w rx2 vx2
    obtain ⟨J4, j4, w⟩ := w
    have Q4 : ∀ (x3 : Int), rg x3 → J4 x3 → RR sc goal fs 287 87 [some (rv 437), none, none, none] [.int (J x3)] h := by
      intro x3 rx3 z4
      have w := j4 x3 rx3 z4
      refine r_istn (pc1 := 88) (ls1 := [some (rv 437), some (.int (J x3)), none, none]) rfl rfl rfl rfl ?_
      refine r_n (pc1 := 89) [.int (J x3)] _ rfl rfl ?_
      refine r_n (pc1 := 90) [.int (J (-1)), .int (J x3)] _ rfl rfl ?_
      refine r_ic (t := 126) (pc1 := 93) rfl rfl rfl rx3 (rgk rfl) (fun c34 => ?_) (fun c34 => ?_)
      · have w := w.1 c34
        refine r_aldn (pc1 := 127) rfl rfl rfl ?_
        refine r_iv rfl rfl rfl rfl rfl rfl t0 (lyk t0 rfl) rfl (xe_of (xa_r xa_0) rfl rfl) (r_d0 hd rfl) (a_X14_readVersion  (r_d1 hd rfl)  w t0 (fun x5 h6 t6 u6 rx5 vx5 w => ?_))
        refine r_fI (pc1 := 130) rfl ?_
        have s6 := HX_trans (HX_refl h) u6
        have w := w t6 u6
        have w := w rx5 vx5
        refine r_iz (t := 135) (pc1 := 133) rfl rfl rfl rx5 (fun c20 => ?_) (fun c20 => ?_)
        · have w := w.1 c20
          refine r_aldn (pc1 := 136) rfl rfl rfl ?_
          refine r_gfI (pc1 := 139) rfl rfl rfl t6 (lyk t6 rfl) rfl rfl ?_
          refine r_vI (rgh _ _ _) (fun x7 ex7 rx7 => ?_)
          have w := w x7 ex7 rx7
          refine r_istn (pc1 := 140) (ls1 := [some (rv 437), some (.int (J x3)), some (.int (J x7)), none]) rfl rfl rfl rfl ?_
          refine r_aldn (pc1 := 141) rfl rfl rfl ?_
          refine r_gfI (pc1 := 144) rfl rfl rfl t6 (lyk t6 rfl) rfl rfl ?_
          refine r_n (pc1 := 145) [.int (J 3), .int (J (hI h6 437 15))] _ rfl rfl ?_
          refine r_ic (t := 156) (pc1 := 148) rfl rfl rfl (rgh _ _ _) (rgk rfl) (fun c19 => ?_) (fun c19 => ?_)
          · have w := w.1 c19
            refine r_aldn (pc1 := 157) rfl rfl rfl ?_
            refine r_gfI (pc1 := 160) rfl rfl rfl t6 (lyk t6 rfl) rfl rfl ?_
            refine r_vI (rgh _ _ _) (fun x8 ex8 rx8 => ?_)
            have w := w x8 ex8 rx8
            refine r_istn (pc1 := 161) (ls1 := [some (rv 437), some (.int (J x3)), some (.int (J x7)), some (.int (J x8))]) rfl rfl rfl rfl ?_
            refine r_aldn (pc1 := 162) rfl rfl rfl ?_
            refine r_iv rfl rfl rfl rfl rfl rfl t6 (lyk t6 rfl) rfl (xe_of (xa_r xa_0) rfl rfl) (r_d0 hd rfl) (a_X14_next  (r_d1 hd rfl)  w t6 (fun h9 t9 u9 w => ?_))
            refine r_fV (pc1 := 165) rfl ?_
            have s9 := HX_trans s6 u9
            have w := w t9 u9
            refine r_aldn (pc1 := 166) rfl rfl rfl ?_
            refine r_iv rfl rfl rfl rfl rfl rfl t9 (lyk t9 rfl) rfl (xe_of (xa_r xa_0) rfl rfl) (r_d0 hd rfl) (a_X14_readVersion  (r_d1 hd rfl)  w t9 (fun x10 h11 t11 u11 rx10 vx10 w => ?_))
            refine r_fI (pc1 := 169) rfl ?_
            have s11 := HX_trans s9 u11
            have w := w t11 u11
            have w := w rx10 vx10
            refine r_iz (t := 174) (pc1 := 172) rfl rfl rfl rx10 (fun c16 => ?_) (fun c16 => ?_)
            · have w := w.1 c16
              refine r_aldn (pc1 := 175) rfl rfl rfl ?_
              refine r_gfI (pc1 := 178) rfl rfl rfl t11 (lyk t11 rfl) rfl rfl ?_
              refine r_n (pc1 := 179) [.int (J x7), .int (J (hI h11 437 23))] _ rfl rfl ?_
              refine r_ic (t := 189) (pc1 := 182) rfl rfl rfl (rgh _ _ _) rx7 (fun c15 => ?_) (fun c15 => ?_)
              · have w := w.1 c15
                refine r_aldn (pc1 := 190) rfl rfl rfl ?_
                refine r_n (pc1 := 192) [.int (J 6), rv 437] _ rfl rfl ?_
                refine r_n (pc1 := 193) [.int (J x7), .int (J 6), rv 437] _ rfl rfl ?_
                refine r_aldn (pc1 := 194) rfl rfl rfl ?_
                refine r_gfI (pc1 := 197) rfl rfl rfl t11 (lyk t11 rfl) rfl rfl ?_
                refine r_iv rfl rfl rfl rfl rfl rfl t11 (lyk t11 rfl) rfl (xe_of (xa_r (xa_i (xa_i (xa_i xa_0)))) rfl rfl) (r_d0 hd rfl) (a_X14_addSpan 6 x7 (hI h11 437 23) (r_d1 hd rfl) (rgk rfl) rx7 (rgh _ _ _) w t11 (fun x12 h13 t13 u13 rx12 vx12 w => ?_))
                refine r_fI (pc1 := 200) rfl ?_
                have s13 := HX_trans s11 u13
                have w := w t13 u13
                have w := w rx12 vx12
                exact r_retB rfl rfl rfl vx12 (k _ _ t13 s13 rx12 vx12 w)
              · have w := w.2 c15
                refine r_aldn (pc1 := 183) rfl rfl rfl ?_
                refine r_n (pc1 := 184) [.int (J x8), rv 437] _ rfl rfl ?_
                refine r_pfI (pc1 := 187) rfl rfl rfl t11 (lyk t11 rfl) rfl rfl rfl (fun h14 eh14 t14 u14 => ?_)
                have w := w h14 eh14 t14 u14
                have s14 := HX_trans s11 u14
                refine r_n (pc1 := 188) [.int (J 0)] _ rfl rfl ?_
                exact r_retB rfl rfl rfl (.inl rfl) (k _ _ t14 s14 (rgk rfl) (.inl rfl) w)
            · have w := w.2 c16
              refine r_n (pc1 := 173) [.int (J 0)] _ rfl rfl ?_
              exact r_retB rfl rfl rfl (.inl rfl) (k _ _ t11 s11 (rgk rfl) (.inl rfl) w)
          · have w := w.2 c19
            refine r_aldn (pc1 := 149) rfl rfl rfl ?_
            refine r_n (pc1 := 150) [.int (J 1), rv 437] _ rfl rfl ?_
            refine r_n (pc1 := 151) [.int (J x7), .int (J 1), rv 437] _ rfl rfl ?_
            refine r_n (pc1 := 152) [.int (J x7), .int (J x7), .int (J 1), rv 437] _ rfl rfl ?_
            refine r_iv rfl rfl rfl rfl rfl rfl t6 (lyk t6 rfl) rfl (xe_of (xa_r (xa_i (xa_i (xa_i xa_0)))) rfl rfl) (r_d0 hd rfl) (a_X14_addSpan 1 x7 x7 (r_d1 hd rfl) (rgk rfl) rx7 rx7 w t6 (fun x17 h18 t18 u18 rx17 vx17 w => ?_))
            refine r_fI (pc1 := 155) rfl ?_
            have s18 := HX_trans s6 u18
            have w := w t18 u18
            have w := w rx17 vx17
            exact r_retB rfl rfl rfl vx17 (k _ _ t18 s18 rx17 vx17 w)
        · have w := w.2 c20
          refine r_n (pc1 := 134) [.int (J 0)] _ rfl rfl ?_
          exact r_retB rfl rfl rfl (.inl rfl) (k _ _ t6 s6 (rgk rfl) (.inl rfl) w)
      · have w := w.2 c34
        refine r_aldn (pc1 := 94) rfl rfl rfl ?_
        refine r_iv rfl rfl rfl rfl rfl rfl t0 (lyk t0 rfl) rfl (xe_of (xa_r xa_0) rfl rfl) (r_d0 hd rfl) (a_X14_next  (r_d1 hd rfl)  w t0 (fun h21 t21 u21 w => ?_))
        refine r_fV (pc1 := 97) rfl ?_
        have s21 := HX_trans (HX_refl h) u21
        have w := w t21 u21
        refine r_aldn (pc1 := 98) rfl rfl rfl ?_
        refine r_iv rfl rfl rfl rfl rfl rfl t21 (lyk t21 rfl) rfl (xe_of (xa_r xa_0) rfl rfl) (r_d0 hd rfl) (a_X14_readVersion  (r_d1 hd rfl)  w t21 (fun x22 h23 t23 u23 rx22 vx22 w => ?_))
        refine r_fI (pc1 := 101) rfl ?_
        have s23 := HX_trans s21 u23
        have w := w t23 u23
        have w := w rx22 vx22
        obtain ⟨J26, j26, w⟩ := w
        have Q26 : ∀ (x24 : Int) (h25 : XH), HT h25 → HX h h25 → rg x24 → J26 x24 h25 → RR sc goal fs 287 125 [some (rv 437), some (.int (J x3)), none, none] [.int (J x24)] h25 := by
          intro x24 h25 t25 s25 rx24 z26
          have w := j26 x24 h25 t25 s25 rx24 z26
          obtain ⟨c27, w⟩ := w
          exact r_retB rfl rfl rfl c27 (k _ _ t25 s25 rx24 c27 w)
        obtain ⟨J29, j29, w⟩ := w
        have Q29 : ∀ (h28 : XH), HT h28 → HX h h28 → J29 h28 → RR sc goal fs 287 124 [some (rv 437), some (.int (J x3)), none, none] [] h28 := by
          intro h28 t28 s28 z29
          have w := j29 h28 t28 s28 z29
          refine r_n (pc1 := 125) [.int (J 0)] _ rfl rfl ?_
          exact Q26  0 h28 t28 s28 (rgk rfl) w
        refine r_iz (t := 124) (pc1 := 104) rfl rfl rfl rx22 (fun c33 => ?_) (fun c33 => ?_)
        · have w := w.1 c33
          exact Q29   h23 t23 s23  w
        · have w := w.2 c33
          refine r_aldn (pc1 := 105) rfl rfl rfl ?_
          refine r_n (pc1 := 106) [.int (J x3), rv 437] _ rfl rfl ?_
          refine r_aldn (pc1 := 107) rfl rfl rfl ?_
          refine r_gfI (pc1 := 110) rfl rfl rfl t23 (lyk t23 rfl) rfl rfl ?_
          refine r_aldn (pc1 := 111) rfl rfl rfl ?_
          refine r_gfI (pc1 := 114) rfl rfl rfl t23 (lyk t23 rfl) rfl rfl ?_
          refine r_iv rfl rfl rfl rfl rfl rfl t23 (lyk t23 rfl) rfl (xe_of (xa_r (xa_i (xa_i (xa_i xa_0)))) rfl rfl) (r_d0 hd rfl) (a_X14_addSpan x3 (hI h23 437 23) (hI h23 437 23) (r_d1 hd rfl) rx3 (rgh _ _ _) (rgh _ _ _) w t23 (fun x30 h31 t31 u31 rx30 vx30 w => ?_))
          refine r_fI (pc1 := 117) rfl ?_
          have s31 := HX_trans s23 u31
          have w := w t31 u31
          have w := w rx30 vx30
          refine r_iz (t := 124) (pc1 := 120) rfl rfl rfl rx30 (fun c32 => ?_) (fun c32 => ?_)
          · have w := w.1 c32
            exact Q29   h31 t31 s31  w
          · have w := w.2 c32
            refine r_n (pc1 := 121) [.int (J 1)] _ rfl rfl ?_
            refine r_goto (t := 125) rfl rfl ?_
            exact Q26  1 h31 t31 s31 (rgk rfl) w
    refine r_iz (t := 34) (pc1 := 30) rfl rfl rfl rx2 (fun c43 => ?_) (fun c43 => ?_)
    · have w := w.1 c43
      refine r_aldn (pc1 := 35) rfl rfl rfl ?_
      refine r_n (pc1 := 37) [.int (J 62), rv 437] _ rfl rfl ?_
      refine r_iv rfl rfl rfl rfl rfl rfl t0 (lyk t0 rfl) rfl (xe_of (xa_r (xa_i xa_0)) rfl rfl) (r_d0 hd rfl) (a_X14_isSign 62 (r_d1 hd rfl) (rgk rfl) w t0 (fun x35 rx35 vx35 w => ?_))
      refine r_fI (pc1 := 40) rfl ?_
      have w := w rx35 vx35
      refine r_iz (t := 47) (pc1 := 43) rfl rfl rfl rx35 (fun c42 => ?_) (fun c42 => ?_)
      · have w := w.1 c42
        refine r_aldn (pc1 := 48) rfl rfl rfl ?_
        refine r_n (pc1 := 50) [.int (J 60), rv 437] _ rfl rfl ?_
        refine r_iv rfl rfl rfl rfl rfl rfl t0 (lyk t0 rfl) rfl (xe_of (xa_r (xa_i xa_0)) rfl rfl) (r_d0 hd rfl) (a_X14_isSign 60 (r_d1 hd rfl) (rgk rfl) w t0 (fun x36 rx36 vx36 w => ?_))
        refine r_fI (pc1 := 53) rfl ?_
        have w := w rx36 vx36
        refine r_iz (t := 60) (pc1 := 56) rfl rfl rfl rx36 (fun c41 => ?_) (fun c41 => ?_)
        · have w := w.1 c41
          refine r_aldn (pc1 := 61) rfl rfl rfl ?_
          refine r_n (pc1 := 63) [.int (J 94), rv 437] _ rfl rfl ?_
          refine r_iv rfl rfl rfl rfl rfl rfl t0 (lyk t0 rfl) rfl (xe_of (xa_r (xa_i xa_0)) rfl rfl) (r_d0 hd rfl) (a_X14_isSign 94 (r_d1 hd rfl) (rgk rfl) w t0 (fun x37 rx37 vx37 w => ?_))
          refine r_fI (pc1 := 66) rfl ?_
          have w := w rx37 vx37
          refine r_iz (t := 73) (pc1 := 69) rfl rfl rfl rx37 (fun c40 => ?_) (fun c40 => ?_)
          · have w := w.1 c40
            refine r_aldn (pc1 := 74) rfl rfl rfl ?_
            refine r_n (pc1 := 76) [.int (J 126), rv 437] _ rfl rfl ?_
            refine r_iv rfl rfl rfl rfl rfl rfl t0 (lyk t0 rfl) rfl (xe_of (xa_r (xa_i xa_0)) rfl rfl) (r_d0 hd rfl) (a_X14_isSign 126 (r_d1 hd rfl) (rgk rfl) w t0 (fun x38 rx38 vx38 w => ?_))
            refine r_fI (pc1 := 79) rfl ?_
            have w := w rx38 vx38
            refine r_iz (t := 86) (pc1 := 82) rfl rfl rfl rx38 (fun c39 => ?_) (fun c39 => ?_)
            · have w := w.1 c39
              refine r_n (pc1 := 87) [.int (J (-1))] _ rfl rfl ?_
              exact Q4  (-1)  (rgk rfl) w
            · have w := w.2 c39
              refine r_n (pc1 := 83) [.int (J 5)] _ rfl rfl ?_
              refine r_goto (t := 87) rfl rfl ?_
              exact Q4  5  (rgk rfl) w
          · have w := w.2 c40
            refine r_n (pc1 := 70) [.int (J 4)] _ rfl rfl ?_
            refine r_goto (t := 87) rfl rfl ?_
            exact Q4  4  (rgk rfl) w
        · have w := w.2 c41
          refine r_n (pc1 := 57) [.int (J 3)] _ rfl rfl ?_
          refine r_goto (t := 87) rfl rfl ?_
          exact Q4  3  (rgk rfl) w
      · have w := w.2 c42
        refine r_n (pc1 := 44) [.int (J 2)] _ rfl rfl ?_
        refine r_goto (t := 87) rfl rfl ?_
        exact Q4  2  (rgk rfl) w
    · have w := w.2 c43
      refine r_n (pc1 := 31) [.int (J 1)] _ rfl rfl ?_
      refine r_goto (t := 87) rfl rfl ?_
      exact Q4  1  (rgk rfl) w
  · have w := w.2 c47
    refine r_aldn (pc1 := 10) rfl rfl rfl ?_
    refine r_iv rfl rfl rfl rfl rfl rfl t0 (lyk t0 rfl) rfl (xe_of (xa_r xa_0) rfl rfl) (r_d0 hd rfl) (a_X14_next  (r_d1 hd rfl)  w t0 (fun h44 t44 u44 w => ?_))
    refine r_fV (pc1 := 13) rfl ?_
    have s44 := HX_trans (HX_refl h) u44
    have w := w t44 u44
    refine r_aldn (pc1 := 14) rfl rfl rfl ?_
    refine r_n (pc1 := 15) [.int (J 0), rv 437] _ rfl rfl ?_
    refine r_n (pc1 := 16) [.int (J 0), .int (J 0), rv 437] _ rfl rfl ?_
    refine r_n (pc1 := 17) [.int (J 0), .int (J 0), .int (J 0), rv 437] _ rfl rfl ?_
    refine r_iv rfl rfl rfl rfl rfl rfl t44 (lyk t44 rfl) rfl (xe_of (xa_r (xa_i (xa_i (xa_i xa_0)))) rfl rfl) (r_d0 hd rfl) (a_X14_addSpan 0 0 0 (r_d1 hd rfl) (rgk rfl) (rgk rfl) (rgk rfl) w t44 (fun x45 h46 t46 u46 rx45 vx45 w => ?_))
    refine r_fI (pc1 := 20) rfl ?_
    have s46 := HX_trans s44 u46
    have w := w t46 u46
    have w := w rx45 vx45
    exact r_retB rfl rfl rfl vx45 (k _ _ t46 s46 rx45 vx45 w)
def w_X14_readRange  (K : Int → XH → Prop) (h : XH) : Prop :=
  (w_X14_readSpan (fun x1 h2 => HT h2 → HX h h2 → rg x1 → (x1 = 0 ∨ x1 = 1) → ((∃ (I5 : Int → XH → Prop) (m5 : Int → XH → Nat), I5 x1 h2 ∧ ∀ (x3 : Int) (h4 : XH), HT h4 → HX h h4 → rg x3 → I5 x3 h4 → (∃ J6 : Prop, (J6 → ((x3 = 0 ∨ x3 = 1) ∧ K x3 h4)) ∧ ((x3 = 0 → J6) ∧ (¬ (x3 = 0) → (w_X14_isSign 44 (fun x8 => rg x8 → (x8 = 0 ∨ x8 = 1) → (((x8 = 0 → J6) ∧ (¬ (x8 = 0) → (w_X14_next (fun h9 => HT h9 → HX h4 h9 → (w_X14_readSpan (fun x10 h11 => HT h11 → HX h9 h11 → rg x10 → (x10 = 0 ∨ x10 = 1) → ((I5 x10 h11 ∧ m5 x10 h11 < m5 x3 h4))) h9)) h4))))) h4))))))) h)
set_option maxHeartbeats 4000000 in
theorem a_X14_readRange {sc : Nat × (Nat → Int32)} {goal : XO → XH → Prop} {fs : List XF} {h : XH}  {K : Int → XH → Prop} (hd : fs.length + 5 ≤ 1000) (w : w_X14_readRange  K h) (t0 : HT h) (k : ∀ (r : Int) (h1 : XH), HT h1 → HX h h1 → rg r → (r = 0 ∨ r = 1) → K r h1 → XFin xP sc goal fs (.inl (some (.int (J r)))) h1) : RR sc goal fs 285 0 [some (rv 437), none] [] h := by
  unfold w_X14_readRange at w
  refine r_aldn (pc1 := 1) rfl rfl rfl ?_
  refine r_iv rfl rfl rfl rfl rfl rfl t0 (lyk t0 rfl) rfl (xe_of (xa_r xa_0) rfl rfl) (r_d0 hd rfl) (a_X14_readSpan  (r_d1 hd rfl)  w t0 (fun x1 h2 t2 u2 rx1 vx1 w => ?_))
  refine r_fI (pc1 := 4) rfl ?_
  have s2 := HX_trans (HX_refl h) u2
  have w := w t2 u2
  have w := w rx1 vx1
  refine r_istn (pc1 := 5) (ls1 := [some (rv 437), some (.int (J x1))]) rfl rfl rfl rfl ?_
  obtain ⟨I5, m5, w, y5⟩ := w
  have Q5 : ∀ (n : Nat)  (x3 : Int) (h4 : XH), HT h4 → HX h h4 → rg x3 → m5 x3 h4 < n → I5 x3 h4 → RR sc goal fs 285 5 [some (rv 437), some (.int (J x3))] [] h4 := by
    intro n
    induction n with
    | zero => intro x3 h4 t4 s4 rx3 q5 _; exact absurd q5 (Nat.not_lt_zero _)
    | succ n ih5 =>
      intro x3 h4 t4 s4 rx3 q5 z5
      have w := y5 x3 h4 t4 s4 rx3 z5
      refine r_n (pc1 := 6) [.int (J x3)] _ rfl rfl ?_
      obtain ⟨J6, j6, w⟩ := w
      have Q6 : J6 → RR sc goal fs 285 30 [some (rv 437), some (.int (J x3))] [] h4 := by
        intro z6
        have w := j6 z6
        refine r_n (pc1 := 31) [.int (J x3)] _ rfl rfl ?_
        obtain ⟨c7, w⟩ := w
        exact r_retB rfl rfl rfl c7 (k _ _ t4 s4 rx3 c7 w)
      refine r_iz (t := 30) (pc1 := 9) rfl rfl rfl rx3 (fun c13 => ?_) (fun c13 => ?_)
      · have w := w.1 c13
        exact Q6     w
      · have w := w.2 c13
        refine r_aldn (pc1 := 10) rfl rfl rfl ?_
        refine r_n (pc1 := 12) [.int (J 44), rv 437] _ rfl rfl ?_
        refine r_iv rfl rfl rfl rfl rfl rfl t4 (lyk t4 rfl) rfl (xe_of (xa_r (xa_i xa_0)) rfl rfl) (r_d0 hd rfl) (a_X14_isSign 44 (r_d1 hd rfl) (rgk rfl) w t4 (fun x8 rx8 vx8 w => ?_))
        refine r_fI (pc1 := 15) rfl ?_
        have w := w rx8 vx8
        refine r_iz (t := 30) (pc1 := 18) rfl rfl rfl rx8 (fun c12 => ?_) (fun c12 => ?_)
        · have w := w.1 c12
          exact Q6     w
        · have w := w.2 c12
          refine r_aldn (pc1 := 19) rfl rfl rfl ?_
          refine r_iv rfl rfl rfl rfl rfl rfl t4 (lyk t4 rfl) rfl (xe_of (xa_r xa_0) rfl rfl) (r_d0 hd rfl) (a_X14_next  (r_d1 hd rfl)  w t4 (fun h9 t9 u9 w => ?_))
          refine r_fV (pc1 := 22) rfl ?_
          have s9 := HX_trans s4 u9
          have w := w t9 u9
          refine r_aldn (pc1 := 23) rfl rfl rfl ?_
          refine r_iv rfl rfl rfl rfl rfl rfl t9 (lyk t9 rfl) rfl (xe_of (xa_r xa_0) rfl rfl) (r_d0 hd rfl) (a_X14_readSpan  (r_d1 hd rfl)  w t9 (fun x10 h11 t11 u11 rx10 vx10 w => ?_))
          refine r_fI (pc1 := 26) rfl ?_
          have s11 := HX_trans s9 u11
          have w := w t11 u11
          have w := w rx10 vx10
          refine r_istn (pc1 := 27) (ls1 := [some (rv 437), some (.int (J x10))]) rfl rfl rfl rfl ?_
          refine r_goto (t := 5) rfl rfl ?_
          exact ih5  x10 h11 t11 s11 rx10 (Nat.lt_of_lt_of_le w.2 (Nat.le_of_lt_succ q5)) w.1
  exact Q5 _  x1 h2 t2 s2 rx1 (Nat.lt_succ_self _) w
def w_X14_isEnd  (K : Int → XH → Prop) (h : XH) : Prop :=
  (∃ J3 : Int → XH → Prop, (∀ (x1 : Int) (h2 : XH), HT h2 → HX h h2 → rg x1 → J3 x1 h2 → ((x1 = 0 ∨ x1 = 1) ∧ K x1 h2)) ∧ ∃ J6 : XH → Prop, (∀ (h5 : XH), HT h5 → HX h h5 → J6 h5 → (J3 1 h5)) ∧ ((hI h 437 15 = 5 → J6 h) ∧ (¬ (hI h 437 15 = 5) → (w_X14_wrong (fun x7 h8 => HT h8 → HX h h8 → rg x7 → (x7 = 0 ∨ x7 = 1) → (((x7 = 0 → (J3 0 h8)) ∧ (¬ (x7 = 0) → J6 h8)))) h))))
set_option maxHeartbeats 4000000 in
theorem a_X14_isEnd {sc : Nat × (Nat → Int32)} {goal : XO → XH → Prop} {fs : List XF} {h : XH}  {K : Int → XH → Prop} (hd : fs.length + 1 ≤ 1000) (w : w_X14_isEnd  K h) (t0 : HT h) (k : ∀ (r : Int) (h1 : XH), HT h1 → HX h h1 → rg r → (r = 0 ∨ r = 1) → K r h1 → XFin xP sc goal fs (.inl (some (.int (J r)))) h1) : RR sc goal fs 226 0 [some (rv 437)] [] h := by
  unfold w_X14_isEnd at w
  refine r_aldn (pc1 := 1) rfl rfl rfl ?_
  refine r_gfI (pc1 := 4) rfl rfl rfl t0 (lyk t0 rfl) rfl rfl ?_
  refine r_n (pc1 := 5) [.int (J 5), .int (J (hI h 437 15))] _ rfl rfl ?_
  obtain ⟨J3, j3, w⟩ := w
  have Q3 : ∀ (x1 : Int) (h2 : XH), HT h2 → HX h h2 → rg x1 → J3 x1 h2 → RR sc goal fs 226 20 [some (rv 437)] [.int (J x1)] h2 := by
    intro x1 h2 t2 s2 rx1 z3
    have w := j3 x1 h2 t2 s2 rx1 z3
    obtain ⟨c4, w⟩ := w
    exact r_retB rfl rfl rfl c4 (k _ _ t2 s2 rx1 c4 w)
  obtain ⟨J6, j6, w⟩ := w
  have Q6 : ∀ (h5 : XH), HT h5 → HX h h5 → J6 h5 → RR sc goal fs 226 15 [some (rv 437)] [] h5 := by
    intro h5 t5 s5 z6
    have w := j6 h5 t5 s5 z6
    refine r_n (pc1 := 16) [.int (J 1)] _ rfl rfl ?_
    refine r_goto (t := 20) rfl rfl ?_
    exact Q3  1 h5 t5 s5 (rgk rfl) w
  refine r_ic (t := 15) (pc1 := 8) rfl rfl rfl (rgh _ _ _) (rgk rfl) (fun c10 => ?_) (fun c10 => ?_)
  · have w := w.1 c10
    exact Q6   h t0 (HX_refl h)  w
  · have w := w.2 c10
    refine r_aldn (pc1 := 9) rfl rfl rfl ?_
    refine r_iv rfl rfl rfl rfl rfl rfl t0 (lyk t0 rfl) rfl (xe_of (xa_r xa_0) rfl rfl) (r_d0 hd rfl) (a_X14_wrong  (r_d1 hd rfl)  w t0 (fun x7 h8 t8 u8 rx7 vx7 w => ?_))
    refine r_fI (pc1 := 12) rfl ?_
    have s8 := HX_trans (HX_refl h) u8
    have w := w t8 u8
    have w := w rx7 vx7
    refine r_iz (t := 19) (pc1 := 15) rfl rfl rfl rx7 (fun c9 => ?_) (fun c9 => ?_)
    · have w := w.1 c9
      refine r_n (pc1 := 20) [.int (J 0)] _ rfl rfl ?_
      exact Q3  0 h8 t8 s8 (rgk rfl) w
    · have w := w.2 c9
      exact Q6   h8 t8 s8  w
