/-! printed by dec.py: what each method wants, and that the machine keeps it -/ 
def w_X12_mergeLocks (p0 : Int) (p1 : Int) (K : Int → XH → Prop) (E : Nat → XH → Prop) (h : XH) : Prop :=
  (w_X12_checkLock p0 ((w_X12_checkLock p1 ((w_X12_remember (fun h1 => HT h1 → HX h h1 → ((0 ≤ p0 ∧ p0 < 3) ∧ (0 ≤ p1 ∧ p1 < 3) ∧ w_X12_merged (hL h1 39 p0.toNat) (hL h1 39 p1.toNat) (fun b4 => (w_X12_takeGoal b4 (fun x5 h6 => HT h6 → HX h1 h6 → rg x5 → (K x5 h6)) h1)) h1)) h)) E h)) E h)
set_option maxHeartbeats 4000000 in
theorem a_X12_mergeLocks {sc : Nat × (Nat → Int32)} {goal : XO → XH → Prop} {fs : List XF} {h : XH} (p0 : Int) (p1 : Int) {K : Int → XH → Prop} {E : Nat → XH → Prop} (hd : fs.length + 7 ≤ 1000) (rp0 : rg p0) (rp1 : rg p1) (w : w_X12_mergeLocks p0 p1 K E h) (t0 : HT h) (k : ∀ (r : Int) (h1 : XH), HT h1 → HX h h1 → rg r → K r h1 → XFin xP sc goal fs (.inl (some (.int (J r)))) h1) (kE : ∀ (x : Nat) (h1 : XH), HT h1 → HX h h1 → E x h1 → XFin xP sc goal fs (.inr x) h1) : RR sc goal fs 127 0 [some (rv 2), some (.int (J p0)), some (.int (J p1))] [] h := by
  unfold w_X12_mergeLocks at w
  refine r_n (pc1 := 1) [.int (J p0)] _ rfl rfl ?_
  refine r_iq rfl rfl rfl rfl rfl rfl (xe_of (xa_i xa_0) rfl rfl) (r_d0 hd rfl) (a_X12_checkLock p0 (r_d1 hd rfl) rp0 w t0 (fun w => ?_) (fun x y ty uy w => r_finx rfl rfl (kE x y ty (HX_trans (HX_refl h) uy) w)))
  refine r_fV (pc1 := 4) rfl ?_
  refine r_n (pc1 := 5) [.int (J p1)] _ rfl rfl ?_
  refine r_iq rfl rfl rfl rfl rfl rfl (xe_of (xa_i xa_0) rfl rfl) (r_d0 hd rfl) (a_X12_checkLock p1 (r_d1 hd rfl) rp1 w t0 (fun w => ?_) (fun x y ty uy w => r_finx rfl rfl (kE x y ty (HX_trans (HX_refl h) uy) w)))
  refine r_fV (pc1 := 8) rfl ?_
  refine r_aldn (pc1 := 9) rfl rfl rfl ?_
  refine r_iv rfl rfl rfl rfl rfl rfl t0 (lyk t0 rfl) rfl (xe_of (xa_r xa_0) rfl rfl) (r_d0 hd rfl) (a_X12_remember  (r_d1 hd rfl)  w t0 (fun h1 t1 u1 w => ?_))
  refine r_fV (pc1 := 12) rfl ?_
  have s1 := HX_trans (HX_refl h) u1
  have w := w t1 u1
  refine r_aldn (pc1 := 13) rfl rfl rfl ?_
  refine r_aldn (pc1 := 14) rfl rfl rfl ?_
  refine r_aldn (pc1 := 15) rfl rfl rfl ?_
  refine r_gfC (pc1 := 18) (q := 8) rfl rfl rfl t1 (lyk t1 rfl) rfl rfl (lyR t1 rfl rfl) ?_
  refine r_gfC (pc1 := 21) (q := 39) rfl rfl rfl t1 (lyk t1 rfl) rfl rfl (lyR t1 rfl rfl) ?_
  refine r_n (pc1 := 22) [.int (J p0), rv 39, rv 2, rv 2] _ rfl rfl ?_
  obtain ⟨c2, w⟩ := w
  refine r_lal (pc1 := 23) rfl rfl t1 (lyk t1 rfl) rp0 c2.1 (lt_len (lyn t1 rfl) c2.2) ?_
  refine r_aldn (pc1 := 24) rfl rfl rfl ?_
  refine r_gfC (pc1 := 27) (q := 8) rfl rfl rfl t1 (lyk t1 rfl) rfl rfl (lyR t1 rfl rfl) ?_
  refine r_gfC (pc1 := 30) (q := 39) rfl rfl rfl t1 (lyk t1 rfl) rfl rfl (lyR t1 rfl rfl) ?_
  refine r_n (pc1 := 31) [.int (J p1), rv 39, .long (G (hL h1 39 p0.toNat)), rv 2, rv 2] _ rfl rfl ?_
  obtain ⟨c3, w⟩ := w
  refine r_lal (pc1 := 32) rfl rfl t1 (lyk t1 rfl) rp1 c3.1 (lt_len (lyn t1 rfl) c3.2) ?_
  refine r_iv rfl rfl rfl rfl rfl rfl t1 (lyk t1 rfl) rfl (xe_of (xa_r (xa_l (xa_l xa_0))) rfl rfl) (r_d0 hd rfl) (a_X12_merged (hL h1 39 p0.toNat) (hL h1 39 p1.toNat) (r_d1 hd rfl)  w t1 (fun b4 w => ?_))
  refine r_fL (pc1 := 35) rfl ?_
  refine r_iv rfl rfl rfl rfl rfl rfl t1 (lyk t1 rfl) rfl (xe_of (xa_r (xa_l xa_0)) rfl rfl) (r_d0 hd rfl) (a_X12_takeGoal b4 (r_d1 hd rfl)  w t1 (fun x5 h6 t6 u6 rx5 w => ?_))
  refine r_fI (pc1 := 38) rfl ?_
  have s6 := HX_trans s1 u6
  have w := w t6 u6
  have w := w rx5
  exact r_retI rfl rfl rfl (k _ _ t6 s6 rx5 w)
def w_L_mergeLocks (p1 : Int) (p2 : Int) (K : Int → XH → Prop) (h : XH) : Prop :=
  (w_X12_mergeLocks p1 p2 (fun x1 h2 => HT h2 → HX h h2 → rg x1 → (∀ h5 : XH, h5 = sL h2 467 0 (i2l x1) → HT h5 → HX h2 h5 → (K 0 h5))) (fun y4 h3 => ((y4 = 1 ∧ K 1 h3))) h)
set_option maxHeartbeats 4000000 in
theorem a_L_mergeLocks {sc : Nat × (Nat → Int32)} {goal : XO → XH → Prop} {fs : List XF} {h : XH} (p1 : Int) (p2 : Int) {K : Int → XH → Prop} (hd : fs.length + 8 ≤ 1000) (rp1 : rg p1) (rp2 : rg p2) (w : w_L_mergeLocks p1 p2 K h) (t0 : HT h) (k : ∀ (r : Int) (h1 : XH), HT h1 → HX h h1 → rg r → K r h1 → XFin xP sc goal fs (.inl (some (.int (J r)))) h1) : RR sc goal fs 45 0 [some (rv 2), some (.int (J p1)), some (.int (J p2)), some (rv 467), none] [] h := by
  unfold w_L_mergeLocks at w
  refine r_aldn (pc1 := 1) rfl rfl rfl ?_
  refine r_n (pc1 := 2) [.int (J 0), rv 467] _ rfl rfl ?_
  refine r_aldn (pc1 := 3) rfl rfl rfl ?_
  refine r_n (pc1 := 4) [.int (J p1), rv 2, .int (J 0), rv 467] _ rfl rfl ?_
  refine r_n (pc1 := 5) [.int (J p2), .int (J p1), rv 2, .int (J 0), rv 467] _ rfl rfl ?_
  refine r_iv rfl rfl rfl rfl rfl rfl t0 (lyk t0 rfl) rfl (xe_of (xa_r (xa_i (xa_i xa_0))) rfl rfl) (r_d0 hd rfl) (a_X12_mergeLocks p1 p2 (r_d1 hd rfl) rp1 rp2 w t0 (fun x1 h2 t2 u2 rx1 w => ?_) (fun y4 h3 ty uy w => ?_))
  · refine r_fI (pc1 := 8) rfl ?_
    have s2 := HX_trans (HX_refl h) u2
    have w := w t2 u2
    have w := w rx1
    refine r_i2l (pc1 := 9) rfl rfl ?_
    refine r_last (pc1 := 10) rfl rfl t2 (lyk t2 rfl) (rgk rfl) (by decide) (lt_len (lyn t2 rfl) (by decide)) (fun h5 eh5 t5 u5 => ?_)
    have w := w h5 eh5 t5 u5
    have s5 := HX_trans s2 u5
    refine r_goto (t := 17) rfl rfl ?_
    refine r_n (pc1 := 18) [.int (J 0)] _ rfl rfl ?_
    exact r_retI rfl rfl rfl (k _ _ t5 s5 (rgk rfl) w)
  · obtain ⟨rfl, w⟩ := w
    exact r_fink (z := 1) rfl (by decide) rfl rfl (k _ _ ty (HX_trans (HX_refl h) uy) (rgk rfl) w)
def w_X14_mergeLocks (p0 : Int) (p1 : Int) (K : Int → XH → Prop) (h : XH) : Prop :=
  (∀ h1 : XH, h1 = sI h 437 5 0 → HT h1 → HX h h1 → w_X14_isLock p0 (fun x2 => rg x2 → (x2 = 0 ∨ x2 = 1) → (∃ J4 : Int → Prop, (∀ (x3 : Int), rg x3 → J4 x3 → (w_X14_refused x3 1 (fun x5 h6 => HT h6 → HX h1 h6 → rg x5 → (x5 = 0 ∨ x5 = 1) → (((x5 = 0 → (w_X14_record (fun h7 => HT h7 → HX h6 h7 → (w_X14_setAt (wr (1678 + (wr (12 * p0)))) (fun a8 h9 => HT h9 → HX h7 h9 → (w_X14_setAt (wr (1678 + (wr (12 * p1)))) (fun a10 h11 => HT h11 → HX h9 h11 → (∀ (a12 : Nat) (h13 : XH), a12 = h11.length → h13 = nA h11 0 12 → HT h13 → HX h11 h13 → hk h13 a12 = 100 → hn h13 a12 = 12 → (∃ (I18 : Int → XH → Prop) (m18 : Int → XH → Nat), I18 0 h13 ∧ ∀ (x14 : Int) (h17 : XH), HT h17 → HX h h17 → rg x14 → I18 x14 h17 → (((12 ≤ x14 → (w_X14_putGoal a12 (fun h19 => HT h19 → HX h17 h19 → (w_X14_fitsHere a12 (fun x20 => rg x20 → (x20 = 0 ∨ x20 = 1) → (∃ J22 : Int → Prop, (∀ (x21 : Int), rg x21 → J22 x21 → (K x21 h19)) ∧ ((x20 = 0 → (J22 0)) ∧ (¬ (x20 = 0) → (J22 1))))) h19)) h17)) ∧ (¬ (12 ≤ x14) → (w_X14_codeIn a8 x14 (fun x24 => rg x24 → (w_X14_codeIn a10 x14 (fun x25 => rg x25 → (w_J9_max_7cf53 x24 x25 (fun x26 => rg x26 → (∃ J28 : Int → Prop, (∀ (x27 : Int), rg x27 → J28 x27 → (∃ J30 : Int → Prop, (∀ (x29 : Int), rg x29 → J30 x29 → (hk h17 a12 = 100 ∧ (0 ≤ x14 ∧ x14 < (hn h17 a12 : Int)) ∧ ∀ h33 : XH, h33 = sI h17 a12 x14.toNat (wr (x26 + x29)) → HT h33 → HX h17 h33 → ∀ x34 : Int, x34 = wr (x14 + 1) → rg x34 → (I18 x34 h33 ∧ m18 x34 h33 < m18 x14 h17))) ∧ ((x27 = 0 → (J30 0)) ∧ (¬ (x27 = 0) → (J30 1000000))))) ∧ ∃ J36 : Prop, (J36 → (J28 0)) ∧ ((x26 = (-1) → J36) ∧ (¬ (x26 = (-1)) → (hk h17 a8 = 100 ∧ (0 ≤ x14 ∧ x14 < (hn h17 a8 : Int)) ∧ ∃ J39 : Prop, (J39 → (J28 1)) ∧ ((hI h17 a8 x14.toNat = wr (x26 + 1000000) → J39) ∧ (¬ (hI h17 a8 x14.toNat = wr (x26 + 1000000)) → (hk h17 a10 = 100 ∧ (0 ≤ x14 ∧ x14 < (hn h17 a10 : Int)) ∧ ((¬ hI h17 a10 x14.toNat = wr (x26 + 1000000) → J36) ∧ (¬ (¬ hI h17 a10 x14.toNat = wr (x26 + 1000000)) → J39)))))))))) h17)) h17)) h17))))))) h9)) h7)) h6)) ∧ (¬ (x5 = 0) → (K 0 h6))))) h1)) ∧ ∃ J47 : Prop, (J47 → (J4 0)) ∧ ((x2 = 0 → J47) ∧ (¬ (x2 = 0) → (w_X14_isLock p1 (fun x48 => rg x48 → (x48 = 0 ∨ x48 = 1) → (((x48 = 0 → J47) ∧ (¬ (x48 = 0) → (J4 1))))) h1))))) h1)
set_option maxHeartbeats 4000000 in
theorem a_X14_mergeLocks {sc : Nat × (Nat → Int32)} {goal : XO → XH → Prop} {fs : List XF} {h : XH} (p0 : Int) (p1 : Int) {K : Int → XH → Prop} (hd : fs.length + 8 ≤ 1000) (rp0 : rg p0) (rp1 : rg p1) (w : w_X14_mergeLocks p0 p1 K h) (t0 : HT h) (k : ∀ (r : Int) (h1 : XH), HT h1 → HX h h1 → rg r → K r h1 → XFin xP sc goal fs (.inl (some (.int (J r)))) h1) : RR sc goal fs 255 0 [some (rv 437), some (.int (J p0)), some (.int (J p1)), none, none, none, none, none, none] [] h := by
  unfold w_X14_mergeLocks at w
  refine r_aldn (pc1 := 1) rfl rfl rfl ?_
  refine r_n (pc1 := 2) [.int (J 0), rv 437] _ rfl rfl ?_
  refine r_pfI (pc1 := 5) rfl rfl rfl t0 (lyk t0 rfl) rfl rfl rfl (fun h1 eh1 t1 u1 => ?_)
  have w := w h1 eh1 t1 u1
  have s1 := HX_trans (HX_refl h) u1
  refine r_aldn (pc1 := 6) rfl rfl rfl ?_
  refine r_n (pc1 := 7) [.int (J p0), rv 437] _ rfl rfl ?_
  refine r_iq rfl rfl rfl rfl rfl rfl (xe_of (xa_i xa_0) rfl rfl) (r_d0 hd rfl) (a_X14_isLock p0 (r_d1 hd rfl) rp0 w t1 (fun x2 rx2 vx2 w => ?_))
  refine r_fI (pc1 := 10) rfl ?_
  have w := w rx2 vx2
  obtain ⟨J4, j4, w⟩ := w
  have Q4 : ∀ (x3 : Int), rg x3 → J4 x3 → RR sc goal fs 255 25 [some (rv 437), some (.int (J p0)), some (.int (J p1)), none, none, none, none, none, none] [.int (J x3), rv 437] h1 := by
    intro x3 rx3 z4
    have w := j4 x3 rx3 z4
    refine r_n (pc1 := 26) [.int (J 1), .int (J x3), rv 437] _ rfl rfl ?_
    refine r_iv rfl rfl rfl rfl rfl rfl t1 (lyk t1 rfl) rfl (xe_of (xa_r (xa_i (xa_i xa_0))) rfl rfl) (r_d0 hd rfl) (a_X14_refused x3 1 (r_d1 hd rfl) rx3 (rgk rfl) w t1 (fun x5 h6 t6 u6 rx5 vx5 w => ?_))
    refine r_fI (pc1 := 29) rfl ?_
    have s6 := HX_trans s1 u6
    have w := w t6 u6
    have w := w rx5 vx5
    refine r_iz (t := 34) (pc1 := 32) rfl rfl rfl rx5 (fun c46 => ?_) (fun c46 => ?_)
    · have w := w.1 c46
      refine r_aldn (pc1 := 35) rfl rfl rfl ?_
      refine r_iv rfl rfl rfl rfl rfl rfl t6 (lyk t6 rfl) rfl (xe_of (xa_r xa_0) rfl rfl) (r_d0 hd rfl) (a_X14_record  (r_d1 hd rfl)  w t6 (fun h7 t7 u7 w => ?_))
      refine r_fV (pc1 := 38) rfl ?_
      have s7 := HX_trans s6 u7
      have w := w t7 u7
      refine r_aldn (pc1 := 39) rfl rfl rfl ?_
      refine r_n (pc1 := 42) [.int (J 1678), rv 437] _ rfl rfl ?_
      refine r_n (pc1 := 44) [.int (J 12), .int (J 1678), rv 437] _ rfl rfl ?_
      refine r_n (pc1 := 45) [.int (J p0), .int (J 12), .int (J 1678), rv 437] _ rfl rfl ?_
      refine r_imul (pc1 := 46) rfl rfl ?_
      refine r_iadd (pc1 := 47) rfl rfl ?_
      refine r_iv rfl rfl rfl rfl rfl rfl t7 (lyk t7 rfl) rfl (xe_of (xa_r (xa_i xa_0)) rfl rfl) (r_d0 hd rfl) (a_X14_setAt (wr (1678 + (wr (12 * p0)))) (r_d1 hd rfl) (rgw _) w t7 (fun a8 h9 t9 u9 w => ?_))
      refine r_fR (pc1 := 50) rfl ?_
      have s9 := HX_trans s7 u9
      have w := w t9 u9
      refine r_astn (pc1 := 51) (ls1 := [some (rv 437), some (.int (J p0)), some (.int (J p1)), some (rv a8), none, none, none, none, none]) rfl rfl rfl rfl ?_
      refine r_aldn (pc1 := 52) rfl rfl rfl ?_
      refine r_n (pc1 := 55) [.int (J 1678), rv 437] _ rfl rfl ?_
      refine r_n (pc1 := 57) [.int (J 12), .int (J 1678), rv 437] _ rfl rfl ?_
      refine r_n (pc1 := 58) [.int (J p1), .int (J 12), .int (J 1678), rv 437] _ rfl rfl ?_
      refine r_imul (pc1 := 59) rfl rfl ?_
      refine r_iadd (pc1 := 60) rfl rfl ?_
      refine r_iv rfl rfl rfl rfl rfl rfl t9 (lyk t9 rfl) rfl (xe_of (xa_r (xa_i xa_0)) rfl rfl) (r_d0 hd rfl) (a_X14_setAt (wr (1678 + (wr (12 * p1)))) (r_d1 hd rfl) (rgw _) w t9 (fun a10 h11 t11 u11 w => ?_))
      refine r_fR (pc1 := 63) rfl ?_
      have s11 := HX_trans s9 u11
      have w := w t11 u11
      refine r_ast (pc1 := 65) (ls1 := [some (rv 437), some (.int (J p0)), some (.int (J p1)), some (rv a8), some (rv a10), none, none, none, none]) rfl rfl rfl (xput1_rv rfl rfl) ?_
      refine r_n (pc1 := 67) [.int (J 12)] _ rfl rfl ?_
      refine r_na (pc1 := 69) (u := 0) (m := 2) rfl rfl rfl t11 rfl (rgk rfl) (by decide) (by decide) (fun a12 h13 ea12 eh13 t13 u13 ca12 la12 => ?_)
      have w := w a12 h13 ea12 eh13 t13 u13 ca12 la12
      have s13 := HX_trans s11 u13
      refine r_ast (pc1 := 71) (ls1 := [some (rv 437), some (.int (J p0)), some (.int (J p1)), some (rv a8), some (rv a10), some (rv a12), none, none, none]) rfl rfl rfl (xput1_rv rfl rfl) ?_
      refine r_n (pc1 := 72) [.int (J 0)] _ rfl rfl ?_
      refine r_ist (pc1 := 74) (ls1 := [some (rv 437), some (.int (J p0)), some (.int (J p1)), some (rv a8), some (rv a10), some (rv a12), some (.int (J 0)), none, none]) rfl rfl rfl (xput1_rv rfl rfl) ?_
      obtain ⟨I18, m18, w, y18⟩ := w
      have Q18 : ∀ (n : Nat) (d15 : Option Value) (d16 : Option Value) (x14 : Int) (h17 : XH), HT h17 → HX h h17 → rg x14 → m18 x14 h17 < n → I18 x14 h17 → RR sc goal fs 255 74 [some (rv 437), some (.int (J p0)), some (.int (J p1)), some (rv a8), some (rv a10), some (rv a12), some (.int (J x14)), d15, d16] [] h17 := by
        intro n
        induction n with
        | zero => intro d15 d16 x14 h17 t17 s17 rx14 q18 _; exact absurd q18 (Nat.not_lt_zero _)
        | succ n ih18 =>
          intro d15 d16 x14 h17 t17 s17 rx14 q18 z18
          have w := y18 x14 h17 t17 s17 rx14 z18
          refine r_n (pc1 := 76) [.int (J x14)] _ rfl rfl ?_
          refine r_n (pc1 := 78) [.int (J 12), .int (J x14)] _ rfl rfl ?_
          refine r_ic (t := 165) (pc1 := 81) rfl rfl rfl rx14 (rgk rfl) (fun c45 => ?_) (fun c45 => ?_)
          · have w := w.1 c45
            refine r_aldn (pc1 := 166) rfl rfl rfl ?_
            refine r_ald (pc1 := 168) rfl rfl rfl ?_
            refine r_iv rfl rfl rfl rfl rfl rfl t17 (lyk t17 rfl) rfl (xe_of (xa_r (xa_r xa_0)) rfl rfl) (r_d0 hd rfl) (a_X14_putGoal a12 (r_d1 hd rfl)  w t17 (fun h19 t19 u19 w => ?_))
            refine r_fV (pc1 := 171) rfl ?_
            have s19 := HX_trans s17 u19
            have w := w t19 u19
            refine r_aldn (pc1 := 172) rfl rfl rfl ?_
            refine r_ald (pc1 := 174) rfl rfl rfl ?_
            refine r_iv rfl rfl rfl rfl rfl rfl t19 (lyk t19 rfl) rfl (xe_of (xa_r (xa_r xa_0)) rfl rfl) (r_d0 hd rfl) (a_X14_fitsHere a12 (r_d1 hd rfl)  w t19 (fun x20 rx20 vx20 w => ?_))
            refine r_fI (pc1 := 177) rfl ?_
            have w := w rx20 vx20
            obtain ⟨J22, j22, w⟩ := w
            have Q22 : ∀ (x21 : Int), rg x21 → J22 x21 → RR sc goal fs 255 185 [some (rv 437), some (.int (J p0)), some (.int (J p1)), some (rv a8), some (rv a10), some (rv a12), some (.int (J x14)), d15, d16] [.int (J x21)] h19 := by
              intro x21 rx21 z22
              have w := j22 x21 rx21 z22
              exact r_retI rfl rfl rfl (k _ _ t19 s19 rx21 w)
            refine r_iz (t := 184) (pc1 := 180) rfl rfl rfl rx20 (fun c23 => ?_) (fun c23 => ?_)
            · have w := w.1 c23
              refine r_n (pc1 := 185) [.int (J 0)] _ rfl rfl ?_
              exact Q22  0  (rgk rfl) w
            · have w := w.2 c23
              refine r_n (pc1 := 181) [.int (J 1)] _ rfl rfl ?_
              refine r_goto (t := 185) rfl rfl ?_
              exact Q22  1  (rgk rfl) w
          · have w := w.2 c45
            refine r_aldn (pc1 := 82) rfl rfl rfl ?_
            refine r_n (pc1 := 84) [.int (J x14), rv a8] _ rfl rfl ?_
            refine r_iq rfl rfl rfl rfl rfl rfl (xe_of (xa_r (xa_i xa_0)) rfl rfl) (r_d0 hd rfl) (a_X14_codeIn a8 x14 (r_d1 hd rfl) rx14 w t17 (fun x24 rx24 w => ?_))
            refine r_fI (pc1 := 87) rfl ?_
            have w := w rx24
            refine r_ald (pc1 := 89) rfl rfl rfl ?_
            refine r_n (pc1 := 91) [.int (J x14), rv a10, .int (J x24)] _ rfl rfl ?_
            refine r_iq rfl rfl rfl rfl rfl rfl (xe_of (xa_r (xa_i xa_0)) rfl rfl) (r_d0 hd rfl) (a_X14_codeIn a10 x14 (r_d1 hd rfl) rx14 w t17 (fun x25 rx25 w => ?_))
            refine r_fI (pc1 := 94) rfl ?_
            have w := w rx25
            refine r_iq rfl rfl rfl rfl rfl rfl (xe_of (xa_i (xa_i xa_0)) rfl rfl) (r_d0 hd rfl) (a_J9_max_7cf53 x24 x25 (r_d1 hd rfl) rx24 rx25 w t17 (fun x26 rx26 w => ?_))
            refine r_fI (pc1 := 97) rfl ?_
            have w := w rx26
            refine r_ist (pc1 := 99) (ls1 := [some (rv 437), some (.int (J p0)), some (.int (J p1)), some (rv a8), some (rv a10), some (rv a12), some (.int (J x14)), some (.int (J x26)), d16]) rfl rfl rfl rfl ?_
            refine r_n (pc1 := 101) [.int (J x26)] _ rfl rfl ?_
            refine r_n (pc1 := 102) [.int (J (-1)), .int (J x26)] _ rfl rfl ?_
            obtain ⟨J28, j28, w⟩ := w
            have Q28 : ∀ (x27 : Int), rg x27 → J28 x27 → RR sc goal fs 255 137 [some (rv 437), some (.int (J p0)), some (.int (J p1)), some (rv a8), some (rv a10), some (rv a12), some (.int (J x14)), some (.int (J x26)), d16] [.int (J x27)] h17 := by
              intro x27 rx27 z28
              have w := j28 x27 rx27 z28
              refine r_ist (pc1 := 139) (ls1 := [some (rv 437), some (.int (J p0)), some (.int (J p1)), some (rv a8), some (rv a10), some (rv a12), some (.int (J x14)), some (.int (J x26)), some (.int (J x27))]) rfl rfl rfl rfl ?_
              refine r_ald (pc1 := 141) rfl rfl rfl ?_
              refine r_n (pc1 := 143) [.int (J x14), rv a12] _ rfl rfl ?_
              refine r_n (pc1 := 145) [.int (J x26), .int (J x14), rv a12] _ rfl rfl ?_
              refine r_n (pc1 := 147) [.int (J x27), .int (J x26), .int (J x14), rv a12] _ rfl rfl ?_
              obtain ⟨J30, j30, w⟩ := w
              have Q30 : ∀ (x29 : Int), rg x29 → J30 x29 → RR sc goal fs 255 157 [some (rv 437), some (.int (J p0)), some (.int (J p1)), some (rv a8), some (rv a10), some (rv a12), some (.int (J x14)), some (.int (J x26)), some (.int (J x27))] [.int (J x29), .int (J x26), .int (J x14), rv a12] h17 := by
                intro x29 rx29 z30
                have w := j30 x29 rx29 z30
                refine r_iadd (pc1 := 158) rfl rfl ?_
                obtain ⟨c31, w⟩ := w
                obtain ⟨c32, w⟩ := w
                refine r_iast (pc1 := 159) rfl rfl t17 c31 rx14 c32.1 c32.2 (fun h33 eh33 t33 u33 => ?_)
                have w := w h33 eh33 t33 u33
                have s33 := HX_trans s17 u33
                refine r_inc (pc1 := 162) (g := fun zz => [some (rv 437), some (.int (J p0)), some (.int (J p1)), some (rv a8), some (rv a10), some (rv a12), some (.int (J zz)), some (.int (J x26)), some (.int (J x27))]) rfl rfl rfl rfl (fun _ => xput1_rv rfl rfl) (fun x34 ex34 rx34 => ?_)
                have w := w x34 ex34 rx34
                refine r_goto (t := 74) rfl rfl ?_
                exact ih18 _ _ x34 h33 t33 s33 rx34 (Nat.lt_of_lt_of_le w.2 (Nat.le_of_lt_succ q18)) w.1
              refine r_iz (t := 156) (pc1 := 150) rfl rfl rfl rx27 (fun c35 => ?_) (fun c35 => ?_)
              · have w := w.1 c35
                refine r_n (pc1 := 157) [.int (J 0), .int (J x26), .int (J x14), rv a12] _ rfl rfl ?_
                exact Q30  0  (rgk rfl) w
              · have w := w.2 c35
                refine r_n (pc1 := 153) [.int (J 1000000), .int (J x26), .int (J x14), rv a12] _ rfl rfl ?_
                refine r_goto (t := 157) rfl rfl ?_
                exact Q30  1000000  (rgk rfl) w
            obtain ⟨J36, j36, w⟩ := w
            have Q36 : J36 → RR sc goal fs 255 136 [some (rv 437), some (.int (J p0)), some (.int (J p1)), some (rv a8), some (rv a10), some (rv a12), some (.int (J x14)), some (.int (J x26)), d16] [] h17 := by
              intro z36
              have w := j36 z36
              refine r_n (pc1 := 137) [.int (J 0)] _ rfl rfl ?_
              exact Q28  0  (rgk rfl) w
            refine r_ic (t := 136) (pc1 := 105) rfl rfl rfl rx26 (rgk rfl) (fun c44 => ?_) (fun c44 => ?_)
            · have w := w.1 c44
              exact Q36     w
            · have w := w.2 c44
              refine r_aldn (pc1 := 106) rfl rfl rfl ?_
              refine r_n (pc1 := 108) [.int (J x14), rv a8] _ rfl rfl ?_
              obtain ⟨c37, w⟩ := w
              obtain ⟨c38, w⟩ := w
              refine r_ial (pc1 := 109) rfl rfl t17 c37 rx14 c38.1 c38.2 ?_
              refine r_n (pc1 := 111) [.int (J x26), .int (J (hI h17 a8 x14.toNat))] _ rfl rfl ?_
              refine r_n (pc1 := 114) [.int (J 1000000), .int (J x26), .int (J (hI h17 a8 x14.toNat))] _ rfl rfl ?_
              refine r_iadd (pc1 := 115) rfl rfl ?_
              obtain ⟨J39, j39, w⟩ := w
              have Q39 : J39 → RR sc goal fs 255 132 [some (rv 437), some (.int (J p0)), some (.int (J p1)), some (rv a8), some (rv a10), some (rv a12), some (.int (J x14)), some (.int (J x26)), d16] [] h17 := by
                intro z39
                have w := j39 z39
                refine r_n (pc1 := 133) [.int (J 1)] _ rfl rfl ?_
                refine r_goto (t := 137) rfl rfl ?_
                exact Q28  1  (rgk rfl) w
              refine r_ic (t := 132) (pc1 := 118) rfl rfl rfl (rgh _ _ _) (rgw _) (fun c43 => ?_) (fun c43 => ?_)
              · have w := w.1 c43
                exact Q39     w
              · have w := w.2 c43
                refine r_ald (pc1 := 120) rfl rfl rfl ?_
                refine r_n (pc1 := 122) [.int (J x14), rv a10] _ rfl rfl ?_
                obtain ⟨c40, w⟩ := w
                obtain ⟨c41, w⟩ := w
                refine r_ial (pc1 := 123) rfl rfl t17 c40 rx14 c41.1 c41.2 ?_
                refine r_n (pc1 := 125) [.int (J x26), .int (J (hI h17 a10 x14.toNat))] _ rfl rfl ?_
                refine r_n (pc1 := 128) [.int (J 1000000), .int (J x26), .int (J (hI h17 a10 x14.toNat))] _ rfl rfl ?_
                refine r_iadd (pc1 := 129) rfl rfl ?_
                refine r_ic (t := 136) (pc1 := 132) rfl rfl rfl (rgh _ _ _) (rgw _) (fun c42 => ?_) (fun c42 => ?_)
                · have w := w.1 c42
                  exact Q36     w
                · have w := w.2 c42
                  exact Q39     w
      exact Q18 _ _ _ 0 h13 t13 s13 (rgk rfl) (Nat.lt_succ_self _) w
    · have w := w.2 c46
      refine r_n (pc1 := 33) [.int (J 0)] _ rfl rfl ?_
      exact r_retI rfl rfl rfl (k _ _ t6 s6 (rgk rfl) w)
  obtain ⟨J47, j47, w⟩ := w
  have Q47 : J47 → RR sc goal fs 255 24 [some (rv 437), some (.int (J p0)), some (.int (J p1)), none, none, none, none, none, none] [rv 437] h1 := by
    intro z47
    have w := j47 z47
    refine r_n (pc1 := 25) [.int (J 0), rv 437] _ rfl rfl ?_
    exact Q4  0  (rgk rfl) w
  refine r_iz (t := 24) (pc1 := 13) rfl rfl rfl rx2 (fun c50 => ?_) (fun c50 => ?_)
  · have w := w.1 c50
    exact Q47     w
  · have w := w.2 c50
    refine r_n (pc1 := 14) [.int (J p1), rv 437] _ rfl rfl ?_
    refine r_iq rfl rfl rfl rfl rfl rfl (xe_of (xa_i xa_0) rfl rfl) (r_d0 hd rfl) (a_X14_isLock p1 (r_d1 hd rfl) rp1 w t1 (fun x48 rx48 vx48 w => ?_))
    refine r_fI (pc1 := 17) rfl ?_
    have w := w rx48 vx48
    refine r_iz (t := 24) (pc1 := 20) rfl rfl rfl rx48 (fun c49 => ?_) (fun c49 => ?_)
    · have w := w.1 c49
      exact Q47     w
    · have w := w.2 c49
      refine r_n (pc1 := 21) [.int (J 1), rv 437] _ rfl rfl ?_
      refine r_goto (t := 25) rfl rfl ?_
      exact Q4  1  (rgk rfl) w
def w_X12_takeLock (p0 : Int) (K : Int → XH → Prop) (E : Nat → XH → Prop) (h : XH) : Prop :=
  (w_X12_checkLock p0 ((w_X12_remember (fun h1 => HT h1 → HX h h1 → ((0 ≤ p0 ∧ p0 < 3) ∧ w_X12_takeGoal (hL h1 39 p0.toNat) (fun x3 h4 => HT h4 → HX h1 h4 → rg x3 → (K x3 h4)) h1)) h)) E h)
set_option maxHeartbeats 4000000 in
theorem a_X12_takeLock {sc : Nat × (Nat → Int32)} {goal : XO → XH → Prop} {fs : List XF} {h : XH} (p0 : Int) {K : Int → XH → Prop} {E : Nat → XH → Prop} (hd : fs.length + 7 ≤ 1000) (rp0 : rg p0) (w : w_X12_takeLock p0 K E h) (t0 : HT h) (k : ∀ (r : Int) (h1 : XH), HT h1 → HX h h1 → rg r → K r h1 → XFin xP sc goal fs (.inl (some (.int (J r)))) h1) (kE : ∀ (x : Nat) (h1 : XH), HT h1 → HX h h1 → E x h1 → XFin xP sc goal fs (.inr x) h1) : RR sc goal fs 155 0 [some (rv 2), some (.int (J p0))] [] h := by
  unfold w_X12_takeLock at w
  refine r_n (pc1 := 1) [.int (J p0)] _ rfl rfl ?_
  refine r_iq rfl rfl rfl rfl rfl rfl (xe_of (xa_i xa_0) rfl rfl) (r_d0 hd rfl) (a_X12_checkLock p0 (r_d1 hd rfl) rp0 w t0 (fun w => ?_) (fun x y ty uy w => r_finx rfl rfl (kE x y ty (HX_trans (HX_refl h) uy) w)))
  refine r_fV (pc1 := 4) rfl ?_
  refine r_aldn (pc1 := 5) rfl rfl rfl ?_
  refine r_iv rfl rfl rfl rfl rfl rfl t0 (lyk t0 rfl) rfl (xe_of (xa_r xa_0) rfl rfl) (r_d0 hd rfl) (a_X12_remember  (r_d1 hd rfl)  w t0 (fun h1 t1 u1 w => ?_))
  refine r_fV (pc1 := 8) rfl ?_
  have s1 := HX_trans (HX_refl h) u1
  have w := w t1 u1
  refine r_aldn (pc1 := 9) rfl rfl rfl ?_
  refine r_aldn (pc1 := 10) rfl rfl rfl ?_
  refine r_gfC (pc1 := 13) (q := 8) rfl rfl rfl t1 (lyk t1 rfl) rfl rfl (lyR t1 rfl rfl) ?_
  refine r_gfC (pc1 := 16) (q := 39) rfl rfl rfl t1 (lyk t1 rfl) rfl rfl (lyR t1 rfl rfl) ?_
  refine r_n (pc1 := 17) [.int (J p0), rv 39, rv 2] _ rfl rfl ?_
  obtain ⟨c2, w⟩ := w
  refine r_lal (pc1 := 18) rfl rfl t1 (lyk t1 rfl) rp0 c2.1 (lt_len (lyn t1 rfl) c2.2) ?_
  refine r_iv rfl rfl rfl rfl rfl rfl t1 (lyk t1 rfl) rfl (xe_of (xa_r (xa_l xa_0)) rfl rfl) (r_d0 hd rfl) (a_X12_takeGoal (hL h1 39 p0.toNat) (r_d1 hd rfl)  w t1 (fun x3 h4 t4 u4 rx3 w => ?_))
  refine r_fI (pc1 := 21) rfl ?_
  have s4 := HX_trans s1 u4
  have w := w t4 u4
  have w := w rx3
  exact r_retI rfl rfl rfl (k _ _ t4 s4 rx3 w)
def w_L_takeLock (p1 : Int) (K : Int → XH → Prop) (h : XH) : Prop :=
  (w_X12_takeLock p1 (fun x1 h2 => HT h2 → HX h h2 → rg x1 → (∀ h5 : XH, h5 = sL h2 467 0 (i2l x1) → HT h5 → HX h2 h5 → (K 0 h5))) (fun y4 h3 => ((y4 = 1 ∧ K 1 h3))) h)
set_option maxHeartbeats 4000000 in
theorem a_L_takeLock {sc : Nat × (Nat → Int32)} {goal : XO → XH → Prop} {fs : List XF} {h : XH} (p1 : Int) {K : Int → XH → Prop} (hd : fs.length + 8 ≤ 1000) (rp1 : rg p1) (w : w_L_takeLock p1 K h) (t0 : HT h) (k : ∀ (r : Int) (h1 : XH), HT h1 → HX h h1 → rg r → K r h1 → XFin xP sc goal fs (.inl (some (.int (J r)))) h1) : RR sc goal fs 62 0 [some (rv 2), some (.int (J p1)), some (rv 467), none] [] h := by
  unfold w_L_takeLock at w
  refine r_aldn (pc1 := 1) rfl rfl rfl ?_
  refine r_n (pc1 := 2) [.int (J 0), rv 467] _ rfl rfl ?_
  refine r_aldn (pc1 := 3) rfl rfl rfl ?_
  refine r_n (pc1 := 4) [.int (J p1), rv 2, .int (J 0), rv 467] _ rfl rfl ?_
  refine r_iv rfl rfl rfl rfl rfl rfl t0 (lyk t0 rfl) rfl (xe_of (xa_r (xa_i xa_0)) rfl rfl) (r_d0 hd rfl) (a_X12_takeLock p1 (r_d1 hd rfl) rp1 w t0 (fun x1 h2 t2 u2 rx1 w => ?_) (fun y4 h3 ty uy w => ?_))
  · refine r_fI (pc1 := 7) rfl ?_
    have s2 := HX_trans (HX_refl h) u2
    have w := w t2 u2
    have w := w rx1
    refine r_i2l (pc1 := 8) rfl rfl ?_
    refine r_last (pc1 := 9) rfl rfl t2 (lyk t2 rfl) (rgk rfl) (by decide) (lt_len (lyn t2 rfl) (by decide)) (fun h5 eh5 t5 u5 => ?_)
    have w := w h5 eh5 t5 u5
    have s5 := HX_trans s2 u5
    refine r_goto (t := 15) rfl rfl ?_
    refine r_n (pc1 := 16) [.int (J 0)] _ rfl rfl ?_
    exact r_retI rfl rfl rfl (k _ _ t5 s5 (rgk rfl) w)
  · obtain ⟨rfl, w⟩ := w
    exact r_fink (z := 1) rfl (by decide) rfl rfl (k _ _ ty (HX_trans (HX_refl h) uy) (rgk rfl) w)
def w_X14_takeLock (p0 : Int) (K : Int → XH → Prop) (h : XH) : Prop :=
  (∀ h1 : XH, h1 = sI h 437 5 0 → HT h1 → HX h h1 → w_X14_isLock p0 (fun x2 => rg x2 → (x2 = 0 ∨ x2 = 1) → (w_X14_refused x2 1 (fun x3 h4 => HT h4 → HX h1 h4 → rg x3 → (x3 = 0 ∨ x3 = 1) → (((x3 = 0 → (w_X14_record (fun h5 => HT h5 → HX h4 h5 → (w_X14_setAt (wr (1678 + (wr (12 * p0)))) (fun a6 h7 => HT h7 → HX h5 h7 → (w_X14_putGoal a6 (fun h8 => HT h8 → HX h7 h8 → (w_X14_fitsHere a6 (fun x9 => rg x9 → (x9 = 0 ∨ x9 = 1) → (∃ J11 : Int → Prop, (∀ (x10 : Int), rg x10 → J11 x10 → (K x10 h8)) ∧ ((x9 = 0 → (J11 0)) ∧ (¬ (x9 = 0) → (J11 1))))) h8)) h7)) h5)) h4)) ∧ (¬ (x3 = 0) → (K 0 h4))))) h1)) h1)
set_option maxHeartbeats 4000000 in
theorem a_X14_takeLock {sc : Nat × (Nat → Int32)} {goal : XO → XH → Prop} {fs : List XF} {h : XH} (p0 : Int) {K : Int → XH → Prop} (hd : fs.length + 8 ≤ 1000) (rp0 : rg p0) (w : w_X14_takeLock p0 K h) (t0 : HT h) (k : ∀ (r : Int) (h1 : XH), HT h1 → HX h h1 → rg r → K r h1 → XFin xP sc goal fs (.inl (some (.int (J r)))) h1) : RR sc goal fs 308 0 [some (rv 437), some (.int (J p0)), none] [] h := by
  unfold w_X14_takeLock at w
  refine r_aldn (pc1 := 1) rfl rfl rfl ?_
  refine r_n (pc1 := 2) [.int (J 0), rv 437] _ rfl rfl ?_
  refine r_pfI (pc1 := 5) rfl rfl rfl t0 (lyk t0 rfl) rfl rfl rfl (fun h1 eh1 t1 u1 => ?_)
  have w := w h1 eh1 t1 u1
  have s1 := HX_trans (HX_refl h) u1
  refine r_aldn (pc1 := 6) rfl rfl rfl ?_
  refine r_n (pc1 := 7) [.int (J p0), rv 437] _ rfl rfl ?_
  refine r_iq rfl rfl rfl rfl rfl rfl (xe_of (xa_i xa_0) rfl rfl) (r_d0 hd rfl) (a_X14_isLock p0 (r_d1 hd rfl) rp0 w t1 (fun x2 rx2 vx2 w => ?_))
  refine r_fI (pc1 := 10) rfl ?_
  have w := w rx2 vx2
  refine r_n (pc1 := 11) [.int (J 1), .int (J x2), rv 437] _ rfl rfl ?_
  refine r_iv rfl rfl rfl rfl rfl rfl t1 (lyk t1 rfl) rfl (xe_of (xa_r (xa_i (xa_i xa_0))) rfl rfl) (r_d0 hd rfl) (a_X14_refused x2 1 (r_d1 hd rfl) rx2 (rgk rfl) w t1 (fun x3 h4 t4 u4 rx3 vx3 w => ?_))
  refine r_fI (pc1 := 14) rfl ?_
  have s4 := HX_trans s1 u4
  have w := w t4 u4
  have w := w rx3 vx3
  refine r_iz (t := 19) (pc1 := 17) rfl rfl rfl rx3 (fun c13 => ?_) (fun c13 => ?_)
  · have w := w.1 c13
    refine r_aldn (pc1 := 20) rfl rfl rfl ?_
    refine r_iv rfl rfl rfl rfl rfl rfl t4 (lyk t4 rfl) rfl (xe_of (xa_r xa_0) rfl rfl) (r_d0 hd rfl) (a_X14_record  (r_d1 hd rfl)  w t4 (fun h5 t5 u5 w => ?_))
    refine r_fV (pc1 := 23) rfl ?_
    have s5 := HX_trans s4 u5
    have w := w t5 u5
    refine r_aldn (pc1 := 24) rfl rfl rfl ?_
    refine r_n (pc1 := 27) [.int (J 1678), rv 437] _ rfl rfl ?_
    refine r_n (pc1 := 29) [.int (J 12), .int (J 1678), rv 437] _ rfl rfl ?_
    refine r_n (pc1 := 30) [.int (J p0), .int (J 12), .int (J 1678), rv 437] _ rfl rfl ?_
    refine r_imul (pc1 := 31) rfl rfl ?_
    refine r_iadd (pc1 := 32) rfl rfl ?_
    refine r_iv rfl rfl rfl rfl rfl rfl t5 (lyk t5 rfl) rfl (xe_of (xa_r (xa_i xa_0)) rfl rfl) (r_d0 hd rfl) (a_X14_setAt (wr (1678 + (wr (12 * p0)))) (r_d1 hd rfl) (rgw _) w t5 (fun a6 h7 t7 u7 w => ?_))
    refine r_fR (pc1 := 35) rfl ?_
    have s7 := HX_trans s5 u7
    have w := w t7 u7
    refine r_astn (pc1 := 36) (ls1 := [some (rv 437), some (.int (J p0)), some (rv a6)]) rfl rfl rfl rfl ?_
    refine r_aldn (pc1 := 37) rfl rfl rfl ?_
    refine r_aldn (pc1 := 38) rfl rfl rfl ?_
    refine r_iv rfl rfl rfl rfl rfl rfl t7 (lyk t7 rfl) rfl (xe_of (xa_r (xa_r xa_0)) rfl rfl) (r_d0 hd rfl) (a_X14_putGoal a6 (r_d1 hd rfl)  w t7 (fun h8 t8 u8 w => ?_))
    refine r_fV (pc1 := 41) rfl ?_
    have s8 := HX_trans s7 u8
    have w := w t8 u8
    refine r_aldn (pc1 := 42) rfl rfl rfl ?_
    refine r_aldn (pc1 := 43) rfl rfl rfl ?_
    refine r_iv rfl rfl rfl rfl rfl rfl t8 (lyk t8 rfl) rfl (xe_of (xa_r (xa_r xa_0)) rfl rfl) (r_d0 hd rfl) (a_X14_fitsHere a6 (r_d1 hd rfl)  w t8 (fun x9 rx9 vx9 w => ?_))
    refine r_fI (pc1 := 46) rfl ?_
    have w := w rx9 vx9
    obtain ⟨J11, j11, w⟩ := w
    have Q11 : ∀ (x10 : Int), rg x10 → J11 x10 → RR sc goal fs 308 54 [some (rv 437), some (.int (J p0)), some (rv a6)] [.int (J x10)] h8 := by
      intro x10 rx10 z11
      have w := j11 x10 rx10 z11
      exact r_retI rfl rfl rfl (k _ _ t8 s8 rx10 w)
    refine r_iz (t := 53) (pc1 := 49) rfl rfl rfl rx9 (fun c12 => ?_) (fun c12 => ?_)
    · have w := w.1 c12
      refine r_n (pc1 := 54) [.int (J 0)] _ rfl rfl ?_
      exact Q11  0  (rgk rfl) w
    · have w := w.2 c12
      refine r_n (pc1 := 50) [.int (J 1)] _ rfl rfl ?_
      refine r_goto (t := 54) rfl rfl ?_
      exact Q11  1  (rgk rfl) w
  · have w := w.2 c13
    refine r_n (pc1 := 18) [.int (J 0)] _ rfl rfl ?_
    exact r_retI rfl rfl rfl (k _ _ t4 s4 (rgk rfl) w)
def w_X12_mirror  (K : Int → XH → Prop) (E : Nat → XH → Prop) (h : XH) : Prop :=
  (((hI h 8 6 < 3 → (w_X12_remember (fun h1 => HT h1 → HX h h1 → (∀ x2 : Int, x2 = hI h1 8 6 → rg x2 → ∀ h3 : XH, h3 = sI h1 8 6 (wr ((hI h1 8 6) + 1)) → HT h3 → HX h1 h3 → K x2 h3)) h)) ∧ (¬ (hI h 8 6 < 3) → (E 0 (nT h)))))
set_option maxHeartbeats 4000000 in
theorem a_X12_mirror {sc : Nat × (Nat → Int32)} {goal : XO → XH → Prop} {fs : List XF} {h : XH}  {K : Int → XH → Prop} {E : Nat → XH → Prop} (hd : fs.length + 4 ≤ 1000) (w : w_X12_mirror  K E h) (t0 : HT h) (k : ∀ (r : Int) (h1 : XH), HT h1 → HX h h1 → rg r → K r h1 → XFin xP sc goal fs (.inl (some (.int (J r)))) h1) (kE : ∀ (x : Nat) (h1 : XH), HT h1 → HX h h1 → E x h1 → XFin xP sc goal fs (.inr x) h1) : RR sc goal fs 129 0 [some (rv 2), none] [] h := by
  unfold w_X12_mirror at w
  refine r_aldn (pc1 := 1) rfl rfl rfl ?_
  refine r_gfC (pc1 := 4) (q := 8) rfl rfl rfl t0 (lyk t0 rfl) rfl rfl (lyR t0 rfl rfl) ?_
  refine r_gfI (pc1 := 7) rfl rfl rfl t0 (lyk t0 rfl) rfl rfl ?_
  refine r_n (pc1 := 8) [.int (J 3), .int (J (hI h 8 6))] _ rfl rfl ?_
  refine r_ic (t := 22) (pc1 := 11) rfl rfl rfl (rgh _ _ _) (rgk rfl) (fun c4 => ?_) (fun c4 => ?_)
  · have w := w.1 c4
    refine r_aldn (pc1 := 23) rfl rfl rfl ?_
    refine r_iv rfl rfl rfl rfl rfl rfl t0 (lyk t0 rfl) rfl (xe_of (xa_r xa_0) rfl rfl) (r_d0 hd rfl) (a_X12_remember  (r_d1 hd rfl)  w t0 (fun h1 t1 u1 w => ?_))
    refine r_fV (pc1 := 26) rfl ?_
    have s1 := HX_trans (HX_refl h) u1
    have w := w t1 u1
    refine r_aldn (pc1 := 27) rfl rfl rfl ?_
    refine r_gfC (pc1 := 30) (q := 8) rfl rfl rfl t1 (lyk t1 rfl) rfl rfl (lyR t1 rfl rfl) ?_
    refine r_gfI (pc1 := 33) rfl rfl rfl t1 (lyk t1 rfl) rfl rfl ?_
    refine r_vI (rgh _ _ _) (fun x2 ex2 rx2 => ?_)
    have w := w x2 ex2 rx2
    refine r_istn (pc1 := 34) (ls1 := [some (rv 2), some (.int (J x2))]) rfl rfl rfl rfl ?_
    refine r_aldn (pc1 := 35) rfl rfl rfl ?_
    refine r_gfC (pc1 := 38) (q := 8) rfl rfl rfl t1 (lyk t1 rfl) rfl rfl (lyR t1 rfl rfl) ?_
    refine r_dupR (pc1 := 39) rfl rfl ?_
    refine r_gfI (pc1 := 42) rfl rfl rfl t1 (lyk t1 rfl) rfl rfl ?_
    refine r_n (pc1 := 43) [.int (J 1), .int (J (hI h1 8 6)), rv 8] _ rfl rfl ?_
    refine r_iadd (pc1 := 44) rfl rfl ?_
    refine r_pfI (pc1 := 47) rfl rfl rfl t1 (lyk t1 rfl) rfl rfl rfl (fun h3 eh3 t3 u3 => ?_)
    have w := w h3 eh3 t3 u3
    have s3 := HX_trans s1 u3
    refine r_n (pc1 := 48) [.int (J x2)] _ rfl rfl ?_
    exact r_retI rfl rfl rfl (k _ _ t3 s3 rx2 w)
  · have w := w.2 c4
    exact r_thr rfl rfl rfl rfl rfl rfl (kE _ _ (HT_nT t0).1 (HX_trans (HX_refl h) (HT_nT t0).2) w)
def w_L_mirror  (K : Int → XH → Prop) (h : XH) : Prop :=
  (w_X12_mirror (fun x1 h2 => HT h2 → HX h h2 → rg x1 → (∀ h5 : XH, h5 = sL h2 467 0 (i2l x1) → HT h5 → HX h2 h5 → (K 0 h5))) (fun y4 h3 => ((y4 = 0 ∧ K 1 h3))) h)
set_option maxHeartbeats 4000000 in
theorem a_L_mirror {sc : Nat × (Nat → Int32)} {goal : XO → XH → Prop} {fs : List XF} {h : XH}  {K : Int → XH → Prop} (hd : fs.length + 5 ≤ 1000) (w : w_L_mirror  K h) (t0 : HT h) (k : ∀ (r : Int) (h1 : XH), HT h1 → HX h h1 → rg r → K r h1 → XFin xP sc goal fs (.inl (some (.int (J r)))) h1) : RR sc goal fs 46 0 [some (rv 2), some (rv 467), none] [] h := by
  unfold w_L_mirror at w
  refine r_aldn (pc1 := 1) rfl rfl rfl ?_
  refine r_n (pc1 := 2) [.int (J 0), rv 467] _ rfl rfl ?_
  refine r_aldn (pc1 := 3) rfl rfl rfl ?_
  refine r_iv rfl rfl rfl rfl rfl rfl t0 (lyk t0 rfl) rfl (xe_of (xa_r xa_0) rfl rfl) (r_d0 hd rfl) (a_X12_mirror  (r_d1 hd rfl)  w t0 (fun x1 h2 t2 u2 rx1 w => ?_) (fun y4 h3 ty uy w => ?_))
  · refine r_fI (pc1 := 6) rfl ?_
    have s2 := HX_trans (HX_refl h) u2
    have w := w t2 u2
    have w := w rx1
    refine r_i2l (pc1 := 7) rfl rfl ?_
    refine r_last (pc1 := 8) rfl rfl t2 (lyk t2 rfl) (rgk rfl) (by decide) (lt_len (lyn t2 rfl) (by decide)) (fun h5 eh5 t5 u5 => ?_)
    have w := w h5 eh5 t5 u5
    have s5 := HX_trans s2 u5
    refine r_goto (t := 14) rfl rfl ?_
    refine r_n (pc1 := 15) [.int (J 0)] _ rfl rfl ?_
    exact r_retI rfl rfl rfl (k _ _ t5 s5 (rgk rfl) w)
  · obtain ⟨rfl, w⟩ := w
    exact r_fink (z := 1) rfl (by decide) rfl rfl (k _ _ ty (HX_trans (HX_refl h) uy) (rgk rfl) w)
def w_X14_mirror  (K : Int → XH → Prop) (h : XH) : Prop :=
  (∀ h1 : XH, h1 = sI h 437 5 0 → HT h1 → HX h h1 → ∃ J3 : Int → Prop, (∀ (x2 : Int), rg x2 → J3 x2 → (w_X14_refused x2 1 (fun x4 h5 => HT h5 → HX h1 h5 → rg x4 → (x4 = 0 ∨ x4 = 1) → (((x4 = 0 → (w_X14_record (fun h6 => HT h6 → HX h5 h6 → (∀ h7 : XH, h7 = sI h6 438 3 (wr ((hI h6 438 3) + 1)) → HT h7 → HX h6 h7 → K (wr ((hI h7 438 3) - 1)) h7)) h5)) ∧ (¬ (x4 = 0) → (K 0 h5))))) h1)) ∧ ((3 ≤ hI h1 438 3 → (J3 0)) ∧ (¬ (3 ≤ hI h1 438 3) → (J3 1))))
set_option maxHeartbeats 4000000 in
theorem a_X14_mirror {sc : Nat × (Nat → Int32)} {goal : XO → XH → Prop} {fs : List XF} {h : XH}  {K : Int → XH → Prop} (hd : fs.length + 2 ≤ 1000) (w : w_X14_mirror  K h) (t0 : HT h) (k : ∀ (r : Int) (h1 : XH), HT h1 → HX h h1 → rg r → K r h1 → XFin xP sc goal fs (.inl (some (.int (J r)))) h1) : RR sc goal fs 256 0 [some (rv 437)] [] h := by
  unfold w_X14_mirror at w
  refine r_aldn (pc1 := 1) rfl rfl rfl ?_
  refine r_n (pc1 := 2) [.int (J 0), rv 437] _ rfl rfl ?_
  refine r_pfI (pc1 := 5) rfl rfl rfl t0 (lyk t0 rfl) rfl rfl rfl (fun h1 eh1 t1 u1 => ?_)
  have w := w h1 eh1 t1 u1
  have s1 := HX_trans (HX_refl h) u1
  refine r_aldn (pc1 := 6) rfl rfl rfl ?_
  refine r_aldn (pc1 := 7) rfl rfl rfl ?_
  refine r_gfC (pc1 := 10) (q := 438) rfl rfl rfl t1 (lyk t1 rfl) rfl rfl (lyR t1 rfl rfl) ?_
  refine r_n (pc1 := 11) [.int (J 3), rv 438, rv 437] _ rfl rfl ?_
  refine r_ial (pc1 := 12) rfl rfl t1 (lyk t1 rfl) (rgk rfl) (by decide) (lt_len (lyn t1 rfl) (by decide)) ?_
  refine r_n (pc1 := 13) [.int (J 3), .int (J (hI h1 438 3)), rv 437] _ rfl rfl ?_
  obtain ⟨J3, j3, w⟩ := w
  have Q3 : ∀ (x2 : Int), rg x2 → J3 x2 → RR sc goal fs 256 21 [some (rv 437)] [.int (J x2), rv 437] h1 := by
    intro x2 rx2 z3
    have w := j3 x2 rx2 z3
    refine r_n (pc1 := 22) [.int (J 1), .int (J x2), rv 437] _ rfl rfl ?_
    refine r_iv rfl rfl rfl rfl rfl rfl t1 (lyk t1 rfl) rfl (xe_of (xa_r (xa_i (xa_i xa_0))) rfl rfl) (r_d0 hd rfl) (a_X14_refused x2 1 (r_d1 hd rfl) rx2 (rgk rfl) w t1 (fun x4 h5 t5 u5 rx4 vx4 w => ?_))
    refine r_fI (pc1 := 25) rfl ?_
    have s5 := HX_trans s1 u5
    have w := w t5 u5
    have w := w rx4 vx4
    refine r_iz (t := 30) (pc1 := 28) rfl rfl rfl rx4 (fun c8 => ?_) (fun c8 => ?_)
    · have w := w.1 c8
      refine r_aldn (pc1 := 31) rfl rfl rfl ?_
      refine r_iv rfl rfl rfl rfl rfl rfl t5 (lyk t5 rfl) rfl (xe_of (xa_r xa_0) rfl rfl) (r_d0 hd rfl) (a_X14_record  (r_d1 hd rfl)  w t5 (fun h6 t6 u6 w => ?_))
      refine r_fV (pc1 := 34) rfl ?_
      have s6 := HX_trans s5 u6
      have w := w t6 u6
      refine r_aldn (pc1 := 35) rfl rfl rfl ?_
      refine r_gfC (pc1 := 38) (q := 438) rfl rfl rfl t6 (lyk t6 rfl) rfl rfl (lyR t6 rfl rfl) ?_
      refine r_n (pc1 := 39) [.int (J 3), rv 438] _ rfl rfl ?_
      refine r_dup2 (pc1 := 40) rfl rfl ?_
      refine r_ial (pc1 := 41) rfl rfl t6 (lyk t6 rfl) (rgk rfl) (by decide) (lt_len (lyn t6 rfl) (by decide)) ?_
      refine r_n (pc1 := 42) [.int (J 1), .int (J (hI h6 438 3)), .int (J 3), rv 438] _ rfl rfl ?_
      refine r_iadd (pc1 := 43) rfl rfl ?_
      refine r_iast (pc1 := 44) rfl rfl t6 (lyk t6 rfl) (rgk rfl) (by decide) (lt_len (lyn t6 rfl) (by decide)) (fun h7 eh7 t7 u7 => ?_)
      have w := w h7 eh7 t7 u7
      have s7 := HX_trans s6 u7
      refine r_aldn (pc1 := 45) rfl rfl rfl ?_
      refine r_gfC (pc1 := 48) (q := 438) rfl rfl rfl t7 (lyk t7 rfl) rfl rfl (lyR t7 rfl rfl) ?_
      refine r_n (pc1 := 49) [.int (J 3), rv 438] _ rfl rfl ?_
      refine r_ial (pc1 := 50) rfl rfl t7 (lyk t7 rfl) (rgk rfl) (by decide) (lt_len (lyn t7 rfl) (by decide)) ?_
      refine r_n (pc1 := 51) [.int (J 1), .int (J (hI h7 438 3))] _ rfl rfl ?_
      refine r_isub (pc1 := 52) rfl rfl ?_
      exact r_retI rfl rfl rfl (k _ _ t7 s7 (rgw _) w)
    · have w := w.2 c8
      refine r_n (pc1 := 29) [.int (J 0)] _ rfl rfl ?_
      exact r_retI rfl rfl rfl (k _ _ t5 s5 (rgk rfl) w)
  refine r_ic (t := 20) (pc1 := 16) rfl rfl rfl (rgh _ _ _) (rgk rfl) (fun c9 => ?_) (fun c9 => ?_)
  · have w := w.1 c9
    refine r_n (pc1 := 21) [.int (J 0), rv 437] _ rfl rfl ?_
    exact Q3  0  (rgk rfl) w
  · have w := w.2 c9
    refine r_n (pc1 := 17) [.int (J 1), rv 437] _ rfl rfl ?_
    refine r_goto (t := 21) rfl rfl ?_
    exact Q3  1  (rgk rfl) w
def w_X12_checkMirror (p0 : Int) (K : Prop) (E : Nat → XH → Prop) (h : XH) : Prop :=
  (∃ J1 : Prop, (J1 → (E 2 (nT h))) ∧ ((p0 < 0 → J1) ∧ (¬ (p0 < 0) → (((p0 < hI h 8 6 → (K)) ∧ (¬ (p0 < hI h 8 6) → J1))))))
set_option maxHeartbeats 4000000 in
theorem a_X12_checkMirror {sc : Nat × (Nat → Int32)} {goal : XO → XH → Prop} {fs : List XF} {h : XH} (p0 : Int) {K : Prop} {E : Nat → XH → Prop} (hd : fs.length + 0 ≤ 1000) (rp0 : rg p0) (w : w_X12_checkMirror p0 K E h) (t0 : HT h) (k : K → XFin xP sc goal fs (.inl none) h) (kE : ∀ (x : Nat) (h1 : XH), HT h1 → HX h h1 → E x h1 → XFin xP sc goal fs (.inr x) h1) : RR sc goal fs 91 0 [some (rv 2), some (.int (J p0))] [] h := by
  unfold w_X12_checkMirror at w
  refine r_n (pc1 := 1) [.int (J p0)] _ rfl rfl ?_
  obtain ⟨J1, j1, w⟩ := w
  have Q1 : J1 → RR sc goal fs 91 15 [some (rv 2), some (.int (J p0))] [] h := by
    intro z1
    have w := j1 z1
    exact r_thr rfl rfl rfl rfl rfl rfl (kE _ _ (HT_nT t0).1 (HX_trans (HX_refl h) (HT_nT t0).2) w)
  refine r_iz (t := 15) (pc1 := 4) rfl rfl rfl rp0 (fun c3 => ?_) (fun c3 => ?_)
  · have w := w.1 c3
    exact Q1     w
  · have w := w.2 c3
    refine r_n (pc1 := 5) [.int (J p0)] _ rfl rfl ?_
    refine r_aldn (pc1 := 6) rfl rfl rfl ?_
    refine r_gfC (pc1 := 9) (q := 8) rfl rfl rfl t0 (lyk t0 rfl) rfl rfl (lyR t0 rfl rfl) ?_
    refine r_gfI (pc1 := 12) rfl rfl rfl t0 (lyk t0 rfl) rfl rfl ?_
    refine r_ic (t := 26) (pc1 := 15) rfl rfl rfl rp0 (rgh _ _ _) (fun c2 => ?_) (fun c2 => ?_)
    · have w := w.1 c2
      exact r_retV rfl rfl rfl (k  w)
    · have w := w.2 c2
      exact Q1     w
def w_X11_setOffer (p0 : Int) (p1 : Int) (p2 : Int) (K : Int → XH → Prop) (h : XH) : Prop :=
  ((0 ≤ p0 ∧ p0 < 3) ∧ ∀ h2 : XH, h2 = sL h 41 p0.toNat ((hL h 41 p0.toNat) ||| (lshl (1#64) p1)) → HT h2 → HX h h2 → (0 ≤ wr ((wr (p0 * 40)) + p1) ∧ wr ((wr (p0 * 40)) + p1) < 120) ∧ ∀ h4 : XH, h4 = sI h2 42 (wr ((wr (p0 * 40)) + p1)).toNat p2 → HT h4 → HX h2 h4 → w_J13_bitCount_95d88 (hL h4 41 p0.toNat) (fun x5 => rg x5 → (K x5 h4)) h4)
set_option maxHeartbeats 4000000 in
theorem a_X11_setOffer {sc : Nat × (Nat → Int32)} {goal : XO → XH → Prop} {fs : List XF} {h : XH} (p0 : Int) (p1 : Int) (p2 : Int) {K : Int → XH → Prop} (hd : fs.length + 1 ≤ 1000) (rp0 : rg p0) (rp1 : rg p1) (rp2 : rg p2) (w : w_X11_setOffer p0 p1 p2 K h) (t0 : HT h) (k : ∀ (r : Int) (h1 : XH), HT h1 → HX h h1 → rg r → K r h1 → XFin xP sc goal fs (.inl (some (.int (J r)))) h1) : RR sc goal fs 82 0 [some (rv 8), some (.int (J p0)), some (.int (J p1)), some (.int (J p2))] [] h := by
  unfold w_X11_setOffer at w
  refine r_aldn (pc1 := 1) rfl rfl rfl ?_
  refine r_gfC (pc1 := 4) (q := 41) rfl rfl rfl t0 (lyk t0 rfl) rfl rfl (lyR t0 rfl rfl) ?_
  refine r_n (pc1 := 5) [.int (J p0), rv 41] _ rfl rfl ?_
  refine r_dup2 (pc1 := 6) rfl rfl ?_
  obtain ⟨c1, w⟩ := w
  refine r_lal (pc1 := 7) rfl rfl t0 (lyk t0 rfl) rp0 c1.1 (lt_len (lyn t0 rfl) c1.2) ?_
  refine r_n (pc1 := 8) [.long (G (1#64)), .long (G (hL h 41 p0.toNat)), .int (J p0), rv 41] _ rfl rfl ?_
  refine r_n (pc1 := 9) [.int (J p1), .long (G (1#64)), .long (G (hL h 41 p0.toNat)), .int (J p0), rv 41] _ rfl rfl ?_
  refine r_lshl (pc1 := 10) rfl rfl ?_
  refine r_lor (pc1 := 11) rfl rfl ?_
  refine r_last (pc1 := 12) rfl rfl t0 (lyk t0 rfl) rp0 c1.1 (lt_len (lyn t0 rfl) c1.2) (fun h2 eh2 t2 u2 => ?_)
  have w := w h2 eh2 t2 u2
  have s2 := HX_trans (HX_refl h) u2
  refine r_aldn (pc1 := 13) rfl rfl rfl ?_
  refine r_gfC (pc1 := 16) (q := 42) rfl rfl rfl t2 (lyk t2 rfl) rfl rfl (lyR t2 rfl rfl) ?_
  refine r_n (pc1 := 17) [.int (J p0), rv 42] _ rfl rfl ?_
  refine r_n (pc1 := 19) [.int (J 40), .int (J p0), rv 42] _ rfl rfl ?_
  refine r_imul (pc1 := 20) rfl rfl ?_
  refine r_n (pc1 := 21) [.int (J p1), .int (J (wr (p0 * 40))), rv 42] _ rfl rfl ?_
  refine r_iadd (pc1 := 22) rfl rfl ?_
  refine r_n (pc1 := 23) [.int (J p2), .int (J (wr ((wr (p0 * 40)) + p1))), rv 42] _ rfl rfl ?_
  obtain ⟨c3, w⟩ := w
  refine r_iast (pc1 := 24) rfl rfl t2 (lyk t2 rfl) (rgw _) c3.1 (lt_len (lyn t2 rfl) c3.2) (fun h4 eh4 t4 u4 => ?_)
  have w := w h4 eh4 t4 u4
  have s4 := HX_trans s2 u4
  refine r_aldn (pc1 := 25) rfl rfl rfl ?_
  refine r_gfC (pc1 := 28) (q := 41) rfl rfl rfl t4 (lyk t4 rfl) rfl rfl (lyR t4 rfl rfl) ?_
  refine r_n (pc1 := 29) [.int (J p0), rv 41] _ rfl rfl ?_
  refine r_lal (pc1 := 30) rfl rfl t4 (lyk t4 rfl) rp0 c1.1 (lt_len (lyn t4 rfl) c1.2) ?_
  refine r_iq rfl rfl rfl rfl rfl rfl (xe_of (xa_l xa_0) rfl rfl) (r_d0 hd rfl) (a_J13_bitCount_95d88 (hL h4 41 p0.toNat) (r_d1 hd rfl)  w t4 (fun x5 rx5 w => ?_))
  refine r_fI (pc1 := 33) rfl ?_
  have w := w rx5
  exact r_retI rfl rfl rfl (k _ _ t4 s4 rx5 w)
def w_X12_offer (p0 : Int) (p1 : Int) (p2 : Int) (p3 : Int) (K : Int → XH → Prop) (E : Nat → XH → Prop) (h : XH) : Prop :=
  (w_X12_checkMirror p0 ((w_X12_checkedId p1 p2 (fun x1 => rg x1 → (w_X12_remember (fun h2 => HT h2 → HX h h2 → (w_X11_setOffer p0 x1 p3 (fun x3 h4 => HT h4 → HX h2 h4 → rg x3 → (K x3 h4)) h2)) h)) E h)) E h)
set_option maxHeartbeats 4000000 in
theorem a_X12_offer {sc : Nat × (Nat → Int32)} {goal : XO → XH → Prop} {fs : List XF} {h : XH} (p0 : Int) (p1 : Int) (p2 : Int) (p3 : Int) {K : Int → XH → Prop} {E : Nat → XH → Prop} (hd : fs.length + 4 ≤ 1000) (rp0 : rg p0) (rp1 : rg p1) (rp2 : rg p2) (rp3 : rg p3) (w : w_X12_offer p0 p1 p2 p3 K E h) (t0 : HT h) (k : ∀ (r : Int) (h1 : XH), HT h1 → HX h h1 → rg r → K r h1 → XFin xP sc goal fs (.inl (some (.int (J r)))) h1) (kE : ∀ (x : Nat) (h1 : XH), HT h1 → HX h h1 → E x h1 → XFin xP sc goal fs (.inr x) h1) : RR sc goal fs 132 0 [some (rv 2), some (.int (J p0)), some (.int (J p1)), some (.int (J p2)), some (.int (J p3)), none] [] h := by
  unfold w_X12_offer at w
  refine r_aldn (pc1 := 1) rfl rfl rfl ?_
  refine r_n (pc1 := 2) [.int (J p0), rv 2] _ rfl rfl ?_
  refine r_iv rfl rfl rfl rfl rfl rfl t0 (lyk t0 rfl) rfl (xe_of (xa_r (xa_i xa_0)) rfl rfl) (r_d0 hd rfl) (a_X12_checkMirror p0 (r_d1 hd rfl) rp0 w t0 (fun w => ?_) (fun x y ty uy w => r_finx rfl rfl (kE x y ty (HX_trans (HX_refl h) uy) w)))
  refine r_fV (pc1 := 5) rfl ?_
  refine r_aldn (pc1 := 6) rfl rfl rfl ?_
  refine r_n (pc1 := 7) [.int (J p1), rv 2] _ rfl rfl ?_
  refine r_n (pc1 := 8) [.int (J p2), .int (J p1), rv 2] _ rfl rfl ?_
  refine r_iv rfl rfl rfl rfl rfl rfl t0 (lyk t0 rfl) rfl (xe_of (xa_r (xa_i (xa_i xa_0))) rfl rfl) (r_d0 hd rfl) (a_X12_checkedId p1 p2 (r_d1 hd rfl) rp1 rp2 w t0 (fun x1 rx1 w => ?_) (fun x y ty uy w => r_finx rfl rfl (kE x y ty (HX_trans (HX_refl h) uy) w)))
  refine r_fI (pc1 := 11) rfl ?_
  have w := w rx1
  refine r_ist (pc1 := 13) (ls1 := [some (rv 2), some (.int (J p0)), some (.int (J p1)), some (.int (J p2)), some (.int (J p3)), some (.int (J x1))]) rfl rfl rfl rfl ?_
  refine r_aldn (pc1 := 14) rfl rfl rfl ?_
  refine r_iv rfl rfl rfl rfl rfl rfl t0 (lyk t0 rfl) rfl (xe_of (xa_r xa_0) rfl rfl) (r_d0 hd rfl) (a_X12_remember  (r_d1 hd rfl)  w t0 (fun h2 t2 u2 w => ?_))
  refine r_fV (pc1 := 17) rfl ?_
  have s2 := HX_trans (HX_refl h) u2
  have w := w t2 u2
  refine r_aldn (pc1 := 18) rfl rfl rfl ?_
  refine r_gfC (pc1 := 21) (q := 8) rfl rfl rfl t2 (lyk t2 rfl) rfl rfl (lyR t2 rfl rfl) ?_
  refine r_n (pc1 := 22) [.int (J p0), rv 8] _ rfl rfl ?_
  refine r_n (pc1 := 24) [.int (J x1), .int (J p0), rv 8] _ rfl rfl ?_
  refine r_n (pc1 := 26) [.int (J p3), .int (J x1), .int (J p0), rv 8] _ rfl rfl ?_
  refine r_iv rfl rfl rfl rfl rfl rfl t2 (lyk t2 rfl) rfl (xe_of (xa_r (xa_i (xa_i (xa_i xa_0)))) rfl rfl) (r_d0 hd rfl) (a_X11_setOffer p0 x1 p3 (r_d1 hd rfl) rp0 rx1 rp3 w t2 (fun x3 h4 t4 u4 rx3 w => ?_))
  refine r_fI (pc1 := 29) rfl ?_
  have s4 := HX_trans s2 u4
  have w := w t4 u4
  have w := w rx3
  exact r_retI rfl rfl rfl (k _ _ t4 s4 rx3 w)
def w_L_offer (p1 : Int) (p2 : Int) (p3 : Int) (p4 : Int) (K : Int → XH → Prop) (h : XH) : Prop :=
  (w_X12_offer p1 p2 p3 p4 (fun x1 h2 => HT h2 → HX h h2 → rg x1 → (∀ h5 : XH, h5 = sL h2 467 0 (i2l x1) → HT h5 → HX h2 h5 → (K 0 h5))) (fun y4 h3 => ((y4 = 2 ∧ K 1 h3))) h)
set_option maxHeartbeats 4000000 in
theorem a_L_offer {sc : Nat × (Nat → Int32)} {goal : XO → XH → Prop} {fs : List XF} {h : XH} (p1 : Int) (p2 : Int) (p3 : Int) (p4 : Int) {K : Int → XH → Prop} (hd : fs.length + 5 ≤ 1000) (rp1 : rg p1) (rp2 : rg p2) (rp3 : rg p3) (rp4 : rg p4) (w : w_L_offer p1 p2 p3 p4 K h) (t0 : HT h) (k : ∀ (r : Int) (h1 : XH), HT h1 → HX h h1 → rg r → K r h1 → XFin xP sc goal fs (.inl (some (.int (J r)))) h1) : RR sc goal fs 49 0 [some (rv 2), some (.int (J p1)), some (.int (J p2)), some (.int (J p3)), some (.int (J p4)), some (rv 467), none] [] h := by
  unfold w_L_offer at w
  refine r_ald (pc1 := 2) rfl rfl rfl ?_
  refine r_n (pc1 := 3) [.int (J 0), rv 467] _ rfl rfl ?_
  refine r_aldn (pc1 := 4) rfl rfl rfl ?_
  refine r_n (pc1 := 5) [.int (J p1), rv 2, .int (J 0), rv 467] _ rfl rfl ?_
  refine r_n (pc1 := 6) [.int (J p2), .int (J p1), rv 2, .int (J 0), rv 467] _ rfl rfl ?_
  refine r_n (pc1 := 7) [.int (J p3), .int (J p2), .int (J p1), rv 2, .int (J 0), rv 467] _ rfl rfl ?_
  refine r_n (pc1 := 9) [.int (J p4), .int (J p3), .int (J p2), .int (J p1), rv 2, .int (J 0), rv 467] _ rfl rfl ?_
  refine r_iv rfl rfl rfl rfl rfl rfl t0 (lyk t0 rfl) rfl (xe_of (xa_r (xa_i (xa_i (xa_i (xa_i xa_0))))) rfl rfl) (r_d0 hd rfl) (a_X12_offer p1 p2 p3 p4 (r_d1 hd rfl) rp1 rp2 rp3 rp4 w t0 (fun x1 h2 t2 u2 rx1 w => ?_) (fun y4 h3 ty uy w => ?_))
  · refine r_fI (pc1 := 12) rfl ?_
    have s2 := HX_trans (HX_refl h) u2
    have w := w t2 u2
    have w := w rx1
    refine r_i2l (pc1 := 13) rfl rfl ?_
    refine r_last (pc1 := 14) rfl rfl t2 (lyk t2 rfl) (rgk rfl) (by decide) (lt_len (lyn t2 rfl) (by decide)) (fun h5 eh5 t5 u5 => ?_)
    have w := w h5 eh5 t5 u5
    have s5 := HX_trans s2 u5
    refine r_goto (t := 21) rfl rfl ?_
    refine r_n (pc1 := 22) [.int (J 0)] _ rfl rfl ?_
    exact r_retI rfl rfl rfl (k _ _ t5 s5 (rgk rfl) w)
  · obtain ⟨rfl, w⟩ := w
    exact r_fink (z := 1) rfl (by decide) rfl rfl (k _ _ ty (HX_trans (HX_refl h) uy) (rgk rfl) w)
def w_X14_isMirror (p0 : Int) (K : Int → Prop) (h : XH) : Prop :=
  (w_X14_within p0 0 (wr ((hI h 438 3) - 1)) (fun x1 => rg x1 → (x1 = 0 ∨ x1 = 1) → (K x1)) h)
set_option maxHeartbeats 4000000 in
theorem a_X14_isMirror {sc : Nat × (Nat → Int32)} {goal : XO → XH → Prop} {fs : List XF} {h : XH} (p0 : Int) {K : Int → Prop} (hd : fs.length + 1 ≤ 1000) (rp0 : rg p0) (w : w_X14_isMirror p0 K h) (t0 : HT h) (k : ∀ (r : Int), rg r → (r = 0 ∨ r = 1) → K r → XFin xP sc goal fs (.inl (some (.int (J r)))) h) : RR sc goal fs 233 0 [some (rv 437), some (.int (J p0))] [] h := by
  unfold w_X14_isMirror at w
  refine r_n (pc1 := 1) [.int (J p0)] _ rfl rfl ?_
  refine r_n (pc1 := 2) [.int (J 0), .int (J p0)] _ rfl rfl ?_
  refine r_aldn (pc1 := 3) rfl rfl rfl ?_
  refine r_gfC (pc1 := 6) (q := 438) rfl rfl rfl t0 (lyk t0 rfl) rfl rfl (lyR t0 rfl rfl) ?_
  refine r_n (pc1 := 7) [.int (J 3), rv 438, .int (J 0), .int (J p0)] _ rfl rfl ?_
  refine r_ial (pc1 := 8) rfl rfl t0 (lyk t0 rfl) (rgk rfl) (by decide) (lt_len (lyn t0 rfl) (by decide)) ?_
  refine r_n (pc1 := 9) [.int (J 1), .int (J (hI h 438 3)), .int (J 0), .int (J p0)] _ rfl rfl ?_
  refine r_isub (pc1 := 10) rfl rfl ?_
  refine r_iq rfl rfl rfl rfl rfl rfl (xe_of (xa_i (xa_i (xa_i xa_0))) rfl rfl) (r_d0 hd rfl) (a_X14_within p0 0 (wr ((hI h 438 3) - 1)) (r_d1 hd rfl) rp0 (rgk rfl) (rgw _) w t0 (fun x1 rx1 vx1 w => ?_))
  refine r_fI (pc1 := 13) rfl ?_
  have w := w rx1 vx1
  exact r_retB rfl rfl rfl vx1 (k _ rx1 vx1 w)
def w_X14_offered (p0 : Int) (p1 : Int) (K : Int → Prop) (h : XH) : Prop :=
  (K (wr ((wr ((wr (1714 + (wr (81 * p0)))) + 1)) + (wr (2 * p1)))))
set_option maxHeartbeats 4000000 in
theorem a_X14_offered {sc : Nat × (Nat → Int32)} {goal : XO → XH → Prop} {fs : List XF} {h : XH} (p0 : Int) (p1 : Int) {K : Int → Prop} (hd : fs.length + 0 ≤ 1000) (rp0 : rg p0) (rp1 : rg p1) (w : w_X14_offered p0 p1 K h) (t0 : HT h) (k : ∀ (r : Int), rg r → K r → XFin xP sc goal fs (.inl (some (.int (J r)))) h) : RR sc goal fs 262 0 [some (.int (J p0)), some (.int (J p1))] [] h := by
  unfold w_X14_offered at w
  refine r_n (pc1 := 3) [.int (J 1714)] _ rfl rfl ?_
  refine r_n (pc1 := 5) [.int (J 81), .int (J 1714)] _ rfl rfl ?_
  refine r_n (pc1 := 6) [.int (J p0), .int (J 81), .int (J 1714)] _ rfl rfl ?_
  refine r_imul (pc1 := 7) rfl rfl ?_
  refine r_iadd (pc1 := 8) rfl rfl ?_
  refine r_n (pc1 := 9) [.int (J 1), .int (J (wr (1714 + (wr (81 * p0)))))] _ rfl rfl ?_
  refine r_iadd (pc1 := 10) rfl rfl ?_
  refine r_n (pc1 := 11) [.int (J 2), .int (J (wr ((wr (1714 + (wr (81 * p0)))) + 1)))] _ rfl rfl ?_
  refine r_n (pc1 := 12) [.int (J p1), .int (J 2), .int (J (wr ((wr (1714 + (wr (81 * p0)))) + 1)))] _ rfl rfl ?_
  refine r_imul (pc1 := 13) rfl rfl ?_
  refine r_iadd (pc1 := 14) rfl rfl ?_
  exact r_retI rfl rfl rfl (k _ (rgw _) w)
def w_X14_offer (p0 : Int) (p1 : Int) (p2 : Int) (p3 : Int) (K : Int → XH → Prop) (h : XH) : Prop :=
  (∀ h1 : XH, h1 = sI h 437 5 0 → HT h1 → HX h h1 → w_X14_isMirror p0 (fun x2 => rg x2 → (x2 = 0 ∨ x2 = 1) → (∃ J4 : Int → Prop, (∀ (x3 : Int), rg x3 → J4 x3 → (w_X14_refused x3 1 (fun x5 h6 => HT h6 → HX h1 h6 → rg x5 → (x5 = 0 ∨ x5 = 1) → (((x5 = 0 → (w_X14_record (fun h7 => HT h7 → HX h6 h7 → (w_X14_slotOf p1 p2 (fun x8 => rg x8 → (w_X14_offered p0 x8 (fun x9 => rg x9 → ((0 ≤ x9 ∧ x9 < 1957) ∧ ∀ h11 : XH, h11 = sI h7 438 x9.toNat 1 → HT h11 → HX h7 h11 → w_X14_offered p0 x8 (fun x12 => rg x12 → ((0 ≤ wr (x12 + 1) ∧ wr (x12 + 1) < 1957) ∧ ∀ h14 : XH, h14 = sI h11 438 (wr (x12 + 1)).toNat p3 → HT h14 → HX h11 h14 → (∃ (I18 : Int → Int → Prop) (m18 : Int → Int → Nat), I18 0 0 ∧ ∀ (x16 : Int) (x17 : Int), rg x16 → rg x17 → I18 x16 x17 → (((40 ≤ x17 → (K x16 h14)) ∧ (¬ (40 ≤ x17) → (w_X14_offered p0 x17 (fun x19 => rg x19 → ((0 ≤ x19 ∧ x19 < 1957) ∧ ∀ x21 : Int, x21 = wr (x16 + (hI h14 438 x19.toNat)) → rg x21 → ∀ x22 : Int, x22 = wr (x17 + 1) → rg x22 → (I18 x21 x22 ∧ m18 x21 x22 < m18 x16 x17))) h14))))))) h11)) h7)) h7)) h6)) ∧ (¬ (x5 = 0) → (K 0 h6))))) h1)) ∧ ∃ J25 : Prop, (J25 → (J4 0)) ∧ ((x2 = 0 → J25) ∧ (¬ (x2 = 0) → (w_X14_isVersion p1 p2 (fun x26 => rg x26 → (x26 = 0 ∨ x26 = 1) → (((x26 = 0 → J25) ∧ (¬ (x26 = 0) → (J4 1))))) h1))))) h1)
set_option maxHeartbeats 4000000 in
theorem a_X14_offer {sc : Nat × (Nat → Int32)} {goal : XO → XH → Prop} {fs : List XF} {h : XH} (p0 : Int) (p1 : Int) (p2 : Int) (p3 : Int) {K : Int → XH → Prop} (hd : fs.length + 3 ≤ 1000) (rp0 : rg p0) (rp1 : rg p1) (rp2 : rg p2) (rp3 : rg p3) (w : w_X14_offer p0 p1 p2 p3 K h) (t0 : HT h) (k : ∀ (r : Int) (h1 : XH), HT h1 → HX h h1 → rg r → K r h1 → XFin xP sc goal fs (.inl (some (.int (J r)))) h1) : RR sc goal fs 261 0 [some (rv 437), some (.int (J p0)), some (.int (J p1)), some (.int (J p2)), some (.int (J p3)), none, none, none] [] h := by
  unfold w_X14_offer at w
  refine r_aldn (pc1 := 1) rfl rfl rfl ?_
  refine r_n (pc1 := 2) [.int (J 0), rv 437] _ rfl rfl ?_
  refine r_pfI (pc1 := 5) rfl rfl rfl t0 (lyk t0 rfl) rfl rfl rfl (fun h1 eh1 t1 u1 => ?_)
  have w := w h1 eh1 t1 u1
  have s1 := HX_trans (HX_refl h) u1
  refine r_aldn (pc1 := 6) rfl rfl rfl ?_
  refine r_aldn (pc1 := 7) rfl rfl rfl ?_
  refine r_n (pc1 := 8) [.int (J p0), rv 437, rv 437] _ rfl rfl ?_
  refine r_iv rfl rfl rfl rfl rfl rfl t1 (lyk t1 rfl) rfl (xe_of (xa_r (xa_i xa_0)) rfl rfl) (r_d0 hd rfl) (a_X14_isMirror p0 (r_d1 hd rfl) rp0 w t1 (fun x2 rx2 vx2 w => ?_))
  refine r_fI (pc1 := 11) rfl ?_
  have w := w rx2 vx2
  obtain ⟨J4, j4, w⟩ := w
  have Q4 : ∀ (x3 : Int), rg x3 → J4 x3 → RR sc goal fs 261 28 [some (rv 437), some (.int (J p0)), some (.int (J p1)), some (.int (J p2)), some (.int (J p3)), none, none, none] [.int (J x3), rv 437] h1 := by
    intro x3 rx3 z4
    have w := j4 x3 rx3 z4
    refine r_n (pc1 := 29) [.int (J 1), .int (J x3), rv 437] _ rfl rfl ?_
    refine r_iv rfl rfl rfl rfl rfl rfl t1 (lyk t1 rfl) rfl (xe_of (xa_r (xa_i (xa_i xa_0))) rfl rfl) (r_d0 hd rfl) (a_X14_refused x3 1 (r_d1 hd rfl) rx3 (rgk rfl) w t1 (fun x5 h6 t6 u6 rx5 vx5 w => ?_))
    refine r_fI (pc1 := 32) rfl ?_
    have s6 := HX_trans s1 u6
    have w := w t6 u6
    have w := w rx5 vx5
    refine r_iz (t := 37) (pc1 := 35) rfl rfl rfl rx5 (fun c24 => ?_) (fun c24 => ?_)
    · have w := w.1 c24
      refine r_aldn (pc1 := 38) rfl rfl rfl ?_
      refine r_iv rfl rfl rfl rfl rfl rfl t6 (lyk t6 rfl) rfl (xe_of (xa_r xa_0) rfl rfl) (r_d0 hd rfl) (a_X14_record  (r_d1 hd rfl)  w t6 (fun h7 t7 u7 w => ?_))
      refine r_fV (pc1 := 41) rfl ?_
      have s7 := HX_trans s6 u7
      have w := w t7 u7
      refine r_aldn (pc1 := 42) rfl rfl rfl ?_
      refine r_n (pc1 := 43) [.int (J p1), rv 437] _ rfl rfl ?_
      refine r_n (pc1 := 44) [.int (J p2), .int (J p1), rv 437] _ rfl rfl ?_
      refine r_iv rfl rfl rfl rfl rfl rfl t7 (lyk t7 rfl) rfl (xe_of (xa_r (xa_i (xa_i xa_0))) rfl rfl) (r_d0 hd rfl) (a_X14_slotOf p1 p2 (r_d1 hd rfl) rp1 rp2 w t7 (fun x8 rx8 w => ?_))
      refine r_fI (pc1 := 47) rfl ?_
      have w := w rx8
      refine r_ist (pc1 := 49) (ls1 := [some (rv 437), some (.int (J p0)), some (.int (J p1)), some (.int (J p2)), some (.int (J p3)), some (.int (J x8)), none, none]) rfl rfl rfl rfl ?_
      refine r_aldn (pc1 := 50) rfl rfl rfl ?_
      refine r_gfC (pc1 := 53) (q := 438) rfl rfl rfl t7 (lyk t7 rfl) rfl rfl (lyR t7 rfl rfl) ?_
      refine r_n (pc1 := 54) [.int (J p0), rv 438] _ rfl rfl ?_
      refine r_n (pc1 := 56) [.int (J x8), .int (J p0), rv 438] _ rfl rfl ?_
      refine r_iq rfl rfl rfl rfl rfl rfl (xe_of (xa_i (xa_i xa_0)) rfl rfl) (r_d0 hd rfl) (a_X14_offered p0 x8 (r_d1 hd rfl) rp0 rx8 w t7 (fun x9 rx9 w => ?_))
      refine r_fI (pc1 := 59) rfl ?_
      have w := w rx9
      refine r_n (pc1 := 60) [.int (J 1), .int (J x9), rv 438] _ rfl rfl ?_
      obtain ⟨c10, w⟩ := w
      refine r_iast (pc1 := 61) rfl rfl t7 (lyk t7 rfl) rx9 c10.1 (lt_len (lyn t7 rfl) c10.2) (fun h11 eh11 t11 u11 => ?_)
      have w := w h11 eh11 t11 u11
      have s11 := HX_trans s7 u11
      refine r_aldn (pc1 := 62) rfl rfl rfl ?_
      refine r_gfC (pc1 := 65) (q := 438) rfl rfl rfl t11 (lyk t11 rfl) rfl rfl (lyR t11 rfl rfl) ?_
      refine r_n (pc1 := 66) [.int (J p0), rv 438] _ rfl rfl ?_
      refine r_n (pc1 := 68) [.int (J x8), .int (J p0), rv 438] _ rfl rfl ?_
      refine r_iq rfl rfl rfl rfl rfl rfl (xe_of (xa_i (xa_i xa_0)) rfl rfl) (r_d0 hd rfl) (a_X14_offered p0 x8 (r_d1 hd rfl) rp0 rx8 w t11 (fun x12 rx12 w => ?_))
      refine r_fI (pc1 := 71) rfl ?_
      have w := w rx12
      refine r_n (pc1 := 72) [.int (J 1), .int (J x12), rv 438] _ rfl rfl ?_
      refine r_iadd (pc1 := 73) rfl rfl ?_
      refine r_n (pc1 := 75) [.int (J p3), .int (J (wr (x12 + 1))), rv 438] _ rfl rfl ?_
      obtain ⟨c13, w⟩ := w
      refine r_iast (pc1 := 76) rfl rfl t11 (lyk t11 rfl) (rgw _) c13.1 (lt_len (lyn t11 rfl) c13.2) (fun h14 eh14 t14 u14 => ?_)
      have w := w h14 eh14 t14 u14
      have s14 := HX_trans s11 u14
      refine r_n (pc1 := 77) [.int (J 0)] _ rfl rfl ?_
      refine r_ist (pc1 := 79) (ls1 := [some (rv 437), some (.int (J p0)), some (.int (J p1)), some (.int (J p2)), some (.int (J p3)), some (.int (J x8)), some (.int (J 0)), none]) rfl rfl rfl rfl ?_
      refine r_n (pc1 := 80) [.int (J 0)] _ rfl rfl ?_
      refine r_ist (pc1 := 82) (ls1 := [some (rv 437), some (.int (J p0)), some (.int (J p1)), some (.int (J p2)), some (.int (J p3)), some (.int (J x8)), some (.int (J 0)), some (.int (J 0))]) rfl rfl rfl rfl ?_
      obtain ⟨I18, m18, w, y18⟩ := w
      have Q18 : ∀ (n : Nat) (d15 : Option Value) (x16 : Int) (x17 : Int), rg x16 → rg x17 → m18 x16 x17 < n → I18 x16 x17 → RR sc goal fs 261 82 [some (rv 437), some (.int (J p0)), some (.int (J p1)), some (.int (J p2)), some (.int (J p3)), d15, some (.int (J x16)), some (.int (J x17))] [] h14 := by
        intro n
        induction n with
        | zero => intro d15 x16 x17 rx16 rx17 q18 _; exact absurd q18 (Nat.not_lt_zero _)
        | succ n ih18 =>
          intro d15 x16 x17 rx16 rx17 q18 z18
          have w := y18 x16 x17 rx16 rx17 z18
          refine r_n (pc1 := 84) [.int (J x17)] _ rfl rfl ?_
          refine r_n (pc1 := 86) [.int (J 40), .int (J x17)] _ rfl rfl ?_
          refine r_ic (t := 111) (pc1 := 89) rfl rfl rfl rx17 (rgk rfl) (fun c23 => ?_) (fun c23 => ?_)
          · have w := w.1 c23
            refine r_n (pc1 := 113) [.int (J x16)] _ rfl rfl ?_
            exact r_retI rfl rfl rfl (k _ _ t14 s14 rx16 w)
          · have w := w.2 c23
            refine r_n (pc1 := 91) [.int (J x16)] _ rfl rfl ?_
            refine r_aldn (pc1 := 92) rfl rfl rfl ?_
            refine r_gfC (pc1 := 95) (q := 438) rfl rfl rfl t14 (lyk t14 rfl) rfl rfl (lyR t14 rfl rfl) ?_
            refine r_n (pc1 := 96) [.int (J p0), rv 438, .int (J x16)] _ rfl rfl ?_
            refine r_n (pc1 := 98) [.int (J x17), .int (J p0), rv 438, .int (J x16)] _ rfl rfl ?_
            refine r_iq rfl rfl rfl rfl rfl rfl (xe_of (xa_i (xa_i xa_0)) rfl rfl) (r_d0 hd rfl) (a_X14_offered p0 x17 (r_d1 hd rfl) rp0 rx17 w t14 (fun x19 rx19 w => ?_))
            refine r_fI (pc1 := 101) rfl ?_
            have w := w rx19
            obtain ⟨c20, w⟩ := w
            refine r_ial (pc1 := 102) rfl rfl t14 (lyk t14 rfl) rx19 c20.1 (lt_len (lyn t14 rfl) c20.2) ?_
            refine r_iadd (pc1 := 103) rfl rfl ?_
            refine r_vI (rgw _) (fun x21 ex21 rx21 => ?_)
            have w := w x21 ex21 rx21
            refine r_ist (pc1 := 105) (ls1 := [some (rv 437), some (.int (J p0)), some (.int (J p1)), some (.int (J p2)), some (.int (J p3)), (dcl d15), some (.int (J x21)), some (.int (J x17))]) rfl rfl rfl (xput1_d rfl rfl) ?_
            refine r_inc (pc1 := 108) (g := fun zz => [some (rv 437), some (.int (J p0)), some (.int (J p1)), some (.int (J p2)), some (.int (J p3)), (dcl d15), some (.int (J x21)), some (.int (J zz))]) rfl rfl rfl rfl (fun _ => rfl) (fun x22 ex22 rx22 => ?_)
            have w := w x22 ex22 rx22
            refine r_goto (t := 82) rfl rfl ?_
            exact ih18 _ x21 x22  rx21 rx22 (Nat.lt_of_lt_of_le w.2 (Nat.le_of_lt_succ q18)) w.1
      exact Q18 _ _ 0 0  (rgk rfl) (rgk rfl) (Nat.lt_succ_self _) w
    · have w := w.2 c24
      refine r_n (pc1 := 36) [.int (J 0)] _ rfl rfl ?_
      exact r_retI rfl rfl rfl (k _ _ t6 s6 (rgk rfl) w)
  obtain ⟨J25, j25, w⟩ := w
  have Q25 : J25 → RR sc goal fs 261 27 [some (rv 437), some (.int (J p0)), some (.int (J p1)), some (.int (J p2)), some (.int (J p3)), none, none, none] [rv 437] h1 := by
    intro z25
    have w := j25 z25
    refine r_n (pc1 := 28) [.int (J 0), rv 437] _ rfl rfl ?_
    exact Q4  0  (rgk rfl) w
  refine r_iz (t := 27) (pc1 := 14) rfl rfl rfl rx2 (fun c28 => ?_) (fun c28 => ?_)
  · have w := w.1 c28
    exact Q25     w
  · have w := w.2 c28
    refine r_aldn (pc1 := 15) rfl rfl rfl ?_
    refine r_n (pc1 := 16) [.int (J p1), rv 437, rv 437] _ rfl rfl ?_
    refine r_n (pc1 := 17) [.int (J p2), .int (J p1), rv 437, rv 437] _ rfl rfl ?_
    refine r_iv rfl rfl rfl rfl rfl rfl t1 (lyk t1 rfl) rfl (xe_of (xa_r (xa_i (xa_i xa_0))) rfl rfl) (r_d0 hd rfl) (a_X14_isVersion p1 p2 (r_d1 hd rfl) rp1 rp2 w t1 (fun x26 rx26 vx26 w => ?_))
    refine r_fI (pc1 := 20) rfl ?_
    have w := w rx26 vx26
    refine r_iz (t := 27) (pc1 := 23) rfl rfl rfl rx26 (fun c27 => ?_) (fun c27 => ?_)
    · have w := w.1 c27
      exact Q25     w
    · have w := w.2 c27
      refine r_n (pc1 := 24) [.int (J 1), rv 437] _ rfl rfl ?_
      refine r_goto (t := 28) rfl rfl ?_
      exact Q4  1  (rgk rfl) w
def w_X12_sumWrong (p0 : Int) (K : Int → Prop) (E : Nat → XH → Prop) (h : XH) : Prop :=
  (w_X12_checkMirror p0 (((0 ≤ p0 ∧ p0 < 3) ∧ K (hI h 40 p0.toNat))) E h)
set_option maxHeartbeats 4000000 in
theorem a_X12_sumWrong {sc : Nat × (Nat → Int32)} {goal : XO → XH → Prop} {fs : List XF} {h : XH} (p0 : Int) {K : Int → Prop} {E : Nat → XH → Prop} (hd : fs.length + 1 ≤ 1000) (rp0 : rg p0) (w : w_X12_sumWrong p0 K E h) (t0 : HT h) (k : ∀ (r : Int), rg r → K r → XFin xP sc goal fs (.inl (some (.int (J r)))) h) (kE : ∀ (x : Nat) (h1 : XH), HT h1 → HX h h1 → E x h1 → XFin xP sc goal fs (.inr x) h1) : RR sc goal fs 152 0 [some (rv 2), some (.int (J p0))] [] h := by
  unfold w_X12_sumWrong at w
  refine r_aldn (pc1 := 1) rfl rfl rfl ?_
  refine r_n (pc1 := 2) [.int (J p0), rv 2] _ rfl rfl ?_
  refine r_iv rfl rfl rfl rfl rfl rfl t0 (lyk t0 rfl) rfl (xe_of (xa_r (xa_i xa_0)) rfl rfl) (r_d0 hd rfl) (a_X12_checkMirror p0 (r_d1 hd rfl) rp0 w t0 (fun w => ?_) (fun x y ty uy w => r_finx rfl rfl (kE x y ty (HX_trans (HX_refl h) uy) w)))
  refine r_fV (pc1 := 5) rfl ?_
  refine r_aldn (pc1 := 6) rfl rfl rfl ?_
  refine r_gfC (pc1 := 9) (q := 8) rfl rfl rfl t0 (lyk t0 rfl) rfl rfl (lyR t0 rfl rfl) ?_
  refine r_gfC (pc1 := 12) (q := 40) rfl rfl rfl t0 (lyk t0 rfl) rfl rfl (lyR t0 rfl rfl) ?_
  refine r_n (pc1 := 13) [.int (J p0), rv 40] _ rfl rfl ?_
  obtain ⟨c1, w⟩ := w
  refine r_ial (pc1 := 14) rfl rfl t0 (lyk t0 rfl) rp0 c1.1 (lt_len (lyn t0 rfl) c1.2) ?_
  exact r_retI rfl rfl rfl (k _ (rgh _ _ _) w)
def w_L_sumWrong (p1 : Int) (K : Int → XH → Prop) (h : XH) : Prop :=
  (w_X12_sumWrong p1 (fun x1 => rg x1 → (∀ h4 : XH, h4 = sL h 467 0 (i2l x1) → HT h4 → HX h h4 → (K 0 h4))) (fun y3 h2 => ((y3 = 2 ∧ K 1 h2))) h)
set_option maxHeartbeats 4000000 in
theorem a_L_sumWrong {sc : Nat × (Nat → Int32)} {goal : XO → XH → Prop} {fs : List XF} {h : XH} (p1 : Int) {K : Int → XH → Prop} (hd : fs.length + 2 ≤ 1000) (rp1 : rg p1) (w : w_L_sumWrong p1 K h) (t0 : HT h) (k : ∀ (r : Int) (h1 : XH), HT h1 → HX h h1 → rg r → K r h1 → XFin xP sc goal fs (.inl (some (.int (J r)))) h1) : RR sc goal fs 61 0 [some (rv 2), some (.int (J p1)), some (rv 467), none] [] h := by
  unfold w_L_sumWrong at w
  refine r_aldn (pc1 := 1) rfl rfl rfl ?_
  refine r_n (pc1 := 2) [.int (J 0), rv 467] _ rfl rfl ?_
  refine r_aldn (pc1 := 3) rfl rfl rfl ?_
  refine r_n (pc1 := 4) [.int (J p1), rv 2, .int (J 0), rv 467] _ rfl rfl ?_
  refine r_iv rfl rfl rfl rfl rfl rfl t0 (lyk t0 rfl) rfl (xe_of (xa_r (xa_i xa_0)) rfl rfl) (r_d0 hd rfl) (a_X12_sumWrong p1 (r_d1 hd rfl) rp1 w t0 (fun x1 rx1 w => ?_) (fun y3 h2 ty uy w => ?_))
  · refine r_fI (pc1 := 7) rfl ?_
    have w := w rx1
    refine r_i2l (pc1 := 8) rfl rfl ?_
    refine r_last (pc1 := 9) rfl rfl t0 (lyk t0 rfl) (rgk rfl) (by decide) (lt_len (lyn t0 rfl) (by decide)) (fun h4 eh4 t4 u4 => ?_)
    have w := w h4 eh4 t4 u4
    have s4 := HX_trans (HX_refl h) u4
    refine r_goto (t := 15) rfl rfl ?_
    refine r_n (pc1 := 16) [.int (J 0)] _ rfl rfl ?_
    exact r_retI rfl rfl rfl (k _ _ t4 s4 (rgk rfl) w)
  · obtain ⟨rfl, w⟩ := w
    exact r_fink (z := 1) rfl (by decide) rfl rfl (k _ _ ty (HX_trans (HX_refl h) uy) (rgk rfl) w)
def w_X14_sumWrong (p0 : Int) (K : Int → XH → Prop) (h : XH) : Prop :=
  (∀ h1 : XH, h1 = sI h 437 5 0 → HT h1 → HX h h1 → w_X14_isMirror p0 (fun x2 => rg x2 → (x2 = 0 ∨ x2 = 1) → (w_X14_refused x2 1 (fun x3 h4 => HT h4 → HX h1 h4 → rg x3 → (x3 = 0 ∨ x3 = 1) → (∃ J6 : Int → Prop, (∀ (x5 : Int), rg x5 → J6 x5 → (K x5 h4)) ∧ ((x3 = 0 → (∀ x7 : Int, x7 = wr (1714 + (wr (81 * p0))) → rg x7 → (0 ≤ x7 ∧ x7 < 1957) ∧ J6 (hI h4 438 x7.toNat))) ∧ (¬ (x3 = 0) → (J6 0))))) h1)) h1)
set_option maxHeartbeats 4000000 in
theorem a_X14_sumWrong {sc : Nat × (Nat → Int32)} {goal : XO → XH → Prop} {fs : List XF} {h : XH} (p0 : Int) {K : Int → XH → Prop} (hd : fs.length + 2 ≤ 1000) (rp0 : rg p0) (w : w_X14_sumWrong p0 K h) (t0 : HT h) (k : ∀ (r : Int) (h1 : XH), HT h1 → HX h h1 → rg r → K r h1 → XFin xP sc goal fs (.inl (some (.int (J r)))) h1) : RR sc goal fs 306 0 [some (rv 437), some (.int (J p0))] [] h := by
  unfold w_X14_sumWrong at w
  refine r_aldn (pc1 := 1) rfl rfl rfl ?_
  refine r_n (pc1 := 2) [.int (J 0), rv 437] _ rfl rfl ?_
  refine r_pfI (pc1 := 5) rfl rfl rfl t0 (lyk t0 rfl) rfl rfl rfl (fun h1 eh1 t1 u1 => ?_)
  have w := w h1 eh1 t1 u1
  have s1 := HX_trans (HX_refl h) u1
  refine r_aldn (pc1 := 6) rfl rfl rfl ?_
  refine r_aldn (pc1 := 7) rfl rfl rfl ?_
  refine r_n (pc1 := 8) [.int (J p0), rv 437, rv 437] _ rfl rfl ?_
  refine r_iv rfl rfl rfl rfl rfl rfl t1 (lyk t1 rfl) rfl (xe_of (xa_r (xa_i xa_0)) rfl rfl) (r_d0 hd rfl) (a_X14_isMirror p0 (r_d1 hd rfl) rp0 w t1 (fun x2 rx2 vx2 w => ?_))
  refine r_fI (pc1 := 11) rfl ?_
  have w := w rx2 vx2
  refine r_n (pc1 := 12) [.int (J 1), .int (J x2), rv 437] _ rfl rfl ?_
  refine r_iv rfl rfl rfl rfl rfl rfl t1 (lyk t1 rfl) rfl (xe_of (xa_r (xa_i (xa_i xa_0))) rfl rfl) (r_d0 hd rfl) (a_X14_refused x2 1 (r_d1 hd rfl) rx2 (rgk rfl) w t1 (fun x3 h4 t4 u4 rx3 vx3 w => ?_))
  refine r_fI (pc1 := 15) rfl ?_
  have s4 := HX_trans s1 u4
  have w := w t4 u4
  have w := w rx3 vx3
  obtain ⟨J6, j6, w⟩ := w
  have Q6 : ∀ (x5 : Int), rg x5 → J6 x5 → RR sc goal fs 306 35 [some (rv 437), some (.int (J p0))] [.int (J x5)] h4 := by
    intro x5 rx5 z6
    have w := j6 x5 rx5 z6
    exact r_retI rfl rfl rfl (k _ _ t4 s4 rx5 w)
  refine r_iz (t := 22) (pc1 := 18) rfl rfl rfl rx3 (fun c9 => ?_) (fun c9 => ?_)
  · have w := w.1 c9
    refine r_aldn (pc1 := 23) rfl rfl rfl ?_
    refine r_gfC (pc1 := 26) (q := 438) rfl rfl rfl t4 (lyk t4 rfl) rfl rfl (lyR t4 rfl rfl) ?_
    refine r_n (pc1 := 29) [.int (J 1714), rv 438] _ rfl rfl ?_
    refine r_n (pc1 := 31) [.int (J 81), .int (J 1714), rv 438] _ rfl rfl ?_
    refine r_n (pc1 := 32) [.int (J p0), .int (J 81), .int (J 1714), rv 438] _ rfl rfl ?_
    refine r_imul (pc1 := 33) rfl rfl ?_
    refine r_iadd (pc1 := 34) rfl rfl ?_
    refine r_vI (rgw _) (fun x7 ex7 rx7 => ?_)
    have w := w x7 ex7 rx7
    obtain ⟨c8, w⟩ := w
    refine r_ial (pc1 := 35) rfl rfl t4 (lyk t4 rfl) rx7 c8.1 (lt_len (lyn t4 rfl) c8.2) ?_
    exact Q6  (hI h4 438 x7.toNat)  (rgh _ _ _) w
  · have w := w.2 c9
    refine r_n (pc1 := 19) [.int (J 0)] _ rfl rfl ?_
    refine r_goto (t := 35) rfl rfl ?_
    exact Q6  0  (rgk rfl) w
def w_X12_fetches  (K : Int → XH → Prop) (h : XH) : Prop :=
  (w_X12_knowMet (fun h1 => HT h1 → HX h h1 → (w_X11_atHand (fun a2 => (hk h1 a2 = 7 ∧ w_X2_arrange (hL h1 a2 5) (fun h4 => HT h4 → HX h1 h4 → (∃ J6 : Int → Prop, (∀ (x5 : Int), rg x5 → J6 x5 → (K x5 h4)) ∧ ((hI h4 79 7 = 0 → (w_X2_comingCount (fun x7 => rg x7 → J6 x7) h4)) ∧ (¬ (hI h4 79 7 = 0) → (J6 (-1)))))) h1)) h1)) h)
set_option maxHeartbeats 4000000 in
theorem a_X12_fetches {sc : Nat × (Nat → Int32)} {goal : XO → XH → Prop} {fs : List XF} {h : XH}  {K : Int → XH → Prop} (hd : fs.length + 6 ≤ 1000) (w : w_X12_fetches  K h) (t0 : HT h) (k : ∀ (r : Int) (h1 : XH), HT h1 → HX h h1 → rg r → K r h1 → XFin xP sc goal fs (.inl (some (.int (J r)))) h1) : RR sc goal fs 108 0 [some (rv 2)] [] h := by
  unfold w_X12_fetches at w
  refine r_aldn (pc1 := 1) rfl rfl rfl ?_
  refine r_iv rfl rfl rfl rfl rfl rfl t0 (lyk t0 rfl) rfl (xe_of (xa_r xa_0) rfl rfl) (r_d0 hd rfl) (a_X12_knowMet  (r_d1 hd rfl)  w t0 (fun h1 t1 u1 w => ?_))
  refine r_fV (pc1 := 4) rfl ?_
  have s1 := HX_trans (HX_refl h) u1
  have w := w t1 u1
  refine r_aldn (pc1 := 5) rfl rfl rfl ?_
  refine r_gfC (pc1 := 8) (q := 79) rfl rfl rfl t1 (lyk t1 rfl) rfl rfl (lyR t1 rfl rfl) ?_
  refine r_aldn (pc1 := 9) rfl rfl rfl ?_
  refine r_gfC (pc1 := 12) (q := 8) rfl rfl rfl t1 (lyk t1 rfl) rfl rfl (lyR t1 rfl rfl) ?_
  refine r_iv rfl rfl rfl rfl rfl rfl t1 (lyk t1 rfl) rfl (xe_of (xa_r xa_0) rfl rfl) (r_d0 hd rfl) (a_X11_atHand  (r_d1 hd rfl)  w t1 (fun a2 w => ?_))
  refine r_fR (pc1 := 15) rfl ?_
  obtain ⟨c3, w⟩ := w
  refine r_gfL (pc1 := 18) rfl rfl rfl t1 c3 rfl rfl ?_
  refine r_iv rfl rfl rfl rfl rfl rfl t1 (lyk t1 rfl) rfl (xe_of (xa_r (xa_l xa_0)) rfl rfl) (r_d0 hd rfl) (a_X2_arrange (hL h1 a2 5) (r_d1 hd rfl)  w t1 (fun h4 t4 u4 w => ?_))
  refine r_fV (pc1 := 21) rfl ?_
  have s4 := HX_trans s1 u4
  have w := w t4 u4
  refine r_aldn (pc1 := 22) rfl rfl rfl ?_
  refine r_gfC (pc1 := 25) (q := 79) rfl rfl rfl t4 (lyk t4 rfl) rfl rfl (lyR t4 rfl rfl) ?_
  refine r_gfI (pc1 := 28) rfl rfl rfl t4 (lyk t4 rfl) rfl rfl ?_
  obtain ⟨J6, j6, w⟩ := w
  have Q6 : ∀ (x5 : Int), rg x5 → J6 x5 → RR sc goal fs 108 42 [some (rv 2)] [.int (J x5)] h4 := by
    intro x5 rx5 z6
    have w := j6 x5 rx5 z6
    exact r_retI rfl rfl rfl (k _ _ t4 s4 rx5 w)
  refine r_iz (t := 35) (pc1 := 31) rfl rfl rfl (rgh _ _ _) (fun c8 => ?_) (fun c8 => ?_)
  · have w := w.1 c8
    refine r_aldn (pc1 := 36) rfl rfl rfl ?_
    refine r_gfC (pc1 := 39) (q := 79) rfl rfl rfl t4 (lyk t4 rfl) rfl rfl (lyR t4 rfl rfl) ?_
    refine r_iv rfl rfl rfl rfl rfl rfl t4 (lyk t4 rfl) rfl (xe_of (xa_r xa_0) rfl rfl) (r_d0 hd rfl) (a_X2_comingCount  (r_d1 hd rfl)  w t4 (fun x7 rx7 w => ?_))
    refine r_fI (pc1 := 42) rfl ?_
    have w := w rx7
    exact Q6  x7  rx7 w
  · have w := w.2 c8
    refine r_n (pc1 := 32) [.int (J (-1))] _ rfl rfl ?_
    refine r_goto (t := 42) rfl rfl ?_
    exact Q6  (-1)  (rgk rfl) w
def w_X14_isAheadOf (p0 : Int) (p1 : Int) (K : Int → Prop) (h : XH) : Prop :=
  ((0 ≤ p1 ∧ p1 < 12) ∧ ∃ J3 : Int → Prop, (∀ (x2 : Int), rg x2 → J3 x2 → ((x2 = 0 ∨ x2 = 1) ∧ K x2)) ∧ ((¬ iand (ishr (hI h 464 p1.toNat) p0) 1 = 1 → (J3 0)) ∧ (¬ (¬ iand (ishr (hI h 464 p1.toNat) p0) 1 = 1) → (J3 1))))
set_option maxHeartbeats 4000000 in
theorem a_X14_isAheadOf {sc : Nat × (Nat → Int32)} {goal : XO → XH → Prop} {fs : List XF} {h : XH} (p0 : Int) (p1 : Int) {K : Int → Prop} (hd : fs.length + 0 ≤ 1000) (rp0 : rg p0) (rp1 : rg p1) (w : w_X14_isAheadOf p0 p1 K h) (t0 : HT h) (k : ∀ (r : Int), rg r → (r = 0 ∨ r = 1) → K r → XFin xP sc goal fs (.inl (some (.int (J r)))) h) : RR sc goal fs 223 0 [some (rv 437), some (.int (J p0)), some (.int (J p1))] [] h := by
  unfold w_X14_isAheadOf at w
  refine r_aldn (pc1 := 1) rfl rfl rfl ?_
  refine r_gfC (pc1 := 4) (q := 464) rfl rfl rfl t0 (lyk t0 rfl) rfl rfl (lyR t0 rfl rfl) ?_
  refine r_n (pc1 := 5) [.int (J p1), rv 464] _ rfl rfl ?_
  obtain ⟨c1, w⟩ := w
  refine r_ial (pc1 := 6) rfl rfl t0 (lyk t0 rfl) rp1 c1.1 (lt_len (lyn t0 rfl) c1.2) ?_
  refine r_n (pc1 := 7) [.int (J p0), .int (J (hI h 464 p1.toNat))] _ rfl rfl ?_
  refine r_ishr (pc1 := 8) rfl rfl ?_
  refine r_n (pc1 := 9) [.int (J 1), .int (J (ishr (hI h 464 p1.toNat) p0))] _ rfl rfl ?_
  refine r_iand (pc1 := 10) rfl rfl ?_
  refine r_n (pc1 := 11) [.int (J 1), .int (J (iand (ishr (hI h 464 p1.toNat) p0) 1))] _ rfl rfl ?_
  obtain ⟨J3, j3, w⟩ := w
  have Q3 : ∀ (x2 : Int), rg x2 → J3 x2 → RR sc goal fs 223 19 [some (rv 437), some (.int (J p0)), some (.int (J p1))] [.int (J x2)] h := by
    intro x2 rx2 z3
    have w := j3 x2 rx2 z3
    obtain ⟨c4, w⟩ := w
    exact r_retB rfl rfl rfl c4 (k _ rx2 c4 w)
  refine r_ic (t := 18) (pc1 := 14) rfl rfl rfl (rgt _) (rgk rfl) (fun c5 => ?_) (fun c5 => ?_)
  · have w := w.1 c5
    refine r_n (pc1 := 19) [.int (J 0)] _ rfl rfl ?_
    exact Q3  0  (rgk rfl) w
  · have w := w.2 c5
    refine r_n (pc1 := 15) [.int (J 1)] _ rfl rfl ?_
    refine r_goto (t := 19) rfl rfl ?_
    exact Q3  1  (rgk rfl) w
def w_X14_findRing  (K : XH → Prop) (h : XH) : Prop :=
  (∀ (a1 : Nat) (h2 : XH), a1 = h.length → h2 = nA h 0 12 → HT h2 → HX h h2 → hk h2 a1 = 100 → hn h2 a1 = 12 → (∃ (I8 : Int → XH → Prop) (m8 : Int → XH → Nat), I8 0 h2 ∧ ∀ (x3 : Int) (h7 : XH), HT h7 → HX h h7 → rg x3 → I8 x3 h7 → (((12 ≤ x3 → (K h7)) ∧ (¬ (12 ≤ x3) → ((∃ (I11 : Int → XH → Prop) (m11 : Int → XH → Nat), I11 0 h7 ∧ ∀ (x9 : Int) (h10 : XH), HT h10 → HX h h10 → rg x9 → I11 x9 h10 → (((12 ≤ x9 → ((∃ (I16 : Int → XH → Prop) (m16 : Int → XH → Nat), I16 0 h10 ∧ ∀ (x12 : Int) (h15 : XH), HT h15 → HX h h15 → rg x12 → I16 x12 h15 → (((12 ≤ x12 → (∀ x17 : Int, x17 = wr (x3 + 1) → rg x17 → (∃ (I20 : Int → Int → Prop) (m20 : Int → Int → Nat), I20 24 x17 ∧ ∀ (x18 : Int) (x19 : Int), rg x18 → rg x19 → I20 x18 x19 → (((12 ≤ x19 → (((x18 < 24 → ((∃ (I25 : Int → Int → XH → Prop) (m25 : Int → Int → XH → Nat), I25 x3 0 h15 ∧ ∀ (x21 : Int) (x22 : Int) (h24 : XH), HT h24 → HX h h24 → rg x21 → rg x22 → I25 x21 x22 h24 → (((x18 ≤ x22 → (∀ h26 : XH, h26 = sI h24 437 61 (wr (-x18)) → HT h26 → HX h24 h26 → K h26)) ∧ (¬ (x18 ≤ x22) → ((0 ≤ x22 ∧ x22 < 12) ∧ ∀ h28 : XH, h28 = sI h24 465 x22.toNat x21 → HT h28 → HX h24 h28 → ∀ x29 : Int, x29 = wr (x3 + 1) → rg x29 → (∃ (I31 : Int → Prop) (m31 : Int → Nat), I31 x29 ∧ ∀ (x30 : Int), rg x30 → I31 x30 → (∃ J32 : Prop, (J32 → (∃ J34 : Int → Prop, (∀ (x33 : Int), rg x33 → J34 x33 → (∀ x35 : Int, x35 = wr (x22 + 1) → rg x35 → (I25 x33 x35 h28 ∧ m25 x33 x35 h28 < m25 x21 x22 h24))) ∧ ((¬ x30 = 12 → (J34 x30)) ∧ (¬ (¬ x30 = 12) → (J34 x3))))) ∧ ((12 ≤ x30 → J32) ∧ (¬ (12 ≤ x30) → (w_X14_isAheadOf x21 x30 (fun x37 => rg x37 → (x37 = 0 ∨ x37 = 1) → (∃ J38 : Prop, (J38 → (∀ x39 : Int, x39 = wr (x30 + 1) → rg x39 → (I31 x39 ∧ m31 x39 < m31 x30))) ∧ ((x37 = 0 → J38) ∧ (¬ (x37 = 0) → (hk h28 a1 = 100 ∧ (0 ≤ x30 ∧ x30 < (hn h28 a1 : Int)) ∧ ((hI h28 a1 x30.toNat = wr ((wr (x18 - x22)) - 1) → J32) ∧ (¬ (hI h28 a1 x30.toNat = wr ((wr (x18 - x22)) - 1)) → J38))))))) h28)))))))))))) ∧ (¬ (x18 < 24) → ((∀ x46 : Int, x46 = wr (x3 + 1) → rg x46 → (I8 x46 h15 ∧ m8 x46 h15 < m8 x3 h7))))))) ∧ (¬ (12 ≤ x19) → (w_X14_isAheadOf x3 x19 (fun x48 => rg x48 → (x48 = 0 ∨ x48 = 1) → (∃ J50 : Int → Prop, (∀ (x49 : Int), rg x49 → J50 x49 → (∀ x51 : Int, x51 = wr (x19 + 1) → rg x51 → (I20 x49 x51 ∧ m20 x49 x51 < m20 x18 x19))) ∧ ((x48 = 0 → (J50 x18)) ∧ (¬ (x48 = 0) → (hk h15 a1 = 100 ∧ (0 ≤ x19 ∧ x19 < (hn h15 a1 : Int)) ∧ w_J9_min_7cf53 x18 (wr ((hI h15 a1 x19.toNat) + 1)) (fun x54 => rg x54 → (J50 x54)) h15))))) h15))))))) ∧ (¬ (12 ≤ x12) → (∀ x57 : Int, x57 = wr (x3 + 1) → rg x57 → (∃ (I61 : Int → XH → Prop) (m61 : Int → XH → Nat), I61 x57 h15 ∧ ∀ (x58 : Int) (h60 : XH), HT h60 → HX h h60 → rg x58 → I61 x58 h60 → (((12 ≤ x58 → (∀ x62 : Int, x62 = wr (x12 + 1) → rg x62 → (I16 x62 h60 ∧ m16 x62 h60 < m16 x12 h15))) ∧ (¬ (12 ≤ x58) → ((∃ (I65 : Int → XH → Prop) (m65 : Int → XH → Nat), I65 x3 h60 ∧ ∀ (x63 : Int) (h64 : XH), HT h64 → HX h h64 → rg x63 → I65 x63 h64 → (((12 ≤ x63 → (∀ x66 : Int, x66 = wr (x58 + 1) → rg x66 → (I61 x66 h64 ∧ m61 x66 h64 < m61 x58 h60))) ∧ (¬ (12 ≤ x63) → (w_X14_isAheadOf x58 x63 (fun x67 => rg x67 → (x67 = 0 ∨ x67 = 1) → (∃ J69 : Int → Prop, (∀ (x68 : Int), rg x68 → J69 x68 → (hk h64 a1 = 100 ∧ (0 ≤ x58 ∧ x58 < (hn h64 a1 : Int)) ∧ ∀ h72 : XH, h72 = sI h64 a1 x58.toNat x68 → HT h72 → HX h64 h72 → ∀ x73 : Int, x73 = wr (x63 + 1) → rg x73 → (I65 x73 h72 ∧ m65 x73 h72 < m65 x63 h64))) ∧ ((x67 = 0 → (hk h64 a1 = 100 ∧ (0 ≤ x58 ∧ x58 < (hn h64 a1 : Int)) ∧ J69 (hI h64 a1 x58.toNat))) ∧ (¬ (x67 = 0) → (hk h64 a1 = 100 ∧ (0 ≤ x58 ∧ x58 < (hn h64 a1 : Int)) ∧ (0 ≤ x63 ∧ x63 < (hn h64 a1 : Int)) ∧ w_J9_min_7cf53 (hI h64 a1 x58.toNat) (wr ((hI h64 a1 x63.toNat) + 1)) (fun x79 => rg x79 → (J69 x79)) h64))))) h64))))))))))))))))) ∧ (¬ (12 ≤ x9) → (∃ J85 : Int → Prop, (∀ (x84 : Int), rg x84 → J85 x84 → (hk h10 a1 = 100 ∧ (0 ≤ x9 ∧ x9 < (hn h10 a1 : Int)) ∧ ∀ h88 : XH, h88 = sI h10 a1 x9.toNat x84 → HT h88 → HX h10 h88 → ∀ x89 : Int, x89 = wr (x9 + 1) → rg x89 → (I11 x89 h88 ∧ m11 x89 h88 < m11 x9 h10))) ∧ ((¬ x9 = x3 → (J85 24)) ∧ (¬ (¬ x9 = x3) → (J85 0))))))))))))))
set_option maxHeartbeats 4000000 in
theorem a_X14_findRing {sc : Nat × (Nat → Int32)} {goal : XO → XH → Prop} {fs : List XF} {h : XH}  {K : XH → Prop} (hd : fs.length + 1 ≤ 1000) (w : w_X14_findRing  K h) (t0 : HT h) (k : ∀ (h1 : XH), HT h1 → HX h h1 → K h1 → XFin xP sc goal fs (.inl none) h1) : RR sc goal fs 202 0 [some (rv 437), none, none, none, none, none, none] [] h := by
  unfold w_X14_findRing at w
  refine r_n (pc1 := 2) [.int (J 12)] _ rfl rfl ?_
  refine r_na (pc1 := 4) (u := 0) (m := 2) rfl rfl rfl t0 rfl (rgk rfl) (by decide) (by decide) (fun a1 h2 ea1 eh2 t2 u2 ca1 la1 => ?_)
  have w := w a1 h2 ea1 eh2 t2 u2 ca1 la1
  have s2 := HX_trans (HX_refl h) u2
  refine r_astn (pc1 := 5) (ls1 := [some (rv 437), some (rv a1), none, none, none, none, none]) rfl rfl rfl rfl ?_
  refine r_n (pc1 := 6) [.int (J 0)] _ rfl rfl ?_
  refine r_istn (pc1 := 7) (ls1 := [some (rv 437), some (rv a1), some (.int (J 0)), none, none, none, none]) rfl rfl rfl (xput1_rv rfl rfl) ?_
  obtain ⟨I8, m8, w, y8⟩ := w
  have Q8 : ∀ (n : Nat) (d4 : Option Value) (d5 : Option Value) (d6 : Option Value) (x3 : Int) (h7 : XH), HT h7 → HX h h7 → rg x3 → m8 x3 h7 < n → I8 x3 h7 → RR sc goal fs 202 7 [some (rv 437), some (rv a1), some (.int (J x3)), d4, d5, d6, none] [] h7 := by
    intro n
    induction n with
    | zero => intro d4 d5 d6 x3 h7 t7 s7 rx3 q8 _; exact absurd q8 (Nat.not_lt_zero _)
    | succ n ih8 =>
      intro d4 d5 d6 x3 h7 t7 s7 rx3 q8 z8
      have w := y8 x3 h7 t7 s7 rx3 z8
      refine r_n (pc1 := 8) [.int (J x3)] _ rfl rfl ?_
      refine r_n (pc1 := 10) [.int (J 12), .int (J x3)] _ rfl rfl ?_
      refine r_ic (t := 276) (pc1 := 13) rfl rfl rfl rx3 (rgk rfl) (fun c92 => ?_) (fun c92 => ?_)
      · have w := w.1 c92
        exact r_retV rfl rfl rfl (k _ t7 s7 w)
      · have w := w.2 c92
        refine r_n (pc1 := 14) [.int (J 0)] _ rfl rfl ?_
        refine r_istn (pc1 := 15) (ls1 := [some (rv 437), some (rv a1), some (.int (J x3)), some (.int (J 0)), d5, d6, none]) rfl rfl rfl rfl ?_
        obtain ⟨I11, m11, w, y11⟩ := w
        have Q11 : ∀ (n : Nat)  (x9 : Int) (h10 : XH), HT h10 → HX h h10 → rg x9 → m11 x9 h10 < n → I11 x9 h10 → RR sc goal fs 202 15 [some (rv 437), some (rv a1), some (.int (J x3)), some (.int (J x9)), d5, d6, none] [] h10 := by
          intro n
          induction n with
          | zero => intro x9 h10 t10 s10 rx9 q11 _; exact absurd q11 (Nat.not_lt_zero _)
          | succ n ih11 =>
            intro x9 h10 t10 s10 rx9 q11 z11
            have w := y11 x9 h10 t10 s10 rx9 z11
            refine r_n (pc1 := 16) [.int (J x9)] _ rfl rfl ?_
            refine r_n (pc1 := 18) [.int (J 12), .int (J x9)] _ rfl rfl ?_
            refine r_ic (t := 41) (pc1 := 21) rfl rfl rfl rx9 (rgk rfl) (fun c91 => ?_) (fun c91 => ?_)
            · have w := w.1 c91
              refine r_n (pc1 := 42) [.int (J 0)] _ rfl rfl ?_
              refine r_istn (pc1 := 43) (ls1 := [some (rv 437), some (rv a1), some (.int (J x3)), some (.int (J 0)), d5, d6, none]) rfl rfl rfl rfl ?_
              obtain ⟨I16, m16, w, y16⟩ := w
              have Q16 : ∀ (n : Nat) (d13 : Option Value) (d14 : Option Value) (x12 : Int) (h15 : XH), HT h15 → HX h h15 → rg x12 → m16 x12 h15 < n → I16 x12 h15 → RR sc goal fs 202 43 [some (rv 437), some (rv a1), some (.int (J x3)), some (.int (J x12)), d13, d14, none] [] h15 := by
                intro n
                induction n with
                | zero => intro d13 d14 x12 h15 t15 s15 rx12 q16 _; exact absurd q16 (Nat.not_lt_zero _)
                | succ n ih16 =>
                  intro d13 d14 x12 h15 t15 s15 rx12 q16 z16
                  have w := y16 x12 h15 t15 s15 rx12 z16
                  refine r_n (pc1 := 44) [.int (J x12)] _ rfl rfl ?_
                  refine r_n (pc1 := 46) [.int (J 12), .int (J x12)] _ rfl rfl ?_
                  refine r_ic (t := 124) (pc1 := 49) rfl rfl rfl rx12 (rgk rfl) (fun c83 => ?_) (fun c83 => ?_)
                  · have w := w.1 c83
                    refine r_n (pc1 := 126) [.int (J 24)] _ rfl rfl ?_
                    refine r_istn (pc1 := 127) (ls1 := [some (rv 437), some (rv a1), some (.int (J x3)), some (.int (J 24)), d13, d14, none]) rfl rfl rfl rfl ?_
                    refine r_n (pc1 := 128) [.int (J x3)] _ rfl rfl ?_
                    refine r_n (pc1 := 129) [.int (J 1), .int (J x3)] _ rfl rfl ?_
                    refine r_iadd (pc1 := 130) rfl rfl ?_
                    refine r_vI (rgw _) (fun x17 ex17 rx17 => ?_)
                    have w := w x17 ex17 rx17
                    refine r_ist (pc1 := 132) (ls1 := [some (rv 437), some (rv a1), some (.int (J x3)), some (.int (J 24)), some (.int (J x17)), d14, none]) rfl rfl rfl rfl ?_
                    obtain ⟨I20, m20, w, y20⟩ := w
                    have Q20 : ∀ (n : Nat)  (x18 : Int) (x19 : Int), rg x18 → rg x19 → m20 x18 x19 < n → I20 x18 x19 → RR sc goal fs 202 132 [some (rv 437), some (rv a1), some (.int (J x3)), some (.int (J x18)), some (.int (J x19)), d14, none] [] h15 := by
                      intro n
                      induction n with
                      | zero => intro x18 x19 rx18 rx19 q20 _; exact absurd q20 (Nat.not_lt_zero _)
                      | succ n ih20 =>
                        intro x18 x19 rx18 rx19 q20 z20
                        have w := y20 x18 x19 rx18 rx19 z20
                        refine r_n (pc1 := 134) [.int (J x19)] _ rfl rfl ?_
                        refine r_n (pc1 := 136) [.int (J 12), .int (J x19)] _ rfl rfl ?_
                        refine r_ic (t := 170) (pc1 := 139) rfl rfl rfl rx19 (rgk rfl) (fun c56 => ?_) (fun c56 => ?_)
                        · have w := w.1 c56
                          refine r_n (pc1 := 171) [.int (J x18)] _ rfl rfl ?_
                          refine r_n (pc1 := 173) [.int (J 24), .int (J x18)] _ rfl rfl ?_
                          refine r_ic (t := 179) (pc1 := 176) rfl rfl rfl rx18 (rgk rfl) (fun c47 => ?_) (fun c47 => ?_)
                          · have w := w.1 c47
                            refine r_n (pc1 := 180) [.int (J x3)] _ rfl rfl ?_
                            refine r_ist (pc1 := 182) (ls1 := [some (rv 437), some (rv a1), some (.int (J x3)), some (.int (J x18)), some (.int (J x3)), d14, none]) rfl rfl rfl rfl ?_
                            refine r_n (pc1 := 183) [.int (J 0)] _ rfl rfl ?_
                            refine r_ist (pc1 := 185) (ls1 := [some (rv 437), some (rv a1), some (.int (J x3)), some (.int (J x18)), some (.int (J x3)), some (.int (J 0)), none]) rfl rfl rfl rfl ?_
                            obtain ⟨I25, m25, w, y25⟩ := w
                            have Q25 : ∀ (n : Nat) (d23 : Option Value) (x21 : Int) (x22 : Int) (h24 : XH), HT h24 → HX h h24 → rg x21 → rg x22 → m25 x21 x22 h24 < n → I25 x21 x22 h24 → RR sc goal fs 202 185 [some (rv 437), some (rv a1), some (.int (J x3)), some (.int (J x18)), some (.int (J x21)), some (.int (J x22)), d23] [] h24 := by
                              intro n
                              induction n with
                              | zero => intro d23 x21 x22 h24 t24 s24 rx21 rx22 q25 _; exact absurd q25 (Nat.not_lt_zero _)
                              | succ n ih25 =>
                                intro d23 x21 x22 h24 t24 s24 rx21 rx22 q25 z25
                                have w := y25 x21 x22 h24 t24 s24 rx21 rx22 z25
                                refine r_n (pc1 := 187) [.int (J x22)] _ rfl rfl ?_
                                refine r_n (pc1 := 188) [.int (J x18), .int (J x22)] _ rfl rfl ?_
                                refine r_ic (t := 263) (pc1 := 191) rfl rfl rfl rx22 rx18 (fun c45 => ?_) (fun c45 => ?_)
                                · have w := w.1 c45
                                  refine r_aldn (pc1 := 264) rfl rfl rfl ?_
                                  refine r_n (pc1 := 265) [.int (J x18), rv 437] _ rfl rfl ?_
                                  refine r_ineg (pc1 := 266) rfl rfl ?_
                                  refine r_pfI (pc1 := 269) rfl rfl rfl t24 (lyk t24 rfl) rfl rfl rfl (fun h26 eh26 t26 u26 => ?_)
                                  have w := w h26 eh26 t26 u26
                                  have s26 := HX_trans s24 u26
                                  exact r_retV rfl rfl rfl (k _ t26 s26 w)
                                · have w := w.2 c45
                                  refine r_aldn (pc1 := 192) rfl rfl rfl ?_
                                  refine r_gfC (pc1 := 195) (q := 465) rfl rfl rfl t24 (lyk t24 rfl) rfl rfl (lyR t24 rfl rfl) ?_
                                  refine r_n (pc1 := 197) [.int (J x22), rv 465] _ rfl rfl ?_
                                  refine r_n (pc1 := 199) [.int (J x21), .int (J x22), rv 465] _ rfl rfl ?_
                                  obtain ⟨c27, w⟩ := w
                                  refine r_iast (pc1 := 200) rfl rfl t24 (lyk t24 rfl) rx22 c27.1 (lt_len (lyn t24 rfl) c27.2) (fun h28 eh28 t28 u28 => ?_)
                                  have w := w h28 eh28 t28 u28
                                  have s28 := HX_trans s24 u28
                                  refine r_n (pc1 := 201) [.int (J x3)] _ rfl rfl ?_
                                  refine r_n (pc1 := 202) [.int (J 1), .int (J x3)] _ rfl rfl ?_
                                  refine r_iadd (pc1 := 203) rfl rfl ?_
                                  refine r_vI (rgw _) (fun x29 ex29 rx29 => ?_)
                                  have w := w x29 ex29 rx29
                                  refine r_ist (pc1 := 205) (ls1 := [some (rv 437), some (rv a1), some (.int (J x3)), some (.int (J x18)), some (.int (J x21)), some (.int (J x22)), some (.int (J x29))]) rfl rfl rfl rfl ?_
                                  obtain ⟨I31, m31, w, y31⟩ := w
                                  have Q31 : ∀ (n : Nat)  (x30 : Int), rg x30 → m31 x30 < n → I31 x30 → RR sc goal fs 202 205 [some (rv 437), some (rv a1), some (.int (J x3)), some (.int (J x18)), some (.int (J x21)), some (.int (J x22)), some (.int (J x30))] [] h28 := by
                                    intro n
                                    induction n with
                                    | zero => intro x30 rx30 q31 _; exact absurd q31 (Nat.not_lt_zero _)
                                    | succ n ih31 =>
                                      intro x30 rx30 q31 z31
                                      have w := y31 x30 rx30 z31
                                      refine r_n (pc1 := 207) [.int (J x30)] _ rfl rfl ?_
                                      refine r_n (pc1 := 209) [.int (J 12), .int (J x30)] _ rfl rfl ?_
                                      obtain ⟨J32, j32, w⟩ := w
                                      have Q32 : J32 → RR sc goal fs 202 242 [some (rv 437), some (rv a1), some (.int (J x3)), some (.int (J x18)), some (.int (J x21)), some (.int (J x22)), some (.int (J x30))] [] h28 := by
                                        intro z32
                                        have w := j32 z32
                                        refine r_n (pc1 := 244) [.int (J x30)] _ rfl rfl ?_
                                        refine r_n (pc1 := 246) [.int (J 12), .int (J x30)] _ rfl rfl ?_
                                        obtain ⟨J34, j34, w⟩ := w
                                        have Q34 : ∀ (x33 : Int), rg x33 → J34 x33 → RR sc goal fs 202 255 [some (rv 437), some (rv a1), some (.int (J x3)), some (.int (J x18)), some (.int (J x21)), some (.int (J x22)), some (.int (J x30))] [.int (J x33)] h28 := by
                                          intro x33 rx33 z34
                                          have w := j34 x33 rx33 z34
                                          refine r_ist (pc1 := 257) (ls1 := [some (rv 437), some (rv a1), some (.int (J x3)), some (.int (J x18)), some (.int (J x33)), some (.int (J x22)), some (.int (J x30))]) rfl rfl rfl rfl ?_
                                          refine r_inc (pc1 := 260) (g := fun zz => [some (rv 437), some (rv a1), some (.int (J x3)), some (.int (J x18)), some (.int (J x33)), some (.int (J zz)), some (.int (J x30))]) rfl rfl rfl rfl (fun _ => rfl) (fun x35 ex35 rx35 => ?_)
                                          have w := w x35 ex35 rx35
                                          refine r_goto (t := 185) rfl rfl ?_
                                          exact ih25 _ x33 x35 h28 t28 s28 rx33 rx35 (Nat.lt_of_lt_of_le w.2 (Nat.le_of_lt_succ q25)) w.1
                                        refine r_ic (t := 253) (pc1 := 249) rfl rfl rfl rx30 (rgk rfl) (fun c36 => ?_) (fun c36 => ?_)
                                        · have w := w.1 c36
                                          refine r_n (pc1 := 255) [.int (J x30)] _ rfl rfl ?_
                                          exact Q34  x30  rx30 w
                                        · have w := w.2 c36
                                          refine r_n (pc1 := 250) [.int (J x3)] _ rfl rfl ?_
                                          refine r_goto (t := 255) rfl rfl ?_
                                          exact Q34  x3  rx3 w
                                      refine r_ic (t := 242) (pc1 := 212) rfl rfl rfl rx30 (rgk rfl) (fun c44 => ?_) (fun c44 => ?_)
                                      · have w := w.1 c44
                                        exact Q32     w
                                      · have w := w.2 c44
                                        refine r_aldn (pc1 := 213) rfl rfl rfl ?_
                                        refine r_n (pc1 := 215) [.int (J x21), rv 437] _ rfl rfl ?_
                                        refine r_n (pc1 := 217) [.int (J x30), .int (J x21), rv 437] _ rfl rfl ?_
                                        refine r_iv rfl rfl rfl rfl rfl rfl t28 (lyk t28 rfl) rfl (xe_of (xa_r (xa_i (xa_i xa_0))) rfl rfl) (r_d0 hd rfl) (a_X14_isAheadOf x21 x30 (r_d1 hd rfl) rx21 rx30 w t28 (fun x37 rx37 vx37 w => ?_))
                                        refine r_fI (pc1 := 220) rfl ?_
                                        have w := w rx37 vx37
                                        obtain ⟨J38, j38, w⟩ := w
                                        have Q38 : J38 → RR sc goal fs 202 236 [some (rv 437), some (rv a1), some (.int (J x3)), some (.int (J x18)), some (.int (J x21)), some (.int (J x22)), some (.int (J x30))] [] h28 := by
                                          intro z38
                                          have w := j38 z38
                                          refine r_inc (pc1 := 239) (g := fun zz => [some (rv 437), some (rv a1), some (.int (J x3)), some (.int (J x18)), some (.int (J x21)), some (.int (J x22)), some (.int (J zz))]) rfl rfl rfl rfl (fun _ => rfl) (fun x39 ex39 rx39 => ?_)
                                          have w := w x39 ex39 rx39
                                          refine r_goto (t := 205) rfl rfl ?_
                                          exact ih31  x39  rx39 (Nat.lt_of_lt_of_le w.2 (Nat.le_of_lt_succ q31)) w.1
                                        refine r_iz (t := 236) (pc1 := 223) rfl rfl rfl rx37 (fun c43 => ?_) (fun c43 => ?_)
                                        · have w := w.1 c43
                                          exact Q38     w
                                        · have w := w.2 c43
                                          refine r_aldn (pc1 := 224) rfl rfl rfl ?_
                                          refine r_n (pc1 := 226) [.int (J x30), rv a1] _ rfl rfl ?_
                                          obtain ⟨c40, w⟩ := w
                                          obtain ⟨c41, w⟩ := w
                                          refine r_ial (pc1 := 227) rfl rfl t28 c40 rx30 c41.1 c41.2 ?_
                                          refine r_n (pc1 := 228) [.int (J x18), .int (J (hI h28 a1 x30.toNat))] _ rfl rfl ?_
                                          refine r_n (pc1 := 230) [.int (J x22), .int (J x18), .int (J (hI h28 a1 x30.toNat))] _ rfl rfl ?_
                                          refine r_isub (pc1 := 231) rfl rfl ?_
                                          refine r_n (pc1 := 232) [.int (J 1), .int (J (wr (x18 - x22))), .int (J (hI h28 a1 x30.toNat))] _ rfl rfl ?_
                                          refine r_isub (pc1 := 233) rfl rfl ?_
                                          refine r_ic (t := 242) (pc1 := 236) rfl rfl rfl (rgh _ _ _) (rgw _) (fun c42 => ?_) (fun c42 => ?_)
                                          · have w := w.1 c42
                                            exact Q32     w
                                          · have w := w.2 c42
                                            exact Q38     w
                                  exact Q31 _  x29  rx29 (Nat.lt_succ_self _) w
                            exact Q25 _ _ x3 0 h15 t15 s15 rx3 (rgk rfl) (Nat.lt_succ_self _) w
                          · have w := w.2 c47
                            refine r_goto (t := 270) rfl rfl ?_
                            refine r_inc (pc1 := 273) (g := fun zz => [some (rv 437), some (rv a1), some (.int (J zz)), some (.int (J x18)), some (.int (J x19)), d14, none]) rfl rfl rfl rfl (fun _ => xput1_rv rfl rfl) (fun x46 ex46 rx46 => ?_)
                            have w := w x46 ex46 rx46
                            refine r_goto (t := 7) rfl rfl ?_
                            exact ih8 _ _ _ x46 h15 t15 s15 rx46 (Nat.lt_of_lt_of_le w.2 (Nat.le_of_lt_succ q8)) w.1
                        · have w := w.2 c56
                          refine r_aldn (pc1 := 140) rfl rfl rfl ?_
                          refine r_n (pc1 := 141) [.int (J x3), rv 437] _ rfl rfl ?_
                          refine r_n (pc1 := 143) [.int (J x19), .int (J x3), rv 437] _ rfl rfl ?_
                          refine r_iv rfl rfl rfl rfl rfl rfl t15 (lyk t15 rfl) rfl (xe_of (xa_r (xa_i (xa_i xa_0))) rfl rfl) (r_d0 hd rfl) (a_X14_isAheadOf x3 x19 (r_d1 hd rfl) rx3 rx19 w t15 (fun x48 rx48 vx48 w => ?_))
                          refine r_fI (pc1 := 146) rfl ?_
                          have w := w rx48 vx48
                          obtain ⟨J50, j50, w⟩ := w
                          have Q50 : ∀ (x49 : Int), rg x49 → J50 x49 → RR sc goal fs 202 163 [some (rv 437), some (rv a1), some (.int (J x3)), some (.int (J x18)), some (.int (J x19)), d14, none] [.int (J x49)] h15 := by
                            intro x49 rx49 z50
                            have w := j50 x49 rx49 z50
                            refine r_istn (pc1 := 164) (ls1 := [some (rv 437), some (rv a1), some (.int (J x3)), some (.int (J x49)), some (.int (J x19)), d14, none]) rfl rfl rfl rfl ?_
                            refine r_inc (pc1 := 167) (g := fun zz => [some (rv 437), some (rv a1), some (.int (J x3)), some (.int (J x49)), some (.int (J zz)), d14, none]) rfl rfl rfl rfl (fun _ => rfl) (fun x51 ex51 rx51 => ?_)
                            have w := w x51 ex51 rx51
                            refine r_goto (t := 132) rfl rfl ?_
                            exact ih20  x49 x51  rx49 rx51 (Nat.lt_of_lt_of_le w.2 (Nat.le_of_lt_succ q20)) w.1
                          refine r_iz (t := 162) (pc1 := 149) rfl rfl rfl rx48 (fun c55 => ?_) (fun c55 => ?_)
                          · have w := w.1 c55
                            refine r_n (pc1 := 163) [.int (J x18)] _ rfl rfl ?_
                            exact Q50  x18  rx18 w
                          · have w := w.2 c55
                            refine r_n (pc1 := 150) [.int (J x18)] _ rfl rfl ?_
                            refine r_aldn (pc1 := 151) rfl rfl rfl ?_
                            refine r_n (pc1 := 153) [.int (J x19), rv a1, .int (J x18)] _ rfl rfl ?_
                            obtain ⟨c52, w⟩ := w
                            obtain ⟨c53, w⟩ := w
                            refine r_ial (pc1 := 154) rfl rfl t15 c52 rx19 c53.1 c53.2 ?_
                            refine r_n (pc1 := 155) [.int (J 1), .int (J (hI h15 a1 x19.toNat)), .int (J x18)] _ rfl rfl ?_
                            refine r_iadd (pc1 := 156) rfl rfl ?_
                            refine r_iq rfl rfl rfl rfl rfl rfl (xe_of (xa_i (xa_i xa_0)) rfl rfl) (r_d0 hd rfl) (a_J9_min_7cf53 x18 (wr ((hI h15 a1 x19.toNat) + 1)) (r_d1 hd rfl) rx18 (rgw _) w t15 (fun x54 rx54 w => ?_))
                            refine r_fI (pc1 := 159) rfl ?_
                            have w := w rx54
                            refine r_goto (t := 163) rfl rfl ?_
                            exact Q50  x54  rx54 w
                    exact Q20 _  24 x17  (rgk rfl) rx17 (Nat.lt_succ_self _) w
                  · have w := w.2 c83
                    refine r_n (pc1 := 50) [.int (J x3)] _ rfl rfl ?_
                    refine r_n (pc1 := 51) [.int (J 1), .int (J x3)] _ rfl rfl ?_
                    refine r_iadd (pc1 := 52) rfl rfl ?_
                    refine r_vI (rgw _) (fun x57 ex57 rx57 => ?_)
                    have w := w x57 ex57 rx57
                    refine r_ist (pc1 := 54) (ls1 := [some (rv 437), some (rv a1), some (.int (J x3)), some (.int (J x12)), some (.int (J x57)), d14, none]) rfl rfl rfl rfl ?_
                    obtain ⟨I61, m61, w, y61⟩ := w
                    have Q61 : ∀ (n : Nat) (d59 : Option Value) (x58 : Int) (h60 : XH), HT h60 → HX h h60 → rg x58 → m61 x58 h60 < n → I61 x58 h60 → RR sc goal fs 202 54 [some (rv 437), some (rv a1), some (.int (J x3)), some (.int (J x12)), some (.int (J x58)), d59, none] [] h60 := by
                      intro n
                      induction n with
                      | zero => intro d59 x58 h60 t60 s60 rx58 q61 _; exact absurd q61 (Nat.not_lt_zero _)
                      | succ n ih61 =>
                        intro d59 x58 h60 t60 s60 rx58 q61 z61
                        have w := y61 x58 h60 t60 s60 rx58 z61
                        refine r_n (pc1 := 56) [.int (J x58)] _ rfl rfl ?_
                        refine r_n (pc1 := 58) [.int (J 12), .int (J x58)] _ rfl rfl ?_
                        refine r_ic (t := 118) (pc1 := 61) rfl rfl rfl rx58 (rgk rfl) (fun c82 => ?_) (fun c82 => ?_)
                        · have w := w.1 c82
                          refine r_inc (pc1 := 121) (g := fun zz => [some (rv 437), some (rv a1), some (.int (J x3)), some (.int (J zz)), some (.int (J x58)), d59, none]) rfl rfl rfl rfl (fun _ => rfl) (fun x62 ex62 rx62 => ?_)
                          have w := w x62 ex62 rx62
                          refine r_goto (t := 43) rfl rfl ?_
                          exact ih16 _ _ x62 h60 t60 s60 rx62 (Nat.lt_of_lt_of_le w.2 (Nat.le_of_lt_succ q16)) w.1
                        · have w := w.2 c82
                          refine r_n (pc1 := 62) [.int (J x3)] _ rfl rfl ?_
                          refine r_ist (pc1 := 64) (ls1 := [some (rv 437), some (rv a1), some (.int (J x3)), some (.int (J x12)), some (.int (J x58)), some (.int (J x3)), none]) rfl rfl rfl rfl ?_
                          obtain ⟨I65, m65, w, y65⟩ := w
                          have Q65 : ∀ (n : Nat)  (x63 : Int) (h64 : XH), HT h64 → HX h h64 → rg x63 → m65 x63 h64 < n → I65 x63 h64 → RR sc goal fs 202 64 [some (rv 437), some (rv a1), some (.int (J x3)), some (.int (J x12)), some (.int (J x58)), some (.int (J x63)), none] [] h64 := by
                            intro n
                            induction n with
                            | zero => intro x63 h64 t64 s64 rx63 q65 _; exact absurd q65 (Nat.not_lt_zero _)
                            | succ n ih65 =>
                              intro x63 h64 t64 s64 rx63 q65 z65
                              have w := y65 x63 h64 t64 s64 rx63 z65
                              refine r_n (pc1 := 66) [.int (J x63)] _ rfl rfl ?_
                              refine r_n (pc1 := 68) [.int (J 12), .int (J x63)] _ rfl rfl ?_
                              refine r_ic (t := 112) (pc1 := 71) rfl rfl rfl rx63 (rgk rfl) (fun c81 => ?_) (fun c81 => ?_)
                              · have w := w.1 c81
                                refine r_inc (pc1 := 115) (g := fun zz => [some (rv 437), some (rv a1), some (.int (J x3)), some (.int (J x12)), some (.int (J zz)), some (.int (J x63)), none]) rfl rfl rfl rfl (fun _ => rfl) (fun x66 ex66 rx66 => ?_)
                                have w := w x66 ex66 rx66
                                refine r_goto (t := 54) rfl rfl ?_
                                exact ih61 _ x66 h64 t64 s64 rx66 (Nat.lt_of_lt_of_le w.2 (Nat.le_of_lt_succ q61)) w.1
                              · have w := w.2 c81
                                refine r_aldn (pc1 := 72) rfl rfl rfl ?_
                                refine r_n (pc1 := 74) [.int (J x58), rv a1] _ rfl rfl ?_
                                refine r_aldn (pc1 := 75) rfl rfl rfl ?_
                                refine r_n (pc1 := 77) [.int (J x58), rv 437, .int (J x58), rv a1] _ rfl rfl ?_
                                refine r_n (pc1 := 79) [.int (J x63), .int (J x58), rv 437, .int (J x58), rv a1] _ rfl rfl ?_
                                refine r_iv rfl rfl rfl rfl rfl rfl t64 (lyk t64 rfl) rfl (xe_of (xa_r (xa_i (xa_i xa_0))) rfl rfl) (r_d0 hd rfl) (a_X14_isAheadOf x58 x63 (r_d1 hd rfl) rx58 rx63 w t64 (fun x67 rx67 vx67 w => ?_))
                                refine r_fI (pc1 := 82) rfl ?_
                                have w := w rx67 vx67
                                obtain ⟨J69, j69, w⟩ := w
                                have Q69 : ∀ (x68 : Int), rg x68 → J69 x68 → RR sc goal fs 202 105 [some (rv 437), some (rv a1), some (.int (J x3)), some (.int (J x12)), some (.int (J x58)), some (.int (J x63)), none] [.int (J x68), .int (J x58), rv a1] h64 := by
                                  intro x68 rx68 z69
                                  have w := j69 x68 rx68 z69
                                  obtain ⟨c70, w⟩ := w
                                  obtain ⟨c71, w⟩ := w
                                  refine r_iast (pc1 := 106) rfl rfl t64 c70 rx58 c71.1 c71.2 (fun h72 eh72 t72 u72 => ?_)
                                  have w := w h72 eh72 t72 u72
                                  have s72 := HX_trans s64 u72
                                  refine r_inc (pc1 := 109) (g := fun zz => [some (rv 437), some (rv a1), some (.int (J x3)), some (.int (J x12)), some (.int (J x58)), some (.int (J zz)), none]) rfl rfl rfl rfl (fun _ => rfl) (fun x73 ex73 rx73 => ?_)
                                  have w := w x73 ex73 rx73
                                  refine r_goto (t := 64) rfl rfl ?_
                                  exact ih65  x73 h72 t72 s72 rx73 (Nat.lt_of_lt_of_le w.2 (Nat.le_of_lt_succ q65)) w.1
                                refine r_iz (t := 101) (pc1 := 85) rfl rfl rfl rx67 (fun c80 => ?_) (fun c80 => ?_)
                                · have w := w.1 c80
                                  refine r_aldn (pc1 := 102) rfl rfl rfl ?_
                                  refine r_n (pc1 := 104) [.int (J x58), rv a1, .int (J x58), rv a1] _ rfl rfl ?_
                                  obtain ⟨c74, w⟩ := w
                                  obtain ⟨c75, w⟩ := w
                                  refine r_ial (pc1 := 105) rfl rfl t64 c74 rx58 c75.1 c75.2 ?_
                                  exact Q69  (hI h64 a1 x58.toNat)  (rgh _ _ _) w
                                · have w := w.2 c80
                                  refine r_aldn (pc1 := 86) rfl rfl rfl ?_
                                  refine r_n (pc1 := 88) [.int (J x58), rv a1, .int (J x58), rv a1] _ rfl rfl ?_
                                  obtain ⟨c76, w⟩ := w
                                  obtain ⟨c77, w⟩ := w
                                  refine r_ial (pc1 := 89) rfl rfl t64 c76 rx58 c77.1 c77.2 ?_
                                  refine r_aldn (pc1 := 90) rfl rfl rfl ?_
                                  refine r_n (pc1 := 92) [.int (J x63), rv a1, .int (J (hI h64 a1 x58.toNat)), .int (J x58), rv a1] _ rfl rfl ?_
                                  obtain ⟨c78, w⟩ := w
                                  refine r_ial (pc1 := 93) rfl rfl t64 c76 rx63 c78.1 c78.2 ?_
                                  refine r_n (pc1 := 94) [.int (J 1), .int (J (hI h64 a1 x63.toNat)), .int (J (hI h64 a1 x58.toNat)), .int (J x58), rv a1] _ rfl rfl ?_
                                  refine r_iadd (pc1 := 95) rfl rfl ?_
                                  refine r_iq rfl rfl rfl rfl rfl rfl (xe_of (xa_i (xa_i xa_0)) rfl rfl) (r_d0 hd rfl) (a_J9_min_7cf53 (hI h64 a1 x58.toNat) (wr ((hI h64 a1 x63.toNat) + 1)) (r_d1 hd rfl) (rgh _ _ _) (rgw _) w t64 (fun x79 rx79 w => ?_))
                                  refine r_fI (pc1 := 98) rfl ?_
                                  have w := w rx79
                                  refine r_goto (t := 105) rfl rfl ?_
                                  exact Q69  x79  rx79 w
                          exact Q65 _  x3 h60 t60 s60 rx3 (Nat.lt_succ_self _) w
                    exact Q61 _ _ x57 h15 t15 s15 rx57 (Nat.lt_succ_self _) w
              exact Q16 _ _ _ 0 h10 t10 s10 (rgk rfl) (Nat.lt_succ_self _) w
            · have w := w.2 c91
              refine r_aldn (pc1 := 22) rfl rfl rfl ?_
              refine r_n (pc1 := 23) [.int (J x9), rv a1] _ rfl rfl ?_
              refine r_n (pc1 := 24) [.int (J x9), .int (J x9), rv a1] _ rfl rfl ?_
              refine r_n (pc1 := 25) [.int (J x3), .int (J x9), .int (J x9), rv a1] _ rfl rfl ?_
              obtain ⟨J85, j85, w⟩ := w
              have Q85 : ∀ (x84 : Int), rg x84 → J85 x84 → RR sc goal fs 202 34 [some (rv 437), some (rv a1), some (.int (J x3)), some (.int (J x9)), d5, d6, none] [.int (J x84), .int (J x9), rv a1] h10 := by
                intro x84 rx84 z85
                have w := j85 x84 rx84 z85
                obtain ⟨c86, w⟩ := w
                obtain ⟨c87, w⟩ := w
                refine r_iast (pc1 := 35) rfl rfl t10 c86 rx9 c87.1 c87.2 (fun h88 eh88 t88 u88 => ?_)
                have w := w h88 eh88 t88 u88
                have s88 := HX_trans s10 u88
                refine r_inc (pc1 := 38) (g := fun zz => [some (rv 437), some (rv a1), some (.int (J x3)), some (.int (J zz)), d5, d6, none]) rfl rfl rfl rfl (fun _ => rfl) (fun x89 ex89 rx89 => ?_)
                have w := w x89 ex89 rx89
                refine r_goto (t := 15) rfl rfl ?_
                exact ih11  x89 h88 t88 s88 rx89 (Nat.lt_of_lt_of_le w.2 (Nat.le_of_lt_succ q11)) w.1
              refine r_ic (t := 32) (pc1 := 28) rfl rfl rfl rx9 rx3 (fun c90 => ?_) (fun c90 => ?_)
              · have w := w.1 c90
                refine r_n (pc1 := 34) [.int (J 24), .int (J x9), rv a1] _ rfl rfl ?_
                exact Q85  24  (rgk rfl) w
              · have w := w.2 c90
                refine r_n (pc1 := 29) [.int (J 0), .int (J x9), rv a1] _ rfl rfl ?_
                refine r_goto (t := 34) rfl rfl ?_
                exact Q85  0  (rgk rfl) w
        exact Q11 _  0 h7 t7 s7 (rgk rfl) (Nat.lt_succ_self _) w
  exact Q8 _ _ _ _ 0 h2 t2 s2 (rgk rfl) (Nat.lt_succ_self _) w
