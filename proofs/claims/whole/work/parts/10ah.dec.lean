/-! printed by dec.py: what each method wants, and that the machine keeps it -/ 
def w_L_fails (p1 : Int) (p2 : Int) (p3 : Int) (K : Int → XH → Prop) (h : XH) : Prop :=
  (w_X12_fails p1 p2 p3 (fun x1 h2 => HT h2 → HX h h2 → rg x1 → (x1 = 0 ∨ x1 = 1) → (∃ J6 : BitVec 64 → Prop, (∀ (b5 : BitVec 64), J6 b5 → (∀ h7 : XH, h7 = sL h2 467 0 b5 → HT h7 → HX h2 h7 → (K 0 h7))) ∧ ((x1 = 0 → (J6 (0#64))) ∧ (¬ (x1 = 0) → (J6 (1#64)))))) (fun y4 h3 => ((y4 = 2 ∧ K 1 h3))) h)
set_option maxHeartbeats 4000000 in
theorem a_L_fails {sc : Nat × (Nat → Int32)} {goal : XO → XH → Prop} {fs : List XF} {h : XH} (p1 : Int) (p2 : Int) (p3 : Int) {K : Int → XH → Prop} (hd : fs.length + 5 ≤ 1000) (rp1 : rg p1) (rp2 : rg p2) (rp3 : rg p3) (w : w_L_fails p1 p2 p3 K h) (t0 : HT h) (k : ∀ (r : Int) (h1 : XH), HT h1 → HX h h1 → rg r → K r h1 → XFin xP sc goal fs (.inl (some (.int (J r)))) h1) : RR sc goal fs 33 0 [some (rv 2), some (.int (J p1)), some (.int (J p2)), some (.int (J p3)), some (rv 467), none] [] h := by
  unfold w_L_fails at w
  refine r_ald (pc1 := 2) rfl rfl rfl ?_
  refine r_n (pc1 := 3) [.int (J 0), rv 467] _ rfl rfl ?_
  refine r_aldn (pc1 := 4) rfl rfl rfl ?_
  refine r_n (pc1 := 5) [.int (J p1), rv 2, .int (J 0), rv 467] _ rfl rfl ?_
  refine r_n (pc1 := 6) [.int (J p2), .int (J p1), rv 2, .int (J 0), rv 467] _ rfl rfl ?_
  refine r_n (pc1 := 7) [.int (J p3), .int (J p2), .int (J p1), rv 2, .int (J 0), rv 467] _ rfl rfl ?_
  refine r_iv rfl rfl rfl rfl rfl rfl t0 (lyk t0 rfl) rfl (xe_of (xa_r (xa_i (xa_i (xa_i xa_0)))) rfl rfl) (r_d0 hd rfl) (a_X12_fails p1 p2 p3 (r_d1 hd rfl) rp1 rp2 rp3 w t0 (fun x1 h2 t2 u2 rx1 vx1 w => ?_) (fun y4 h3 ty uy w => ?_))
  · refine r_fI (pc1 := 10) rfl ?_
    have s2 := HX_trans (HX_refl h) u2
    have w := w t2 u2
    have w := w rx1 vx1
    obtain ⟨J6, j6, w⟩ := w
    have Q6 : ∀ (b5 : BitVec 64), J6 b5 → RR sc goal fs 33 18 [some (rv 2), some (.int (J p1)), some (.int (J p2)), some (.int (J p3)), some (rv 467), none] [.long (G b5), .int (J 0), rv 467] h2 := by
      intro b5 z6
      have w := j6 b5 z6
      refine r_last (pc1 := 19) rfl rfl t2 (lyk t2 rfl) (rgk rfl) (by decide) (lt_len (lyn t2 rfl) (by decide)) (fun h7 eh7 t7 u7 => ?_)
      have w := w h7 eh7 t7 u7
      have s7 := HX_trans s2 u7
      refine r_goto (t := 26) rfl rfl ?_
      refine r_n (pc1 := 27) [.int (J 0)] _ rfl rfl ?_
      exact r_retI rfl rfl rfl (k _ _ t7 s7 (rgk rfl) w)
    refine r_iz (t := 17) (pc1 := 13) rfl rfl rfl rx1 (fun c8 => ?_) (fun c8 => ?_)
    · have w := w.1 c8
      refine r_n (pc1 := 18) [.long (G (0#64)), .int (J 0), rv 467] _ rfl rfl ?_
      exact Q6  (0#64)   w
    · have w := w.2 c8
      refine r_n (pc1 := 14) [.long (G (1#64)), .int (J 0), rv 467] _ rfl rfl ?_
      refine r_goto (t := 18) rfl rfl ?_
      exact Q6  (1#64)   w
  · obtain ⟨rfl, w⟩ := w
    exact r_fink (z := 1) rfl (by decide) rfl rfl (k _ _ ty (HX_trans (HX_refl h) uy) (rgk rfl) w)
def w_X12_failure (p0 : Int) (K : Int → Prop) (E : Nat → XH → Prop) (h : XH) : Prop :=
  (((p0 < 0 ∨ 2 < p0 → (E 1 (nT h))) ∧ (p0 = 0 → (w_X11_atHand (fun a2 => (hk h a2 = 7 ∧ K (hI h a2 9))) h)) ∧ (p0 = 1 → (w_X11_atHand (fun a4 => (hk h a4 = 7 ∧ K (hI h a4 10))) h)) ∧ (p0 = 2 → (w_X11_atHand (fun a6 => (hk h a6 = 7 ∧ K (hI h a6 11))) h))))
set_option maxHeartbeats 4000000 in
theorem a_X12_failure {sc : Nat × (Nat → Int32)} {goal : XO → XH → Prop} {fs : List XF} {h : XH} (p0 : Int) {K : Int → Prop} {E : Nat → XH → Prop} (hd : fs.length + 2 ≤ 1000) (rp0 : rg p0) (w : w_X12_failure p0 K E h) (t0 : HT h) (k : ∀ (r : Int), rg r → K r → XFin xP sc goal fs (.inl (some (.int (J r)))) h) (kE : ∀ (x : Nat) (h1 : XH), HT h1 → HX h h1 → E x h1 → XFin xP sc goal fs (.inr x) h1) : RR sc goal fs 105 0 [some (rv 2), some (.int (J p0))] [] h := by
  unfold w_X12_failure at w
  refine r_n (pc1 := 1) [.int (J p0)] _ rfl rfl ?_
  refine r_tsw (t0 := 61) rfl rp0 rfl rfl (fun c1 => ?_) ?_
  · have w := w.1 c1
    exact r_thr rfl rfl rfl rfl rfl rfl (kE _ _ (HT_nT t0).1 (HX_trans (HX_refl h) (HT_nT t0).2) w)
  have w := w.2
  refine ⟨fun c1 => ⟨28, rfl, ?_⟩, ⟨fun c1 => ⟨39, rfl, ?_⟩, ⟨fun c1 => ⟨50, rfl, ?_⟩, trivial⟩⟩⟩
  · have w := w.1 c1
    refine r_aldn (pc1 := 29) rfl rfl rfl ?_
    refine r_gfC (pc1 := 32) (q := 8) rfl rfl rfl t0 (lyk t0 rfl) rfl rfl (lyR t0 rfl rfl) ?_
    refine r_iv rfl rfl rfl rfl rfl rfl t0 (lyk t0 rfl) rfl (xe_of (xa_r xa_0) rfl rfl) (r_d0 hd rfl) (a_X11_atHand  (r_d1 hd rfl)  w t0 (fun a2 w => ?_))
    refine r_fR (pc1 := 35) rfl ?_
    obtain ⟨c3, w⟩ := w
    refine r_gfI (pc1 := 38) rfl rfl rfl t0 c3 rfl rfl ?_
    exact r_retI rfl rfl rfl (k _ (rgh _ _ _) w)
  · have w := w.2.1 c1
    refine r_aldn (pc1 := 40) rfl rfl rfl ?_
    refine r_gfC (pc1 := 43) (q := 8) rfl rfl rfl t0 (lyk t0 rfl) rfl rfl (lyR t0 rfl rfl) ?_
    refine r_iv rfl rfl rfl rfl rfl rfl t0 (lyk t0 rfl) rfl (xe_of (xa_r xa_0) rfl rfl) (r_d0 hd rfl) (a_X11_atHand  (r_d1 hd rfl)  w t0 (fun a4 w => ?_))
    refine r_fR (pc1 := 46) rfl ?_
    obtain ⟨c5, w⟩ := w
    refine r_gfI (pc1 := 49) rfl rfl rfl t0 c5 rfl rfl ?_
    exact r_retI rfl rfl rfl (k _ (rgh _ _ _) w)
  · have w := w.2.2 c1
    refine r_aldn (pc1 := 51) rfl rfl rfl ?_
    refine r_gfC (pc1 := 54) (q := 8) rfl rfl rfl t0 (lyk t0 rfl) rfl rfl (lyR t0 rfl rfl) ?_
    refine r_iv rfl rfl rfl rfl rfl rfl t0 (lyk t0 rfl) rfl (xe_of (xa_r xa_0) rfl rfl) (r_d0 hd rfl) (a_X11_atHand  (r_d1 hd rfl)  w t0 (fun a6 w => ?_))
    refine r_fR (pc1 := 57) rfl ?_
    obtain ⟨c7, w⟩ := w
    refine r_gfI (pc1 := 60) rfl rfl rfl t0 c7 rfl rfl ?_
    exact r_retI rfl rfl rfl (k _ (rgh _ _ _) w)
def w_L_failure (p1 : Int) (K : Int → XH → Prop) (h : XH) : Prop :=
  (w_X12_failure p1 (fun x1 => rg x1 → (∀ h4 : XH, h4 = sL h 467 0 (i2l x1) → HT h4 → HX h h4 → (K 0 h4))) (fun y3 h2 => ((y3 = 1 ∧ K 1 h2))) h)
set_option maxHeartbeats 4000000 in
theorem a_L_failure {sc : Nat × (Nat → Int32)} {goal : XO → XH → Prop} {fs : List XF} {h : XH} (p1 : Int) {K : Int → XH → Prop} (hd : fs.length + 3 ≤ 1000) (rp1 : rg p1) (w : w_L_failure p1 K h) (t0 : HT h) (k : ∀ (r : Int) (h1 : XH), HT h1 → HX h h1 → rg r → K r h1 → XFin xP sc goal fs (.inl (some (.int (J r)))) h1) : RR sc goal fs 34 0 [some (rv 2), some (.int (J p1)), some (rv 467), none] [] h := by
  unfold w_L_failure at w
  refine r_aldn (pc1 := 1) rfl rfl rfl ?_
  refine r_n (pc1 := 2) [.int (J 0), rv 467] _ rfl rfl ?_
  refine r_aldn (pc1 := 3) rfl rfl rfl ?_
  refine r_n (pc1 := 4) [.int (J p1), rv 2, .int (J 0), rv 467] _ rfl rfl ?_
  refine r_iv rfl rfl rfl rfl rfl rfl t0 (lyk t0 rfl) rfl (xe_of (xa_r (xa_i xa_0)) rfl rfl) (r_d0 hd rfl) (a_X12_failure p1 (r_d1 hd rfl) rp1 w t0 (fun x1 rx1 w => ?_) (fun y3 h2 ty uy w => ?_))
  · refine r_fI (pc1 := 7) rfl ?_
    have w := w rx1
    refine r_i2l (pc1 := 8) rfl rfl ?_
    refine r_last (pc1 := 9) rfl rfl t0 (lyk t0 rfl) (rgk rfl) (by decide) (lt_len (lyn t0 rfl) (by decide)) (fun h4 eh4 t4 u4 => ?_)
    have w := w h4 eh4 t4 u4
    have s4 := HX_trans (HX_refl h) u4
    refine r_goto (t := 15) rfl rfl ?_
    refine r_n (pc1 := 16) [.int (J 0)] _ rfl rfl ?_
    exact r_retI rfl rfl rfl (k _ _ t4 s4 (rgk rfl) w)
  · obtain ⟨rfl, w⟩ := w
    exact r_fink (z := 1) rfl (by decide) rfl rfl (k _ _ ty (HX_trans (HX_refl h) uy) (rgk rfl) w)
def w_X12_far (p0 : Int) (K : Int → XH → Prop) (E : Nat → XH → Prop) (h : XH) : Prop :=
  (w_X12_checkPack p0 ((w_X12_knowMet (fun h1 => HT h1 → HX h h1 → (w_X11_atHand (fun a2 => (hk h1 a2 = 7 ∧ w_X2_reach (hL h1 a2 5) (fun h4 => HT h4 → HX h1 h4 → ((0 ≤ p0 ∧ p0 < 12) ∧ K (hI h4 84 p0.toNat) h4)) h1)) h1)) h)) E h)
set_option maxHeartbeats 4000000 in
theorem a_X12_far {sc : Nat × (Nat → Int32)} {goal : XO → XH → Prop} {fs : List XF} {h : XH} (p0 : Int) {K : Int → XH → Prop} {E : Nat → XH → Prop} (hd : fs.length + 6 ≤ 1000) (rp0 : rg p0) (w : w_X12_far p0 K E h) (t0 : HT h) (k : ∀ (r : Int) (h1 : XH), HT h1 → HX h h1 → rg r → K r h1 → XFin xP sc goal fs (.inl (some (.int (J r)))) h1) (kE : ∀ (x : Nat) (h1 : XH), HT h1 → HX h h1 → E x h1 → XFin xP sc goal fs (.inr x) h1) : RR sc goal fs 106 0 [some (rv 2), some (.int (J p0))] [] h := by
  unfold w_X12_far at w
  refine r_aldn (pc1 := 1) rfl rfl rfl ?_
  refine r_n (pc1 := 2) [.int (J p0), rv 2] _ rfl rfl ?_
  refine r_iv rfl rfl rfl rfl rfl rfl t0 (lyk t0 rfl) rfl (xe_of (xa_r (xa_i xa_0)) rfl rfl) (r_d0 hd rfl) (a_X12_checkPack p0 (r_d1 hd rfl) rp0 w t0 (fun w => ?_) (fun x y ty uy w => r_finx rfl rfl (kE x y ty (HX_trans (HX_refl h) uy) w)))
  refine r_fV (pc1 := 5) rfl ?_
  refine r_aldn (pc1 := 6) rfl rfl rfl ?_
  refine r_iv rfl rfl rfl rfl rfl rfl t0 (lyk t0 rfl) rfl (xe_of (xa_r xa_0) rfl rfl) (r_d0 hd rfl) (a_X12_knowMet  (r_d1 hd rfl)  w t0 (fun h1 t1 u1 w => ?_))
  refine r_fV (pc1 := 9) rfl ?_
  have s1 := HX_trans (HX_refl h) u1
  have w := w t1 u1
  refine r_aldn (pc1 := 10) rfl rfl rfl ?_
  refine r_gfC (pc1 := 13) (q := 79) rfl rfl rfl t1 (lyk t1 rfl) rfl rfl (lyR t1 rfl rfl) ?_
  refine r_aldn (pc1 := 14) rfl rfl rfl ?_
  refine r_gfC (pc1 := 17) (q := 8) rfl rfl rfl t1 (lyk t1 rfl) rfl rfl (lyR t1 rfl rfl) ?_
  refine r_iv rfl rfl rfl rfl rfl rfl t1 (lyk t1 rfl) rfl (xe_of (xa_r xa_0) rfl rfl) (r_d0 hd rfl) (a_X11_atHand  (r_d1 hd rfl)  w t1 (fun a2 w => ?_))
  refine r_fR (pc1 := 20) rfl ?_
  obtain ⟨c3, w⟩ := w
  refine r_gfL (pc1 := 23) rfl rfl rfl t1 c3 rfl rfl ?_
  refine r_iv rfl rfl rfl rfl rfl rfl t1 (lyk t1 rfl) rfl (xe_of (xa_r (xa_l xa_0)) rfl rfl) (r_d0 hd rfl) (a_X2_reach (hL h1 a2 5) (r_d1 hd rfl)  w t1 (fun h4 t4 u4 w => ?_))
  refine r_fV (pc1 := 26) rfl ?_
  have s4 := HX_trans s1 u4
  have w := w t4 u4
  refine r_aldn (pc1 := 27) rfl rfl rfl ?_
  refine r_gfC (pc1 := 30) (q := 79) rfl rfl rfl t4 (lyk t4 rfl) rfl rfl (lyR t4 rfl rfl) ?_
  refine r_gfC (pc1 := 33) (q := 84) rfl rfl rfl t4 (lyk t4 rfl) rfl rfl (lyR t4 rfl rfl) ?_
  refine r_n (pc1 := 34) [.int (J p0), rv 84] _ rfl rfl ?_
  obtain ⟨c5, w⟩ := w
  refine r_ial (pc1 := 35) rfl rfl t4 (lyk t4 rfl) rp0 c5.1 (lt_len (lyn t4 rfl) c5.2) ?_
  exact r_retI rfl rfl rfl (k _ _ t4 s4 (rgh _ _ _) w)
def w_L_far (p1 : Int) (K : Int → XH → Prop) (h : XH) : Prop :=
  (w_X12_far p1 (fun x1 h2 => HT h2 → HX h h2 → rg x1 → (∀ h5 : XH, h5 = sL h2 467 0 (i2l x1) → HT h5 → HX h2 h5 → (K 0 h5))) (fun y4 h3 => ((y4 = 2 ∧ K 1 h3))) h)
set_option maxHeartbeats 4000000 in
theorem a_L_far {sc : Nat × (Nat → Int32)} {goal : XO → XH → Prop} {fs : List XF} {h : XH} (p1 : Int) {K : Int → XH → Prop} (hd : fs.length + 7 ≤ 1000) (rp1 : rg p1) (w : w_L_far p1 K h) (t0 : HT h) (k : ∀ (r : Int) (h1 : XH), HT h1 → HX h h1 → rg r → K r h1 → XFin xP sc goal fs (.inl (some (.int (J r)))) h1) : RR sc goal fs 35 0 [some (rv 2), some (.int (J p1)), some (rv 467), none] [] h := by
  unfold w_L_far at w
  refine r_aldn (pc1 := 1) rfl rfl rfl ?_
  refine r_n (pc1 := 2) [.int (J 0), rv 467] _ rfl rfl ?_
  refine r_aldn (pc1 := 3) rfl rfl rfl ?_
  refine r_n (pc1 := 4) [.int (J p1), rv 2, .int (J 0), rv 467] _ rfl rfl ?_
  refine r_iv rfl rfl rfl rfl rfl rfl t0 (lyk t0 rfl) rfl (xe_of (xa_r (xa_i xa_0)) rfl rfl) (r_d0 hd rfl) (a_X12_far p1 (r_d1 hd rfl) rp1 w t0 (fun x1 h2 t2 u2 rx1 w => ?_) (fun y4 h3 ty uy w => ?_))
  · refine r_fI (pc1 := 7) rfl ?_
    have s2 := HX_trans (HX_refl h) u2
    have w := w t2 u2
    have w := w rx1
    refine r_i2l (pc1 := 8) rfl rfl ?_
    refine r_last (pc1 := 9) rfl rfl t2 (lyk t2 rfl) (rgk rfl) (by decide) (lt_len (lyn t2 rfl) (by decide)) (fun h5 eh5 t5 u5 => ?_)
    have w := w h5 eh5 t5 u5
    have s5 := HX_trans s2 u5
    refine r_goto (t := 15) rfl rfl ?_
    refine r_n (pc1 := 16) [.int (J 0)] _ rfl rfl ?_
    exact r_retI rfl rfl rfl (k _ _ t5 s5 (rgk rfl) w)
  · obtain ⟨rfl, w⟩ := w
    exact r_fink (z := 1) rfl (by decide) rfl rfl (k _ _ ty (HX_trans (HX_refl h) uy) (rgk rfl) w)
def w_X2_aheadOf (p0 : Int) (p1 : BitVec 64) (K : Int → Prop) (h : XH) : Prop :=
  (w_X8_idIn p1 p0 (fun x1 => rg x1 → ((∃ (I4 : BitVec 64 → Int → Prop) (m4 : BitVec 64 → Int → Nat), I4 (0#64) 0 ∧ ∀ (b2 : BitVec 64) (x3 : Int), rg x3 → I4 b2 x3 → (∃ J5 : Prop, (J5 → (w_X2_packsWith (b2 &&& p1) (fun x6 => rg x6 → (K (iand x6 (ixor (ishl 1 p0) (-1))))) h)) ∧ ((x1 = (-1) → J5) ∧ (¬ (x1 = (-1)) → ((0 ≤ x1 ∧ x1 < 40) ∧ ((hI h 18 x1.toNat ≤ x3 → J5) ∧ (¬ (hI h 18 x1.toNat ≤ x3) → (∀ x8 : Int, x8 = wr ((wr (x1 * 3)) + x3) → rg x8 → (0 ≤ x8 ∧ x8 < 120) ∧ ∃ J11 : BitVec 64 → Prop, (∀ (b10 : BitVec 64), J11 b10 → (∀ b12 : BitVec 64, b12 = b2 ||| b10 → ∀ x13 : Int, x13 = wr (x3 + 1) → rg x13 → (I4 b12 x13 ∧ m4 b12 x13 < m4 b2 x3))) ∧ ((hI h 20 x8.toNat = 0 → (J11 (0#64))) ∧ (¬ (hI h 20 x8.toNat = 0) → (∀ x14 : Int, x14 = wr ((wr (x1 * 3)) + x3) → rg x14 → (0 ≤ x14 ∧ x14 < 120) ∧ J11 (hL h 45 x14.toNat)))))))))))))) h)
set_option maxHeartbeats 4000000 in
theorem a_X2_aheadOf {sc : Nat × (Nat → Int32)} {goal : XO → XH → Prop} {fs : List XF} {h : XH} (p0 : Int) (p1 : BitVec 64) {K : Int → Prop} (hd : fs.length + 2 ≤ 1000) (rp0 : rg p0) (w : w_X2_aheadOf p0 p1 K h) (t0 : HT h) (k : ∀ (r : Int), rg r → K r → XFin xP sc goal fs (.inl (some (.int (J r)))) h) : RR sc goal fs 339 0 [some (rv 79), some (.int (J p0)), some (.long (G p1)), none, none, none, none, none] [] h := by
  unfold w_X2_aheadOf at w
  refine r_aldn (pc1 := 1) rfl rfl rfl ?_
  refine r_gfC (pc1 := 4) (q := 9) rfl rfl rfl t0 (lyk t0 rfl) rfl rfl (lyR t0 rfl rfl) ?_
  refine r_n (pc1 := 5) [.long (G p1), rv 9] _ rfl rfl ?_
  refine r_n (pc1 := 6) [.int (J p0), .long (G p1), rv 9] _ rfl rfl ?_
  refine r_iv rfl rfl rfl rfl rfl rfl t0 (lyk t0 rfl) rfl (xe_of (xa_r (xa_l (xa_i xa_0))) rfl rfl) (r_d0 hd rfl) (a_X8_idIn p1 p0 (r_d1 hd rfl) rp0 w t0 (fun x1 rx1 w => ?_))
  refine r_fI (pc1 := 9) rfl ?_
  have w := w rx1
  refine r_ist (pc1 := 11) (ls1 := [some (rv 79), some (.int (J p0)), some (.long (G p1)), none, some (.int (J x1)), none, none, none]) rfl rfl rfl rfl ?_
  refine r_n (pc1 := 12) [.long (G (0#64))] _ rfl rfl ?_
  refine r_lst (pc1 := 14) (ls1 := [some (rv 79), some (.int (J p0)), some (.long (G p1)), none, some (.int (J x1)), some (.long (G (0#64))), none, none]) rfl rfl rfl rfl ?_
  refine r_n (pc1 := 15) [.int (J 0)] _ rfl rfl ?_
  refine r_ist (pc1 := 17) (ls1 := [some (rv 79), some (.int (J p0)), some (.long (G p1)), none, some (.int (J x1)), some (.long (G (0#64))), none, some (.int (J 0))]) rfl rfl rfl rfl ?_
  obtain ⟨I4, m4, w, y4⟩ := w
  have Q4 : ∀ (n : Nat)  (b2 : BitVec 64) (x3 : Int), rg x3 → m4 b2 x3 < n → I4 b2 x3 → RR sc goal fs 339 17 [some (rv 79), some (.int (J p0)), some (.long (G p1)), none, some (.int (J x1)), some (.long (G b2)), none, some (.int (J x3))] [] h := by
    intro n
    induction n with
    | zero => intro b2 x3 rx3 q4 _; exact absurd q4 (Nat.not_lt_zero _)
    | succ n ih4 =>
      intro b2 x3 rx3 q4 z4
      have w := y4 b2 x3 rx3 z4
      refine r_n (pc1 := 19) [.int (J x1)] _ rfl rfl ?_
      refine r_n (pc1 := 20) [.int (J (-1)), .int (J x1)] _ rfl rfl ?_
      obtain ⟨J5, j5, w⟩ := w
      have Q5 : J5 → RR sc goal fs 339 86 [some (rv 79), some (.int (J p0)), some (.long (G p1)), none, some (.int (J x1)), some (.long (G b2)), none, some (.int (J x3))] [] h := by
        intro z5
        have w := j5 z5
        refine r_aldn (pc1 := 87) rfl rfl rfl ?_
        refine r_n (pc1 := 89) [.long (G b2), rv 79] _ rfl rfl ?_
        refine r_n (pc1 := 90) [.long (G p1), .long (G b2), rv 79] _ rfl rfl ?_
        refine r_land (pc1 := 91) rfl rfl ?_
        refine r_iv rfl rfl rfl rfl rfl rfl t0 (lyk t0 rfl) rfl (xe_of (xa_r (xa_l xa_0)) rfl rfl) (r_d0 hd rfl) (a_X2_packsWith (b2 &&& p1) (r_d1 hd rfl)  w t0 (fun x6 rx6 w => ?_))
        refine r_fI (pc1 := 94) rfl ?_
        have w := w rx6
        refine r_n (pc1 := 95) [.int (J 1), .int (J x6)] _ rfl rfl ?_
        refine r_n (pc1 := 96) [.int (J p0), .int (J 1), .int (J x6)] _ rfl rfl ?_
        refine r_ishl (pc1 := 97) rfl rfl ?_
        refine r_n (pc1 := 98) [.int (J (-1)), .int (J (ishl 1 p0)), .int (J x6)] _ rfl rfl ?_
        refine r_ixor (pc1 := 99) rfl rfl ?_
        refine r_iand (pc1 := 100) rfl rfl ?_
        exact r_retI rfl rfl rfl (k _ (rgt _) w)
      refine r_ic (t := 86) (pc1 := 23) rfl rfl rfl rx1 (rgk rfl) (fun c18 => ?_) (fun c18 => ?_)
      · have w := w.1 c18
        exact Q5     w
      · have w := w.2 c18
        refine r_n (pc1 := 25) [.int (J x3)] _ rfl rfl ?_
        refine r_aldn (pc1 := 26) rfl rfl rfl ?_
        refine r_gfC (pc1 := 29) (q := 9) rfl rfl rfl t0 (lyk t0 rfl) rfl rfl (lyR t0 rfl rfl) ?_
        refine r_gfC (pc1 := 32) (q := 18) rfl rfl rfl t0 (lyk t0 rfl) rfl rfl (lyR t0 rfl rfl) ?_
        refine r_n (pc1 := 34) [.int (J x1), rv 18, .int (J x3)] _ rfl rfl ?_
        obtain ⟨c7, w⟩ := w
        refine r_ial (pc1 := 35) rfl rfl t0 (lyk t0 rfl) rx1 c7.1 (lt_len (lyn t0 rfl) c7.2) ?_
        refine r_ic (t := 86) (pc1 := 38) rfl rfl rfl rx3 (rgh _ _ _) (fun c17 => ?_) (fun c17 => ?_)
        · have w := w.1 c17
          exact Q5     w
        · have w := w.2 c17
          refine r_n (pc1 := 40) [.long (G b2)] _ rfl rfl ?_
          refine r_aldn (pc1 := 41) rfl rfl rfl ?_
          refine r_gfC (pc1 := 44) (q := 9) rfl rfl rfl t0 (lyk t0 rfl) rfl rfl (lyR t0 rfl rfl) ?_
          refine r_gfC (pc1 := 47) (q := 20) rfl rfl rfl t0 (lyk t0 rfl) rfl rfl (lyR t0 rfl rfl) ?_
          refine r_n (pc1 := 49) [.int (J x1), rv 20, .long (G b2)] _ rfl rfl ?_
          refine r_n (pc1 := 50) [.int (J 3), .int (J x1), rv 20, .long (G b2)] _ rfl rfl ?_
          refine r_imul (pc1 := 51) rfl rfl ?_
          refine r_n (pc1 := 53) [.int (J x3), .int (J (wr (x1 * 3))), rv 20, .long (G b2)] _ rfl rfl ?_
          refine r_iadd (pc1 := 54) rfl rfl ?_
          refine r_vI (rgw _) (fun x8 ex8 rx8 => ?_)
          have w := w x8 ex8 rx8
          obtain ⟨c9, w⟩ := w
          refine r_bal (pc1 := 55) rfl rfl t0 (lyk t0 rfl) rx8 c9.1 (lt_len (lyn t0 rfl) c9.2) ?_
          obtain ⟨J11, j11, w⟩ := w
          have Q11 : ∀ (b10 : BitVec 64), J11 b10 → RR sc goal fs 339 77 [some (rv 79), some (.int (J p0)), some (.long (G p1)), none, some (.int (J x1)), some (.long (G b2)), none, some (.int (J x3))] [.long (G b10), .long (G b2)] h := by
            intro b10 z11
            have w := j11 b10 z11
            refine r_lor (pc1 := 78) rfl rfl ?_
            refine r_vL (fun b12 eb12 => ?_)
            have w := w b12 eb12
            refine r_lst (pc1 := 80) (ls1 := [some (rv 79), some (.int (J p0)), some (.long (G p1)), none, some (.int (J x1)), some (.long (G b12)), none, some (.int (J x3))]) rfl rfl rfl rfl ?_
            refine r_inc (pc1 := 83) (g := fun zz => [some (rv 79), some (.int (J p0)), some (.long (G p1)), none, some (.int (J x1)), some (.long (G b12)), none, some (.int (J zz))]) rfl rfl rfl rfl (fun _ => rfl) (fun x13 ex13 rx13 => ?_)
            have w := w x13 ex13 rx13
            refine r_goto (t := 17) rfl rfl ?_
            exact ih4  b12 x13  rx13 (Nat.lt_of_lt_of_le w.2 (Nat.le_of_lt_succ q4)) w.1
          refine r_iz (t := 76) (pc1 := 58) rfl rfl rfl (rgh _ _ _) (fun c16 => ?_) (fun c16 => ?_)
          · have w := w.1 c16
            refine r_n (pc1 := 77) [.long (G (0#64)), .long (G b2)] _ rfl rfl ?_
            exact Q11  (0#64)   w
          · have w := w.2 c16
            refine r_aldn (pc1 := 59) rfl rfl rfl ?_
            refine r_gfC (pc1 := 62) (q := 44) rfl rfl rfl t0 (lyk t0 rfl) rfl rfl (lyR t0 rfl rfl) ?_
            refine r_gfC (pc1 := 65) (q := 45) rfl rfl rfl t0 (lyk t0 rfl) rfl rfl (lyR t0 rfl rfl) ?_
            refine r_n (pc1 := 67) [.int (J x1), rv 45, .long (G b2)] _ rfl rfl ?_
            refine r_n (pc1 := 68) [.int (J 3), .int (J x1), rv 45, .long (G b2)] _ rfl rfl ?_
            refine r_imul (pc1 := 69) rfl rfl ?_
            refine r_n (pc1 := 71) [.int (J x3), .int (J (wr (x1 * 3))), rv 45, .long (G b2)] _ rfl rfl ?_
            refine r_iadd (pc1 := 72) rfl rfl ?_
            refine r_vI (rgw _) (fun x14 ex14 rx14 => ?_)
            have w := w x14 ex14 rx14
            obtain ⟨c15, w⟩ := w
            refine r_lal (pc1 := 73) rfl rfl t0 (lyk t0 rfl) rx14 c15.1 (lt_len (lyn t0 rfl) c15.2) ?_
            refine r_goto (t := 77) rfl rfl ?_
            exact Q11  (hL h 45 x14.toNat)   w
  exact Q4 _  (0#64) 0  (rgk rfl) (Nat.lt_succ_self _) w
def w_X2_firstFree (p0 : Int) (K : Int → Prop) (h : XH) : Prop :=
  ((∃ (I2 : Int → Prop) (m2 : Int → Nat), I2 0 ∧ ∀ (x1 : Int), rg x1 → I2 x1 → (((hI h 9 0 ≤ x1 → (K (-1))) ∧ (¬ (hI h 9 0 ≤ x1) → (∃ J3 : Prop, (J3 → (∀ x4 : Int, x4 = wr (x1 + 1) → rg x4 → (I2 x4 ∧ m2 x4 < m2 x1))) ∧ ((iand (ishr p0 x1) 1 = 0 → J3) ∧ (¬ (iand (ishr p0 x1) 1 = 0) → ((0 ≤ x1 ∧ x1 < 12) ∧ ((¬ iand (hI h 80 x1.toNat) p0 = 0 → J3) ∧ (¬ (¬ iand (hI h 80 x1.toNat) p0 = 0) → (K x1))))))))))))
set_option maxHeartbeats 4000000 in
theorem a_X2_firstFree {sc : Nat × (Nat → Int32)} {goal : XO → XH → Prop} {fs : List XF} {h : XH} (p0 : Int) {K : Int → Prop} (hd : fs.length + 0 ≤ 1000) (rp0 : rg p0) (w : w_X2_firstFree p0 K h) (t0 : HT h) (k : ∀ (r : Int), rg r → K r → XFin xP sc goal fs (.inl (some (.int (J r)))) h) : RR sc goal fs 347 0 [some (rv 79), some (.int (J p0)), none] [] h := by
  unfold w_X2_firstFree at w
  refine r_n (pc1 := 1) [.int (J 0)] _ rfl rfl ?_
  refine r_istn (pc1 := 2) (ls1 := [some (rv 79), some (.int (J p0)), some (.int (J 0))]) rfl rfl rfl rfl ?_
  obtain ⟨I2, m2, w, y2⟩ := w
  have Q2 : ∀ (n : Nat)  (x1 : Int), rg x1 → m2 x1 < n → I2 x1 → RR sc goal fs 347 2 [some (rv 79), some (.int (J p0)), some (.int (J x1))] [] h := by
    intro n
    induction n with
    | zero => intro x1 rx1 q2 _; exact absurd q2 (Nat.not_lt_zero _)
    | succ n ih2 =>
      intro x1 rx1 q2 z2
      have w := y2 x1 rx1 z2
      refine r_n (pc1 := 3) [.int (J x1)] _ rfl rfl ?_
      refine r_aldn (pc1 := 4) rfl rfl rfl ?_
      refine r_gfC (pc1 := 7) (q := 9) rfl rfl rfl t0 (lyk t0 rfl) rfl rfl (lyR t0 rfl rfl) ?_
      refine r_gfI (pc1 := 10) rfl rfl rfl t0 (lyk t0 rfl) rfl rfl ?_
      refine r_ic (t := 40) (pc1 := 13) rfl rfl rfl rx1 (rgh _ _ _) (fun c8 => ?_) (fun c8 => ?_)
      · have w := w.1 c8
        refine r_n (pc1 := 41) [.int (J (-1))] _ rfl rfl ?_
        exact r_retI rfl rfl rfl (k _ (rgk rfl) w)
      · have w := w.2 c8
        refine r_n (pc1 := 14) [.int (J p0)] _ rfl rfl ?_
        refine r_n (pc1 := 15) [.int (J x1), .int (J p0)] _ rfl rfl ?_
        refine r_ishr (pc1 := 16) rfl rfl ?_
        refine r_n (pc1 := 17) [.int (J 1), .int (J (ishr p0 x1))] _ rfl rfl ?_
        refine r_iand (pc1 := 18) rfl rfl ?_
        obtain ⟨J3, j3, w⟩ := w
        have Q3 : J3 → RR sc goal fs 347 34 [some (rv 79), some (.int (J p0)), some (.int (J x1))] [] h := by
          intro z3
          have w := j3 z3
          refine r_inc (pc1 := 37) (g := fun zz => [some (rv 79), some (.int (J p0)), some (.int (J zz))]) rfl rfl rfl rfl (fun _ => rfl) (fun x4 ex4 rx4 => ?_)
          have w := w x4 ex4 rx4
          refine r_goto (t := 2) rfl rfl ?_
          exact ih2  x4  rx4 (Nat.lt_of_lt_of_le w.2 (Nat.le_of_lt_succ q2)) w.1
        refine r_iz (t := 34) (pc1 := 21) rfl rfl rfl (rgt _) (fun c7 => ?_) (fun c7 => ?_)
        · have w := w.1 c7
          exact Q3     w
        · have w := w.2 c7
          refine r_aldn (pc1 := 22) rfl rfl rfl ?_
          refine r_gfC (pc1 := 25) (q := 80) rfl rfl rfl t0 (lyk t0 rfl) rfl rfl (lyR t0 rfl rfl) ?_
          refine r_n (pc1 := 26) [.int (J x1), rv 80] _ rfl rfl ?_
          obtain ⟨c5, w⟩ := w
          refine r_ial (pc1 := 27) rfl rfl t0 (lyk t0 rfl) rx1 c5.1 (lt_len (lyn t0 rfl) c5.2) ?_
          refine r_n (pc1 := 28) [.int (J p0), .int (J (hI h 80 x1.toNat))] _ rfl rfl ?_
          refine r_iand (pc1 := 29) rfl rfl ?_
          refine r_iz (t := 34) (pc1 := 32) rfl rfl rfl (rgt _) (fun c6 => ?_) (fun c6 => ?_)
          · have w := w.1 c6
            exact Q3     w
          · have w := w.2 c6
            refine r_n (pc1 := 33) [.int (J x1)] _ rfl rfl ?_
            exact r_retI rfl rfl rfl (k _ rx1 w)
  exact Q2 _  0  (rgk rfl) (Nat.lt_succ_self _) w
def w_X2_leastBehind (p0 : Int) (p1 : Int) (K : Int → Prop) (h : XH) : Prop :=
  ((∃ (I2 : Int → Prop) (m2 : Int → Nat), I2 0 ∧ ∀ (x1 : Int), rg x1 → I2 x1 → (((hI h 9 0 ≤ x1 → (K 0)) ∧ (¬ (hI h 9 0 ≤ x1) → (∃ J3 : Prop, (J3 → (∀ x4 : Int, x4 = wr (x1 + 1) → rg x4 → (I2 x4 ∧ m2 x4 < m2 x1))) ∧ ((iand (ishr p1 x1) 1 = 0 → J3) ∧ (¬ (iand (ishr p1 x1) 1 = 0) → ((0 ≤ x1 ∧ x1 < 12) ∧ ((iand (ishr (hI h 80 x1.toNat) p0) 1 = 0 → J3) ∧ (¬ (iand (ishr (hI h 80 x1.toNat) p0) 1 = 0) → (K x1))))))))))))
set_option maxHeartbeats 4000000 in
theorem a_X2_leastBehind {sc : Nat × (Nat → Int32)} {goal : XO → XH → Prop} {fs : List XF} {h : XH} (p0 : Int) (p1 : Int) {K : Int → Prop} (hd : fs.length + 0 ≤ 1000) (rp0 : rg p0) (rp1 : rg p1) (w : w_X2_leastBehind p0 p1 K h) (t0 : HT h) (k : ∀ (r : Int), rg r → K r → XFin xP sc goal fs (.inl (some (.int (J r)))) h) : RR sc goal fs 353 0 [some (rv 79), some (.int (J p0)), some (.int (J p1)), none] [] h := by
  unfold w_X2_leastBehind at w
  refine r_n (pc1 := 1) [.int (J 0)] _ rfl rfl ?_
  refine r_istn (pc1 := 2) (ls1 := [some (rv 79), some (.int (J p0)), some (.int (J p1)), some (.int (J 0))]) rfl rfl rfl rfl ?_
  obtain ⟨I2, m2, w, y2⟩ := w
  have Q2 : ∀ (n : Nat)  (x1 : Int), rg x1 → m2 x1 < n → I2 x1 → RR sc goal fs 353 2 [some (rv 79), some (.int (J p0)), some (.int (J p1)), some (.int (J x1))] [] h := by
    intro n
    induction n with
    | zero => intro x1 rx1 q2 _; exact absurd q2 (Nat.not_lt_zero _)
    | succ n ih2 =>
      intro x1 rx1 q2 z2
      have w := y2 x1 rx1 z2
      refine r_n (pc1 := 3) [.int (J x1)] _ rfl rfl ?_
      refine r_aldn (pc1 := 4) rfl rfl rfl ?_
      refine r_gfC (pc1 := 7) (q := 9) rfl rfl rfl t0 (lyk t0 rfl) rfl rfl (lyR t0 rfl rfl) ?_
      refine r_gfI (pc1 := 10) rfl rfl rfl t0 (lyk t0 rfl) rfl rfl ?_
      refine r_ic (t := 42) (pc1 := 13) rfl rfl rfl rx1 (rgh _ _ _) (fun c8 => ?_) (fun c8 => ?_)
      · have w := w.1 c8
        refine r_n (pc1 := 43) [.int (J 0)] _ rfl rfl ?_
        exact r_retI rfl rfl rfl (k _ (rgk rfl) w)
      · have w := w.2 c8
        refine r_n (pc1 := 14) [.int (J p1)] _ rfl rfl ?_
        refine r_n (pc1 := 15) [.int (J x1), .int (J p1)] _ rfl rfl ?_
        refine r_ishr (pc1 := 16) rfl rfl ?_
        refine r_n (pc1 := 17) [.int (J 1), .int (J (ishr p1 x1))] _ rfl rfl ?_
        refine r_iand (pc1 := 18) rfl rfl ?_
        obtain ⟨J3, j3, w⟩ := w
        have Q3 : J3 → RR sc goal fs 353 36 [some (rv 79), some (.int (J p0)), some (.int (J p1)), some (.int (J x1))] [] h := by
          intro z3
          have w := j3 z3
          refine r_inc (pc1 := 39) (g := fun zz => [some (rv 79), some (.int (J p0)), some (.int (J p1)), some (.int (J zz))]) rfl rfl rfl rfl (fun _ => rfl) (fun x4 ex4 rx4 => ?_)
          have w := w x4 ex4 rx4
          refine r_goto (t := 2) rfl rfl ?_
          exact ih2  x4  rx4 (Nat.lt_of_lt_of_le w.2 (Nat.le_of_lt_succ q2)) w.1
        refine r_iz (t := 36) (pc1 := 21) rfl rfl rfl (rgt _) (fun c7 => ?_) (fun c7 => ?_)
        · have w := w.1 c7
          exact Q3     w
        · have w := w.2 c7
          refine r_aldn (pc1 := 22) rfl rfl rfl ?_
          refine r_gfC (pc1 := 25) (q := 80) rfl rfl rfl t0 (lyk t0 rfl) rfl rfl (lyR t0 rfl rfl) ?_
          refine r_n (pc1 := 26) [.int (J x1), rv 80] _ rfl rfl ?_
          obtain ⟨c5, w⟩ := w
          refine r_ial (pc1 := 27) rfl rfl t0 (lyk t0 rfl) rx1 c5.1 (lt_len (lyn t0 rfl) c5.2) ?_
          refine r_n (pc1 := 28) [.int (J p0), .int (J (hI h 80 x1.toNat))] _ rfl rfl ?_
          refine r_ishr (pc1 := 29) rfl rfl ?_
          refine r_n (pc1 := 30) [.int (J 1), .int (J (ishr (hI h 80 x1.toNat) p0))] _ rfl rfl ?_
          refine r_iand (pc1 := 31) rfl rfl ?_
          refine r_iz (t := 36) (pc1 := 34) rfl rfl rfl (rgt _) (fun c6 => ?_) (fun c6 => ?_)
          · have w := w.1 c6
            exact Q3     w
          · have w := w.2 c6
            refine r_n (pc1 := 35) [.int (J x1)] _ rfl rfl ?_
            exact r_retI rfl rfl rfl (k _ rx1 w)
  exact Q2 _  0  (rgk rfl) (Nat.lt_succ_self _) w
def w_X2_walkRing (p0 : Int) (p1 : Int) (K : XH → Prop) (h : XH) : Prop :=
  (∀ h1 : XH, h1 = sI h 82 0 p0 → HT h1 → HX h h1 → ∀ h2 : XH, h2 = sI h1 79 6 p1 → HT h2 → HX h1 h2 → (∃ (I5 : Int → XH → Prop) (m5 : Int → XH → Nat), I5 1 h2 ∧ ∀ (x3 : Int) (h4 : XH), HT h4 → HX h h4 → rg x3 → I5 x3 h4 → (∃ J6 : Prop, (J6 → (K h4)) ∧ ((p1 ≤ x3 → J6) ∧ (¬ (p1 ≤ x3) → (((12 ≤ x3 → J6) ∧ (¬ (12 ≤ x3) → (∀ x7 : Int, x7 = wr (x3 - 1) → rg x7 → (0 ≤ x7 ∧ x7 < 12) ∧ ∀ x9 : Int, x9 = wr (p1 - x3) → rg x9 → (0 ≤ x9 ∧ x9 < 13) ∧ w_X2_leastBehind (hI h4 82 x7.toNat) (hI h4 81 x9.toNat) (fun x11 => rg x11 → ((0 ≤ x3 ∧ x3 < 12) ∧ ∀ h13 : XH, h13 = sI h4 82 x3.toNat x11 → HT h13 → HX h4 h13 → ∀ x14 : Int, x14 = wr (x3 + 1) → rg x14 → (I5 x14 h13 ∧ m5 x14 h13 < m5 x3 h4))) h4)))))))))
set_option maxHeartbeats 4000000 in
theorem a_X2_walkRing {sc : Nat × (Nat → Int32)} {goal : XO → XH → Prop} {fs : List XF} {h : XH} (p0 : Int) (p1 : Int) {K : XH → Prop} (hd : fs.length + 1 ≤ 1000) (rp0 : rg p0) (rp1 : rg p1) (w : w_X2_walkRing p0 p1 K h) (t0 : HT h) (k : ∀ (h1 : XH), HT h1 → HX h h1 → K h1 → XFin xP sc goal fs (.inl none) h1) : RR sc goal fs 360 0 [some (rv 79), some (.int (J p0)), some (.int (J p1)), none] [] h := by
  unfold w_X2_walkRing at w
  refine r_aldn (pc1 := 1) rfl rfl rfl ?_
  refine r_gfC (pc1 := 4) (q := 82) rfl rfl rfl t0 (lyk t0 rfl) rfl rfl (lyR t0 rfl rfl) ?_
  refine r_n (pc1 := 5) [.int (J 0), rv 82] _ rfl rfl ?_
  refine r_n (pc1 := 6) [.int (J p0), .int (J 0), rv 82] _ rfl rfl ?_
  refine r_iast (pc1 := 7) rfl rfl t0 (lyk t0 rfl) (rgk rfl) (by decide) (lt_len (lyn t0 rfl) (by decide)) (fun h1 eh1 t1 u1 => ?_)
  have w := w h1 eh1 t1 u1
  have s1 := HX_trans (HX_refl h) u1
  refine r_aldn (pc1 := 8) rfl rfl rfl ?_
  refine r_n (pc1 := 9) [.int (J p1), rv 79] _ rfl rfl ?_
  refine r_pfI (pc1 := 12) rfl rfl rfl t1 (lyk t1 rfl) rfl rfl rfl (fun h2 eh2 t2 u2 => ?_)
  have w := w h2 eh2 t2 u2
  have s2 := HX_trans s1 u2
  refine r_n (pc1 := 13) [.int (J 1)] _ rfl rfl ?_
  refine r_istn (pc1 := 14) (ls1 := [some (rv 79), some (.int (J p0)), some (.int (J p1)), some (.int (J 1))]) rfl rfl rfl rfl ?_
  obtain ⟨I5, m5, w, y5⟩ := w
  have Q5 : ∀ (n : Nat)  (x3 : Int) (h4 : XH), HT h4 → HX h h4 → rg x3 → m5 x3 h4 < n → I5 x3 h4 → RR sc goal fs 360 14 [some (rv 79), some (.int (J p0)), some (.int (J p1)), some (.int (J x3))] [] h4 := by
    intro n
    induction n with
    | zero => intro x3 h4 t4 s4 rx3 q5 _; exact absurd q5 (Nat.not_lt_zero _)
    | succ n ih5 =>
      intro x3 h4 t4 s4 rx3 q5 z5
      have w := y5 x3 h4 t4 s4 rx3 z5
      refine r_n (pc1 := 15) [.int (J x3)] _ rfl rfl ?_
      refine r_n (pc1 := 16) [.int (J p1), .int (J x3)] _ rfl rfl ?_
      obtain ⟨J6, j6, w⟩ := w
      have Q6 : J6 → RR sc goal fs 360 57 [some (rv 79), some (.int (J p0)), some (.int (J p1)), some (.int (J x3))] [] h4 := by
        intro z6
        have w := j6 z6
        exact r_retV rfl rfl rfl (k _ t4 s4 w)
      refine r_ic (t := 57) (pc1 := 19) rfl rfl rfl rx3 rp1 (fun c16 => ?_) (fun c16 => ?_)
      · have w := w.1 c16
        exact Q6     w
      · have w := w.2 c16
        refine r_n (pc1 := 20) [.int (J x3)] _ rfl rfl ?_
        refine r_n (pc1 := 22) [.int (J 12), .int (J x3)] _ rfl rfl ?_
        refine r_ic (t := 57) (pc1 := 25) rfl rfl rfl rx3 (rgk rfl) (fun c15 => ?_) (fun c15 => ?_)
        · have w := w.1 c15
          exact Q6     w
        · have w := w.2 c15
          refine r_aldn (pc1 := 26) rfl rfl rfl ?_
          refine r_gfC (pc1 := 29) (q := 82) rfl rfl rfl t4 (lyk t4 rfl) rfl rfl (lyR t4 rfl rfl) ?_
          refine r_n (pc1 := 30) [.int (J x3), rv 82] _ rfl rfl ?_
          refine r_aldn (pc1 := 31) rfl rfl rfl ?_
          refine r_aldn (pc1 := 32) rfl rfl rfl ?_
          refine r_gfC (pc1 := 35) (q := 82) rfl rfl rfl t4 (lyk t4 rfl) rfl rfl (lyR t4 rfl rfl) ?_
          refine r_n (pc1 := 36) [.int (J x3), rv 82, rv 79, .int (J x3), rv 82] _ rfl rfl ?_
          refine r_n (pc1 := 37) [.int (J 1), .int (J x3), rv 82, rv 79, .int (J x3), rv 82] _ rfl rfl ?_
          refine r_isub (pc1 := 38) rfl rfl ?_
          refine r_vI (rgw _) (fun x7 ex7 rx7 => ?_)
          have w := w x7 ex7 rx7
          obtain ⟨c8, w⟩ := w
          refine r_ial (pc1 := 39) rfl rfl t4 (lyk t4 rfl) rx7 c8.1 (lt_len (lyn t4 rfl) c8.2) ?_
          refine r_aldn (pc1 := 40) rfl rfl rfl ?_
          refine r_gfC (pc1 := 43) (q := 81) rfl rfl rfl t4 (lyk t4 rfl) rfl rfl (lyR t4 rfl rfl) ?_
          refine r_n (pc1 := 44) [.int (J p1), rv 81, .int (J (hI h4 82 x7.toNat)), rv 79, .int (J x3), rv 82] _ rfl rfl ?_
          refine r_n (pc1 := 45) [.int (J x3), .int (J p1), rv 81, .int (J (hI h4 82 x7.toNat)), rv 79, .int (J x3), rv 82] _ rfl rfl ?_
          refine r_isub (pc1 := 46) rfl rfl ?_
          refine r_vI (rgw _) (fun x9 ex9 rx9 => ?_)
          have w := w x9 ex9 rx9
          obtain ⟨c10, w⟩ := w
          refine r_ial (pc1 := 47) rfl rfl t4 (lyk t4 rfl) rx9 c10.1 (lt_len (lyn t4 rfl) c10.2) ?_
          refine r_iv rfl rfl rfl rfl rfl rfl t4 (lyk t4 rfl) rfl (xe_of (xa_r (xa_i (xa_i xa_0))) rfl rfl) (r_d0 hd rfl) (a_X2_leastBehind (hI h4 82 x7.toNat) (hI h4 81 x9.toNat) (r_d1 hd rfl) (rgh _ _ _) (rgh _ _ _) w t4 (fun x11 rx11 w => ?_))
          refine r_fI (pc1 := 50) rfl ?_
          have w := w rx11
          obtain ⟨c12, w⟩ := w
          refine r_iast (pc1 := 51) rfl rfl t4 (lyk t4 rfl) rx3 c12.1 (lt_len (lyn t4 rfl) c12.2) (fun h13 eh13 t13 u13 => ?_)
          have w := w h13 eh13 t13 u13
          have s13 := HX_trans s4 u13
          refine r_inc (pc1 := 54) (g := fun zz => [some (rv 79), some (.int (J p0)), some (.int (J p1)), some (.int (J zz))]) rfl rfl rfl rfl (fun _ => rfl) (fun x14 ex14 rx14 => ?_)
          have w := w x14 ex14 rx14
          refine r_goto (t := 14) rfl rfl ?_
          exact ih5  x14 h13 t13 s13 rx14 (Nat.lt_of_lt_of_le w.2 (Nat.le_of_lt_succ q5)) w.1
  exact Q5 _  1 h2 t2 s2 (rgk rfl) (Nat.lt_succ_self _) w
def w_X2_isRingFrom (p0 : Int) (p1 : Int) (K : Int → XH → Prop) (h : XH) : Prop :=
  (∀ x1 : Int, x1 = iand (iand p1 (wr (-(ishl 1 p0)))) (ixor (ishl 1 p0) (-1)) → rg x1 → ∀ h2 : XH, h2 = sI h 81 0 (iand p1 (ishl 1 p0)) → HT h2 → HX h h2 → (∃ (I9 : Int → Int → XH → Prop) (m9 : Int → Int → XH → Nat), I9 x1 1 h2 ∧ ∀ (x4 : Int) (x5 : Int) (h8 : XH), HT h8 → HX h h8 → rg x4 → rg x5 → I9 x4 x5 h8 → (((12 < x5 → (K 0 h8)) ∧ (¬ (12 < x5) → ((∃ (I12 : Int → Int → Prop) (m12 : Int → Int → Nat), I12 0 0 ∧ ∀ (x10 : Int) (x11 : Int), rg x10 → rg x11 → I12 x10 x11 → (((hI h8 9 0 ≤ x11 → (((iand (ishr x10 p0) 1 = 0 → ((0 ≤ x5 ∧ x5 < 13) ∧ ∀ h14 : XH, h14 = sI h8 81 x5.toNat (iand x10 x4) → HT h14 → HX h8 h14 → ∀ x15 : Int, x15 = iand x4 (ixor x10 (-1)) → rg x15 → ∀ x16 : Int, x16 = wr (x5 + 1) → rg x16 → (I9 x15 x16 h14 ∧ m9 x15 x16 h14 < m9 x4 x5 h8))) ∧ (¬ (iand (ishr x10 p0) 1 = 0) → (w_X2_walkRing p0 x5 (fun h17 => HT h17 → HX h8 h17 → (K 1 h17)) h8))))) ∧ (¬ (hI h8 9 0 ≤ x11) → (∀ x19 : Int, x19 = wr (x5 - 1) → rg x19 → (0 ≤ x19 ∧ x19 < 13) ∧ ∃ J22 : Int → Prop, (∀ (x21 : Int), rg x21 → J22 x21 → (∀ x23 : Int, x23 = ior x10 x21 → rg x23 → ∀ x24 : Int, x24 = wr (x11 + 1) → rg x24 → (I12 x23 x24 ∧ m12 x23 x24 < m12 x10 x11))) ∧ ((iand (ishr (hI h8 81 x19.toNat) x11) 1 = 0 → (J22 0)) ∧ (¬ (iand (ishr (hI h8 81 x19.toNat) x11) 1 = 0) → ((0 ≤ x11 ∧ x11 < 12) ∧ J22 (hI h8 80 x11.toNat)))))))))))))))
set_option maxHeartbeats 4000000 in
theorem a_X2_isRingFrom {sc : Nat × (Nat → Int32)} {goal : XO → XH → Prop} {fs : List XF} {h : XH} (p0 : Int) (p1 : Int) {K : Int → XH → Prop} (hd : fs.length + 2 ≤ 1000) (rp0 : rg p0) (rp1 : rg p1) (w : w_X2_isRingFrom p0 p1 K h) (t0 : HT h) (k : ∀ (r : Int) (h1 : XH), HT h1 → HX h h1 → rg r → (r = 0 ∨ r = 1) → K r h1 → XFin xP sc goal fs (.inl (some (.int (J r)))) h1) : RR sc goal fs 352 0 [some (rv 79), some (.int (J p0)), some (.int (J p1)), none, none, none, none] [] h := by
  unfold w_X2_isRingFrom at w
  refine r_n (pc1 := 1) [.int (J p1)] _ rfl rfl ?_
  refine r_n (pc1 := 2) [.int (J 1), .int (J p1)] _ rfl rfl ?_
  refine r_n (pc1 := 3) [.int (J p0), .int (J 1), .int (J p1)] _ rfl rfl ?_
  refine r_ishl (pc1 := 4) rfl rfl ?_
  refine r_ineg (pc1 := 5) rfl rfl ?_
  refine r_iand (pc1 := 6) rfl rfl ?_
  refine r_n (pc1 := 7) [.int (J 1), .int (J (iand p1 (wr (-(ishl 1 p0)))))] _ rfl rfl ?_
  refine r_n (pc1 := 8) [.int (J p0), .int (J 1), .int (J (iand p1 (wr (-(ishl 1 p0)))))] _ rfl rfl ?_
  refine r_ishl (pc1 := 9) rfl rfl ?_
  refine r_n (pc1 := 10) [.int (J (-1)), .int (J (ishl 1 p0)), .int (J (iand p1 (wr (-(ishl 1 p0)))))] _ rfl rfl ?_
  refine r_ixor (pc1 := 11) rfl rfl ?_
  refine r_iand (pc1 := 12) rfl rfl ?_
  refine r_vI (rgt _) (fun x1 ex1 rx1 => ?_)
  have w := w x1 ex1 rx1
  refine r_istn (pc1 := 13) (ls1 := [some (rv 79), some (.int (J p0)), some (.int (J p1)), some (.int (J x1)), none, none, none]) rfl rfl rfl rfl ?_
  refine r_aldn (pc1 := 14) rfl rfl rfl ?_
  refine r_gfC (pc1 := 17) (q := 81) rfl rfl rfl t0 (lyk t0 rfl) rfl rfl (lyR t0 rfl rfl) ?_
  refine r_n (pc1 := 18) [.int (J 0), rv 81] _ rfl rfl ?_
  refine r_n (pc1 := 19) [.int (J p1), .int (J 0), rv 81] _ rfl rfl ?_
  refine r_n (pc1 := 20) [.int (J 1), .int (J p1), .int (J 0), rv 81] _ rfl rfl ?_
  refine r_n (pc1 := 21) [.int (J p0), .int (J 1), .int (J p1), .int (J 0), rv 81] _ rfl rfl ?_
  refine r_ishl (pc1 := 22) rfl rfl ?_
  refine r_iand (pc1 := 23) rfl rfl ?_
  refine r_iast (pc1 := 24) rfl rfl t0 (lyk t0 rfl) (rgk rfl) (by decide) (lt_len (lyn t0 rfl) (by decide)) (fun h2 eh2 t2 u2 => ?_)
  have w := w h2 eh2 t2 u2
  have s2 := HX_trans (HX_refl h) u2
  refine r_n (pc1 := 25) [.int (J 1)] _ rfl rfl ?_
  refine r_ist (pc1 := 27) (ls1 := [some (rv 79), some (.int (J p0)), some (.int (J p1)), some (.int (J x1)), some (.int (J 1)), none, none]) rfl rfl rfl rfl ?_
  obtain ⟨I9, m9, w, y9⟩ := w
  have Q9 : ∀ (n : Nat) (d3 : Option Value) (d6 : Option Value) (d7 : Option Value) (x4 : Int) (x5 : Int) (h8 : XH), HT h8 → HX h h8 → rg x4 → rg x5 → m9 x4 x5 h8 < n → I9 x4 x5 h8 → RR sc goal fs 352 27 [some (rv 79), some (.int (J p0)), d3, some (.int (J x4)), some (.int (J x5)), d6, d7] [] h8 := by
    intro n
    induction n with
    | zero => intro d3 d6 d7 x4 x5 h8 t8 s8 rx4 rx5 q9 _; exact absurd q9 (Nat.not_lt_zero _)
    | succ n ih9 =>
      intro d3 d6 d7 x4 x5 h8 t8 s8 rx4 rx5 q9 z9
      have w := y9 x4 x5 h8 t8 s8 rx4 rx5 z9
      refine r_n (pc1 := 29) [.int (J x5)] _ rfl rfl ?_
      refine r_n (pc1 := 31) [.int (J 12), .int (J x5)] _ rfl rfl ?_
      refine r_ic (t := 133) (pc1 := 34) rfl rfl rfl rx5 (rgk rfl) (fun c28 => ?_) (fun c28 => ?_)
      · have w := w.1 c28
        refine r_n (pc1 := 134) [.int (J 0)] _ rfl rfl ?_
        exact r_retB rfl rfl rfl (.inl rfl) (k _ _ t8 s8 (rgk rfl) (.inl rfl) w)
      · have w := w.2 c28
        refine r_n (pc1 := 35) [.int (J 0)] _ rfl rfl ?_
        refine r_ist (pc1 := 37) (ls1 := [some (rv 79), some (.int (J p0)), d3, some (.int (J x4)), some (.int (J x5)), some (.int (J 0)), d7]) rfl rfl rfl rfl ?_
        refine r_n (pc1 := 38) [.int (J 0)] _ rfl rfl ?_
        refine r_ist (pc1 := 40) (ls1 := [some (rv 79), some (.int (J p0)), d3, some (.int (J x4)), some (.int (J x5)), some (.int (J 0)), some (.int (J 0))]) rfl rfl rfl rfl ?_
        obtain ⟨I12, m12, w, y12⟩ := w
        have Q12 : ∀ (n : Nat)  (x10 : Int) (x11 : Int), rg x10 → rg x11 → m12 x10 x11 < n → I12 x10 x11 → RR sc goal fs 352 40 [some (rv 79), some (.int (J p0)), d3, some (.int (J x4)), some (.int (J x5)), some (.int (J x10)), some (.int (J x11))] [] h8 := by
          intro n
          induction n with
          | zero => intro x10 x11 rx10 rx11 q12 _; exact absurd q12 (Nat.not_lt_zero _)
          | succ n ih12 =>
            intro x10 x11 rx10 rx11 q12 z12
            have w := y12 x10 x11 rx10 rx11 z12
            refine r_n (pc1 := 42) [.int (J x11)] _ rfl rfl ?_
            refine r_aldn (pc1 := 43) rfl rfl rfl ?_
            refine r_gfC (pc1 := 46) (q := 9) rfl rfl rfl t8 (lyk t8 rfl) rfl rfl (lyR t8 rfl rfl) ?_
            refine r_gfI (pc1 := 49) rfl rfl rfl t8 (lyk t8 rfl) rfl rfl ?_
            refine r_ic (t := 91) (pc1 := 52) rfl rfl rfl rx11 (rgh _ _ _) (fun c27 => ?_) (fun c27 => ?_)
            · have w := w.1 c27
              refine r_n (pc1 := 93) [.int (J x10)] _ rfl rfl ?_
              refine r_n (pc1 := 94) [.int (J p0), .int (J x10)] _ rfl rfl ?_
              refine r_ishr (pc1 := 95) rfl rfl ?_
              refine r_n (pc1 := 96) [.int (J 1), .int (J (ishr x10 p0))] _ rfl rfl ?_
              refine r_iand (pc1 := 97) rfl rfl ?_
              refine r_iz (t := 109) (pc1 := 100) rfl rfl rfl (rgt _) (fun c18 => ?_) (fun c18 => ?_)
              · have w := w.1 c18
                refine r_aldn (pc1 := 110) rfl rfl rfl ?_
                refine r_gfC (pc1 := 113) (q := 81) rfl rfl rfl t8 (lyk t8 rfl) rfl rfl (lyR t8 rfl rfl) ?_
                refine r_n (pc1 := 115) [.int (J x5), rv 81] _ rfl rfl ?_
                refine r_n (pc1 := 117) [.int (J x10), .int (J x5), rv 81] _ rfl rfl ?_
                refine r_n (pc1 := 118) [.int (J x4), .int (J x10), .int (J x5), rv 81] _ rfl rfl ?_
                refine r_iand (pc1 := 119) rfl rfl ?_
                obtain ⟨c13, w⟩ := w
                refine r_iast (pc1 := 120) rfl rfl t8 (lyk t8 rfl) rx5 c13.1 (lt_len (lyn t8 rfl) c13.2) (fun h14 eh14 t14 u14 => ?_)
                have w := w h14 eh14 t14 u14
                have s14 := HX_trans s8 u14
                refine r_n (pc1 := 121) [.int (J x4)] _ rfl rfl ?_
                refine r_n (pc1 := 123) [.int (J x10), .int (J x4)] _ rfl rfl ?_
                refine r_n (pc1 := 124) [.int (J (-1)), .int (J x10), .int (J x4)] _ rfl rfl ?_
                refine r_ixor (pc1 := 125) rfl rfl ?_
                refine r_iand (pc1 := 126) rfl rfl ?_
                refine r_vI (rgt _) (fun x15 ex15 rx15 => ?_)
                have w := w x15 ex15 rx15
                refine r_istn (pc1 := 127) (ls1 := [some (rv 79), some (.int (J p0)), (dcl d3), some (.int (J x15)), some (.int (J x5)), some (.int (J x10)), some (.int (J x11))]) rfl rfl rfl (xput1_d rfl rfl) ?_
                refine r_inc (pc1 := 130) (g := fun zz => [some (rv 79), some (.int (J p0)), (dcl d3), some (.int (J x15)), some (.int (J zz)), some (.int (J x10)), some (.int (J x11))]) rfl rfl rfl rfl (fun _ => rfl) (fun x16 ex16 rx16 => ?_)
                have w := w x16 ex16 rx16
                refine r_goto (t := 27) rfl rfl ?_
                exact ih9 _ _ _ x15 x16 h14 t14 s14 rx15 rx16 (Nat.lt_of_lt_of_le w.2 (Nat.le_of_lt_succ q9)) w.1
              · have w := w.2 c18
                refine r_aldn (pc1 := 101) rfl rfl rfl ?_
                refine r_n (pc1 := 102) [.int (J p0), rv 79] _ rfl rfl ?_
                refine r_n (pc1 := 104) [.int (J x5), .int (J p0), rv 79] _ rfl rfl ?_
                refine r_iv rfl rfl rfl rfl rfl rfl t8 (lyk t8 rfl) rfl (xe_of (xa_r (xa_i (xa_i xa_0))) rfl rfl) (r_d0 hd rfl) (a_X2_walkRing p0 x5 (r_d1 hd rfl) rp0 rx5 w t8 (fun h17 t17 u17 w => ?_))
                refine r_fV (pc1 := 107) rfl ?_
                have s17 := HX_trans s8 u17
                have w := w t17 u17
                refine r_n (pc1 := 108) [.int (J 1)] _ rfl rfl ?_
                exact r_retB rfl rfl rfl (.inr rfl) (k _ _ t17 s17 (rgk rfl) (.inr rfl) w)
            · have w := w.2 c27
              refine r_n (pc1 := 54) [.int (J x10)] _ rfl rfl ?_
              refine r_aldn (pc1 := 55) rfl rfl rfl ?_
              refine r_gfC (pc1 := 58) (q := 81) rfl rfl rfl t8 (lyk t8 rfl) rfl rfl (lyR t8 rfl rfl) ?_
              refine r_n (pc1 := 60) [.int (J x5), rv 81, .int (J x10)] _ rfl rfl ?_
              refine r_n (pc1 := 61) [.int (J 1), .int (J x5), rv 81, .int (J x10)] _ rfl rfl ?_
              refine r_isub (pc1 := 62) rfl rfl ?_
              refine r_vI (rgw _) (fun x19 ex19 rx19 => ?_)
              have w := w x19 ex19 rx19
              obtain ⟨c20, w⟩ := w
              refine r_ial (pc1 := 63) rfl rfl t8 (lyk t8 rfl) rx19 c20.1 (lt_len (lyn t8 rfl) c20.2) ?_
              refine r_n (pc1 := 65) [.int (J x11), .int (J (hI h8 81 x19.toNat)), .int (J x10)] _ rfl rfl ?_
              refine r_ishr (pc1 := 66) rfl rfl ?_
              refine r_n (pc1 := 67) [.int (J 1), .int (J (ishr (hI h8 81 x19.toNat) x11)), .int (J x10)] _ rfl rfl ?_
              refine r_iand (pc1 := 68) rfl rfl ?_
              obtain ⟨J22, j22, w⟩ := w
              have Q22 : ∀ (x21 : Int), rg x21 → J22 x21 → RR sc goal fs 352 82 [some (rv 79), some (.int (J p0)), d3, some (.int (J x4)), some (.int (J x5)), some (.int (J x10)), some (.int (J x11))] [.int (J x21), .int (J x10)] h8 := by
                intro x21 rx21 z22
                have w := j22 x21 rx21 z22
                refine r_ior (pc1 := 83) rfl rfl ?_
                refine r_vI (rgt _) (fun x23 ex23 rx23 => ?_)
                have w := w x23 ex23 rx23
                refine r_ist (pc1 := 85) (ls1 := [some (rv 79), some (.int (J p0)), d3, some (.int (J x4)), some (.int (J x5)), some (.int (J x23)), some (.int (J x11))]) rfl rfl rfl rfl ?_
                refine r_inc (pc1 := 88) (g := fun zz => [some (rv 79), some (.int (J p0)), d3, some (.int (J x4)), some (.int (J x5)), some (.int (J x23)), some (.int (J zz))]) rfl rfl rfl rfl (fun _ => rfl) (fun x24 ex24 rx24 => ?_)
                have w := w x24 ex24 rx24
                refine r_goto (t := 40) rfl rfl ?_
                exact ih12  x23 x24  rx23 rx24 (Nat.lt_of_lt_of_le w.2 (Nat.le_of_lt_succ q12)) w.1
              refine r_iz (t := 81) (pc1 := 71) rfl rfl rfl (rgt _) (fun c26 => ?_) (fun c26 => ?_)
              · have w := w.1 c26
                refine r_n (pc1 := 82) [.int (J 0), .int (J x10)] _ rfl rfl ?_
                exact Q22  0  (rgk rfl) w
              · have w := w.2 c26
                refine r_aldn (pc1 := 72) rfl rfl rfl ?_
                refine r_gfC (pc1 := 75) (q := 80) rfl rfl rfl t8 (lyk t8 rfl) rfl rfl (lyR t8 rfl rfl) ?_
                refine r_n (pc1 := 77) [.int (J x11), rv 80, .int (J x10)] _ rfl rfl ?_
                obtain ⟨c25, w⟩ := w
                refine r_ial (pc1 := 78) rfl rfl t8 (lyk t8 rfl) rx11 c25.1 (lt_len (lyn t8 rfl) c25.2) ?_
                refine r_goto (t := 82) rfl rfl ?_
                exact Q22  (hI h8 80 x11.toNat)  (rgh _ _ _) w
        exact Q12 _  0 0  (rgk rfl) (rgk rfl) (Nat.lt_succ_self _) w
  exact Q9 _ _ _ _ x1 1 h2 t2 s2 rx1 (rgk rfl) (Nat.lt_succ_self _) w
def w_X2_arrange (p0 : BitVec 64) (K : XH → Prop) (h : XH) : Prop :=
  ((∃ (I4 : Int → Int → XH → Prop) (m4 : Int → Int → XH → Nat), I4 0 0 h ∧ ∀ (x1 : Int) (x2 : Int) (h3 : XH), HT h3 → HX h h3 → rg x1 → rg x2 → I4 x1 x2 h3 → (((hI h3 9 0 ≤ x2 → (∀ h5 : XH, h5 = sI h3 79 6 0 → HT h5 → HX h3 h5 → w_X2_firstFree x1 (fun x6 => rg x6 → ((∃ (I11 : Int → Int → Int → XH → Prop) (m11 : Int → Int → Int → XH → Nat), I11 x1 x6 0 h5 ∧ ∀ (x7 : Int) (x8 : Int) (x9 : Int) (h10 : XH), HT h10 → HX h h10 → rg x7 → rg x8 → rg x9 → I11 x7 x8 x9 h10 → (∃ J12 : Prop, (J12 → (∃ J14 : Int → Prop, (∀ (x13 : Int), rg x13 → J14 x13 → ((x13 = 0 ∨ x13 = 1) ∧ ∀ h16 : XH, h16 = sI h10 79 7 x13 → HT h16 → HX h10 h16 → (∃ (I20 : Int → XH → Prop) (m20 : Int → XH → Nat), I20 0 h16 ∧ ∀ (x18 : Int) (h19 : XH), HT h19 → HX h h19 → rg x18 → I20 x18 h19 → (∃ J21 : Prop, (J21 → (K h19)) ∧ ((hI h19 9 0 ≤ x18 → J21) ∧ (¬ (hI h19 9 0 ≤ x18) → (((hI h19 79 7 = 0 → J21) ∧ (¬ (hI h19 79 7 = 0) → (w_X2_isRingFrom x18 x7 (fun x22 h23 => HT h23 → HX h19 h23 → rg x22 → (x22 = 0 ∨ x22 = 1) → (((x22 = 0 → (∀ x24 : Int, x24 = wr (x18 + 1) → rg x24 → (I20 x24 h23 ∧ m20 x24 h23 < m20 x18 h19))) ∧ (¬ (x22 = 0) → (K h23))))) h19)))))))))) ∧ ((x7 = 0 → (J14 0)) ∧ (¬ (x7 = 0) → (J14 1))))) ∧ ((12 ≤ x9 → J12) ∧ (¬ (12 ≤ x9) → (((x8 = (-1) → J12) ∧ (¬ (x8 = (-1)) → ((0 ≤ x9 ∧ x9 < 12) ∧ ∀ h30 : XH, h30 = sI h10 82 x9.toNat x8 → HT h30 → HX h10 h30 → ∀ h31 : XH, h31 = sI h30 79 6 (wr (x9 + 1)) → HT h31 → HX h30 h31 → ∀ x32 : Int, x32 = iand x7 (ixor (ishl 1 x8) (-1)) → rg x32 → w_X2_firstFree x32 (fun x33 => rg x33 → (∀ x34 : Int, x34 = wr (x9 + 1) → rg x34 → (I11 x32 x33 x34 h31 ∧ m11 x32 x33 x34 h31 < m11 x7 x8 x9 h10))) h31)))))))))) h5)) ∧ (¬ (hI h3 9 0 ≤ x2) → (w_X2_aheadOf x2 p0 (fun x37 => rg x37 → ((0 ≤ x2 ∧ x2 < 12) ∧ ∀ h39 : XH, h39 = sI h3 80 x2.toNat x37 → HT h39 → HX h3 h39 → w_X8_idIn p0 x2 (fun x40 => rg x40 → (∃ J42 : Int → Prop, (∀ (x41 : Int), rg x41 → J42 x41 → (∀ x43 : Int, x43 = ior x1 x41 → rg x43 → ∀ x44 : Int, x44 = wr (x2 + 1) → rg x44 → (I4 x43 x44 h39 ∧ m4 x43 x44 h39 < m4 x1 x2 h3))) ∧ ((x40 = (-1) → (J42 0)) ∧ (¬ (x40 = (-1)) → (J42 (ishl 1 x2)))))) h39)) h3))))))
set_option maxHeartbeats 4000000 in
theorem a_X2_arrange {sc : Nat × (Nat → Int32)} {goal : XO → XH → Prop} {fs : List XF} {h : XH} (p0 : BitVec 64) {K : XH → Prop} (hd : fs.length + 3 ≤ 1000) (w : w_X2_arrange p0 K h) (t0 : HT h) (k : ∀ (h1 : XH), HT h1 → HX h h1 → K h1 → XFin xP sc goal fs (.inl none) h1) : RR sc goal fs 340 0 [some (rv 79), some (.long (G p0)), none, none, none, none] [] h := by
  unfold w_X2_arrange at w
  refine r_n (pc1 := 1) [.int (J 0)] _ rfl rfl ?_
  refine r_istn (pc1 := 2) (ls1 := [some (rv 79), some (.long (G p0)), none, some (.int (J 0)), none, none]) rfl rfl rfl rfl ?_
  refine r_n (pc1 := 3) [.int (J 0)] _ rfl rfl ?_
  refine r_ist (pc1 := 5) (ls1 := [some (rv 79), some (.long (G p0)), none, some (.int (J 0)), some (.int (J 0)), none]) rfl rfl rfl rfl ?_
  obtain ⟨I4, m4, w, y4⟩ := w
  have Q4 : ∀ (n : Nat)  (x1 : Int) (x2 : Int) (h3 : XH), HT h3 → HX h h3 → rg x1 → rg x2 → m4 x1 x2 h3 < n → I4 x1 x2 h3 → RR sc goal fs 340 5 [some (rv 79), some (.long (G p0)), none, some (.int (J x1)), some (.int (J x2)), none] [] h3 := by
    intro n
    induction n with
    | zero => intro x1 x2 h3 t3 s3 rx1 rx2 q4 _; exact absurd q4 (Nat.not_lt_zero _)
    | succ n ih4 =>
      intro x1 x2 h3 t3 s3 rx1 rx2 q4 z4
      have w := y4 x1 x2 h3 t3 s3 rx1 rx2 z4
      refine r_n (pc1 := 7) [.int (J x2)] _ rfl rfl ?_
      refine r_aldn (pc1 := 8) rfl rfl rfl ?_
      refine r_gfC (pc1 := 11) (q := 9) rfl rfl rfl t3 (lyk t3 rfl) rfl rfl (lyR t3 rfl rfl) ?_
      refine r_gfI (pc1 := 14) rfl rfl rfl t3 (lyk t3 rfl) rfl rfl ?_
      refine r_ic (t := 62) (pc1 := 17) rfl rfl rfl rx2 (rgh _ _ _) (fun c46 => ?_) (fun c46 => ?_)
      · have w := w.1 c46
        refine r_aldn (pc1 := 63) rfl rfl rfl ?_
        refine r_n (pc1 := 64) [.int (J 0), rv 79] _ rfl rfl ?_
        refine r_pfI (pc1 := 67) rfl rfl rfl t3 (lyk t3 rfl) rfl rfl rfl (fun h5 eh5 t5 u5 => ?_)
        have w := w h5 eh5 t5 u5
        have s5 := HX_trans s3 u5
        refine r_aldn (pc1 := 68) rfl rfl rfl ?_
        refine r_n (pc1 := 69) [.int (J x1), rv 79] _ rfl rfl ?_
        refine r_iv rfl rfl rfl rfl rfl rfl t5 (lyk t5 rfl) rfl (xe_of (xa_r (xa_i xa_0)) rfl rfl) (r_d0 hd rfl) (a_X2_firstFree x1 (r_d1 hd rfl) rx1 w t5 (fun x6 rx6 w => ?_))
        refine r_fI (pc1 := 72) rfl ?_
        have w := w rx6
        refine r_ist (pc1 := 74) (ls1 := [some (rv 79), some (.long (G p0)), none, some (.int (J x1)), some (.int (J x6)), none]) rfl rfl rfl rfl ?_
        refine r_n (pc1 := 75) [.int (J 0)] _ rfl rfl ?_
        refine r_ist (pc1 := 77) (ls1 := [some (rv 79), some (.long (G p0)), none, some (.int (J x1)), some (.int (J x6)), some (.int (J 0))]) rfl rfl rfl rfl ?_
        obtain ⟨I11, m11, w, y11⟩ := w
        have Q11 : ∀ (n : Nat)  (x7 : Int) (x8 : Int) (x9 : Int) (h10 : XH), HT h10 → HX h h10 → rg x7 → rg x8 → rg x9 → m11 x7 x8 x9 h10 < n → I11 x7 x8 x9 h10 → RR sc goal fs 340 77 [some (rv 79), some (.long (G p0)), none, some (.int (J x7)), some (.int (J x8)), some (.int (J x9))] [] h10 := by
          intro n
          induction n with
          | zero => intro x7 x8 x9 h10 t10 s10 rx7 rx8 rx9 q11 _; exact absurd q11 (Nat.not_lt_zero _)
          | succ n ih11 =>
            intro x7 x8 x9 h10 t10 s10 rx7 rx8 rx9 q11 z11
            have w := y11 x7 x8 x9 h10 t10 s10 rx7 rx8 rx9 z11
            refine r_n (pc1 := 79) [.int (J x9)] _ rfl rfl ?_
            refine r_n (pc1 := 81) [.int (J 12), .int (J x9)] _ rfl rfl ?_
            obtain ⟨J12, j12, w⟩ := w
            have Q12 : J12 → RR sc goal fs 340 129 [some (rv 79), some (.long (G p0)), none, some (.int (J x7)), some (.int (J x8)), some (.int (J x9))] [] h10 := by
              intro z12
              have w := j12 z12
              refine r_aldn (pc1 := 130) rfl rfl rfl ?_
              refine r_n (pc1 := 131) [.int (J x7), rv 79] _ rfl rfl ?_
              obtain ⟨J14, j14, w⟩ := w
              have Q14 : ∀ (x13 : Int), rg x13 → J14 x13 → RR sc goal fs 340 139 [some (rv 79), some (.long (G p0)), none, some (.int (J x7)), some (.int (J x8)), some (.int (J x9))] [.int (J x13), rv 79] h10 := by
                intro x13 rx13 z14
                have w := j14 x13 rx13 z14
                obtain ⟨c15, w⟩ := w
                refine r_pfB (pc1 := 142) rfl rfl rfl t10 (lyk t10 rfl) rfl rfl rfl c15 (fun h16 eh16 t16 u16 => ?_)
                have w := w h16 eh16 t16 u16
                have s16 := HX_trans s10 u16
                refine r_n (pc1 := 143) [.int (J 0)] _ rfl rfl ?_
                refine r_ist (pc1 := 145) (ls1 := [some (rv 79), some (.long (G p0)), none, some (.int (J x7)), some (.int (J x8)), some (.int (J 0))]) rfl rfl rfl rfl ?_
                obtain ⟨I20, m20, w, y20⟩ := w
                have Q20 : ∀ (n : Nat) (d17 : Option Value) (x18 : Int) (h19 : XH), HT h19 → HX h h19 → rg x18 → m20 x18 h19 < n → I20 x18 h19 → RR sc goal fs 340 145 [some (rv 79), some (.long (G p0)), none, some (.int (J x7)), d17, some (.int (J x18))] [] h19 := by
                  intro n
                  induction n with
                  | zero => intro d17 x18 h19 t19 s19 rx18 q20 _; exact absurd q20 (Nat.not_lt_zero _)
                  | succ n ih20 =>
                    intro d17 x18 h19 t19 s19 rx18 q20 z20
                    have w := y20 x18 h19 t19 s19 rx18 z20
                    refine r_n (pc1 := 147) [.int (J x18)] _ rfl rfl ?_
                    refine r_aldn (pc1 := 148) rfl rfl rfl ?_
                    refine r_gfC (pc1 := 151) (q := 9) rfl rfl rfl t19 (lyk t19 rfl) rfl rfl (lyR t19 rfl rfl) ?_
                    refine r_gfI (pc1 := 154) rfl rfl rfl t19 (lyk t19 rfl) rfl rfl ?_
                    obtain ⟨J21, j21, w⟩ := w
                    have Q21 : J21 → RR sc goal fs 340 181 [some (rv 79), some (.long (G p0)), none, some (.int (J x7)), d17, some (.int (J x18))] [] h19 := by
                      intro z21
                      have w := j21 z21
                      exact r_retV rfl rfl rfl (k _ t19 s19 w)
                    refine r_ic (t := 181) (pc1 := 157) rfl rfl rfl rx18 (rgh _ _ _) (fun c27 => ?_) (fun c27 => ?_)
                    · have w := w.1 c27
                      exact Q21     w
                    · have w := w.2 c27
                      refine r_aldn (pc1 := 158) rfl rfl rfl ?_
                      refine r_gfI (pc1 := 161) rfl rfl rfl t19 (lyk t19 rfl) rfl rfl ?_
                      refine r_iz (t := 181) (pc1 := 164) rfl rfl rfl (rgh _ _ _) (fun c26 => ?_) (fun c26 => ?_)
                      · have w := w.1 c26
                        exact Q21     w
                      · have w := w.2 c26
                        refine r_aldn (pc1 := 165) rfl rfl rfl ?_
                        refine r_n (pc1 := 167) [.int (J x18), rv 79] _ rfl rfl ?_
                        refine r_n (pc1 := 168) [.int (J x7), .int (J x18), rv 79] _ rfl rfl ?_
                        refine r_iv rfl rfl rfl rfl rfl rfl t19 (lyk t19 rfl) rfl (xe_of (xa_r (xa_i (xa_i xa_0))) rfl rfl) (r_d0 hd rfl) (a_X2_isRingFrom x18 x7 (r_d1 hd rfl) rx18 rx7 w t19 (fun x22 h23 t23 u23 rx22 vx22 w => ?_))
                        refine r_fI (pc1 := 171) rfl ?_
                        have s23 := HX_trans s19 u23
                        have w := w t23 u23
                        have w := w rx22 vx22
                        refine r_iz (t := 175) (pc1 := 174) rfl rfl rfl rx22 (fun c25 => ?_) (fun c25 => ?_)
                        · have w := w.1 c25
                          refine r_inc (pc1 := 178) (g := fun zz => [some (rv 79), some (.long (G p0)), none, some (.int (J x7)), (dcl d17), some (.int (J zz))]) rfl rfl rfl rfl (fun _ => xput1_d rfl rfl) (fun x24 ex24 rx24 => ?_)
                          have w := w x24 ex24 rx24
                          refine r_goto (t := 145) rfl rfl ?_
                          exact ih20 _ x24 h23 t23 s23 rx24 (Nat.lt_of_lt_of_le w.2 (Nat.le_of_lt_succ q20)) w.1
                        · have w := w.2 c25
                          exact r_retV rfl rfl rfl (k _ t23 s23 w)
                exact Q20 _ _ 0 h16 t16 s16 (rgk rfl) (Nat.lt_succ_self _) w
              refine r_iz (t := 138) (pc1 := 134) rfl rfl rfl rx7 (fun c28 => ?_) (fun c28 => ?_)
              · have w := w.1 c28
                refine r_n (pc1 := 139) [.int (J 0), rv 79] _ rfl rfl ?_
                exact Q14  0  (rgk rfl) w
              · have w := w.2 c28
                refine r_n (pc1 := 135) [.int (J 1), rv 79] _ rfl rfl ?_
                refine r_goto (t := 139) rfl rfl ?_
                exact Q14  1  (rgk rfl) w
            refine r_ic (t := 129) (pc1 := 84) rfl rfl rfl rx9 (rgk rfl) (fun c36 => ?_) (fun c36 => ?_)
            · have w := w.1 c36
              exact Q12     w
            · have w := w.2 c36
              refine r_n (pc1 := 86) [.int (J x8)] _ rfl rfl ?_
              refine r_n (pc1 := 87) [.int (J (-1)), .int (J x8)] _ rfl rfl ?_
              refine r_ic (t := 129) (pc1 := 90) rfl rfl rfl rx8 (rgk rfl) (fun c35 => ?_) (fun c35 => ?_)
              · have w := w.1 c35
                exact Q12     w
              · have w := w.2 c35
                refine r_aldn (pc1 := 91) rfl rfl rfl ?_
                refine r_gfC (pc1 := 94) (q := 82) rfl rfl rfl t10 (lyk t10 rfl) rfl rfl (lyR t10 rfl rfl) ?_
                refine r_n (pc1 := 96) [.int (J x9), rv 82] _ rfl rfl ?_
                refine r_n (pc1 := 98) [.int (J x8), .int (J x9), rv 82] _ rfl rfl ?_
                obtain ⟨c29, w⟩ := w
                refine r_iast (pc1 := 99) rfl rfl t10 (lyk t10 rfl) rx9 c29.1 (lt_len (lyn t10 rfl) c29.2) (fun h30 eh30 t30 u30 => ?_)
                have w := w h30 eh30 t30 u30
                have s30 := HX_trans s10 u30
                refine r_aldn (pc1 := 100) rfl rfl rfl ?_
                refine r_n (pc1 := 102) [.int (J x9), rv 79] _ rfl rfl ?_
                refine r_n (pc1 := 103) [.int (J 1), .int (J x9), rv 79] _ rfl rfl ?_
                refine r_iadd (pc1 := 104) rfl rfl ?_
                refine r_pfI (pc1 := 107) rfl rfl rfl t30 (lyk t30 rfl) rfl rfl rfl (fun h31 eh31 t31 u31 => ?_)
                have w := w h31 eh31 t31 u31
                have s31 := HX_trans s30 u31
                refine r_n (pc1 := 108) [.int (J x7)] _ rfl rfl ?_
                refine r_n (pc1 := 109) [.int (J 1), .int (J x7)] _ rfl rfl ?_
                refine r_n (pc1 := 111) [.int (J x8), .int (J 1), .int (J x7)] _ rfl rfl ?_
                refine r_ishl (pc1 := 112) rfl rfl ?_
                refine r_n (pc1 := 113) [.int (J (-1)), .int (J (ishl 1 x8)), .int (J x7)] _ rfl rfl ?_
                refine r_ixor (pc1 := 114) rfl rfl ?_
                refine r_iand (pc1 := 115) rfl rfl ?_
                refine r_vI (rgt _) (fun x32 ex32 rx32 => ?_)
                have w := w x32 ex32 rx32
                refine r_istn (pc1 := 116) (ls1 := [some (rv 79), some (.long (G p0)), none, some (.int (J x32)), some (.int (J x8)), some (.int (J x9))]) rfl rfl rfl rfl ?_
                refine r_aldn (pc1 := 117) rfl rfl rfl ?_
                refine r_n (pc1 := 118) [.int (J x32), rv 79] _ rfl rfl ?_
                refine r_iv rfl rfl rfl rfl rfl rfl t31 (lyk t31 rfl) rfl (xe_of (xa_r (xa_i xa_0)) rfl rfl) (r_d0 hd rfl) (a_X2_firstFree x32 (r_d1 hd rfl) rx32 w t31 (fun x33 rx33 w => ?_))
                refine r_fI (pc1 := 121) rfl ?_
                have w := w rx33
                refine r_ist (pc1 := 123) (ls1 := [some (rv 79), some (.long (G p0)), none, some (.int (J x32)), some (.int (J x33)), some (.int (J x9))]) rfl rfl rfl rfl ?_
                refine r_inc (pc1 := 126) (g := fun zz => [some (rv 79), some (.long (G p0)), none, some (.int (J x32)), some (.int (J x33)), some (.int (J zz))]) rfl rfl rfl rfl (fun _ => rfl) (fun x34 ex34 rx34 => ?_)
                have w := w x34 ex34 rx34
                refine r_goto (t := 77) rfl rfl ?_
                exact ih11  x32 x33 x34 h31 t31 s31 rx32 rx33 rx34 (Nat.lt_of_lt_of_le w.2 (Nat.le_of_lt_succ q11)) w.1
        exact Q11 _  x1 x6 0 h5 t5 s5 rx1 rx6 (rgk rfl) (Nat.lt_succ_self _) w
      · have w := w.2 c46
        refine r_aldn (pc1 := 18) rfl rfl rfl ?_
        refine r_gfC (pc1 := 21) (q := 80) rfl rfl rfl t3 (lyk t3 rfl) rfl rfl (lyR t3 rfl rfl) ?_
        refine r_n (pc1 := 23) [.int (J x2), rv 80] _ rfl rfl ?_
        refine r_aldn (pc1 := 24) rfl rfl rfl ?_
        refine r_n (pc1 := 26) [.int (J x2), rv 79, .int (J x2), rv 80] _ rfl rfl ?_
        refine r_n (pc1 := 27) [.long (G p0), .int (J x2), rv 79, .int (J x2), rv 80] _ rfl rfl ?_
        refine r_iv rfl rfl rfl rfl rfl rfl t3 (lyk t3 rfl) rfl (xe_of (xa_r (xa_i (xa_l xa_0))) rfl rfl) (r_d0 hd rfl) (a_X2_aheadOf x2 p0 (r_d1 hd rfl) rx2 w t3 (fun x37 rx37 w => ?_))
        refine r_fI (pc1 := 30) rfl ?_
        have w := w rx37
        obtain ⟨c38, w⟩ := w
        refine r_iast (pc1 := 31) rfl rfl t3 (lyk t3 rfl) rx2 c38.1 (lt_len (lyn t3 rfl) c38.2) (fun h39 eh39 t39 u39 => ?_)
        have w := w h39 eh39 t39 u39
        have s39 := HX_trans s3 u39
        refine r_n (pc1 := 32) [.int (J x1)] _ rfl rfl ?_
        refine r_aldn (pc1 := 33) rfl rfl rfl ?_
        refine r_gfC (pc1 := 36) (q := 9) rfl rfl rfl t39 (lyk t39 rfl) rfl rfl (lyR t39 rfl rfl) ?_
        refine r_n (pc1 := 37) [.long (G p0), rv 9, .int (J x1)] _ rfl rfl ?_
        refine r_n (pc1 := 39) [.int (J x2), .long (G p0), rv 9, .int (J x1)] _ rfl rfl ?_
        refine r_iv rfl rfl rfl rfl rfl rfl t39 (lyk t39 rfl) rfl (xe_of (xa_r (xa_l (xa_i xa_0))) rfl rfl) (r_d0 hd rfl) (a_X8_idIn p0 x2 (r_d1 hd rfl) rx2 w t39 (fun x40 rx40 w => ?_))
        refine r_fI (pc1 := 42) rfl ?_
        have w := w rx40
        refine r_n (pc1 := 43) [.int (J (-1)), .int (J x40), .int (J x1)] _ rfl rfl ?_
        obtain ⟨J42, j42, w⟩ := w
        have Q42 : ∀ (x41 : Int), rg x41 → J42 x41 → RR sc goal fs 340 54 [some (rv 79), some (.long (G p0)), none, some (.int (J x1)), some (.int (J x2)), none] [.int (J x41), .int (J x1)] h39 := by
          intro x41 rx41 z42
          have w := j42 x41 rx41 z42
          refine r_ior (pc1 := 55) rfl rfl ?_
          refine r_vI (rgt _) (fun x43 ex43 rx43 => ?_)
          have w := w x43 ex43 rx43
          refine r_istn (pc1 := 56) (ls1 := [some (rv 79), some (.long (G p0)), none, some (.int (J x43)), some (.int (J x2)), none]) rfl rfl rfl rfl ?_
          refine r_inc (pc1 := 59) (g := fun zz => [some (rv 79), some (.long (G p0)), none, some (.int (J x43)), some (.int (J zz)), none]) rfl rfl rfl rfl (fun _ => rfl) (fun x44 ex44 rx44 => ?_)
          have w := w x44 ex44 rx44
          refine r_goto (t := 5) rfl rfl ?_
          exact ih4  x43 x44 h39 t39 s39 rx43 rx44 (Nat.lt_of_lt_of_le w.2 (Nat.le_of_lt_succ q4)) w.1
        refine r_ic (t := 53) (pc1 := 46) rfl rfl rfl rx40 (rgk rfl) (fun c45 => ?_) (fun c45 => ?_)
        · have w := w.1 c45
          refine r_n (pc1 := 54) [.int (J 0), .int (J x1)] _ rfl rfl ?_
          exact Q42  0  (rgk rfl) w
        · have w := w.2 c45
          refine r_n (pc1 := 47) [.int (J 1), .int (J x1)] _ rfl rfl ?_
          refine r_n (pc1 := 49) [.int (J x2), .int (J 1), .int (J x1)] _ rfl rfl ?_
          refine r_ishl (pc1 := 50) rfl rfl ?_
          refine r_goto (t := 54) rfl rfl ?_
          exact Q42  (ishl 1 x2)  (rgt _) w
  exact Q4 _  0 0 h t0 (HX_refl h) (rgk rfl) (rgk rfl) (Nat.lt_succ_self _) w
def w_X12_packsIn (p0 : BitVec 64) (K : Int → Prop) (h : XH) : Prop :=
  (w_J13_bitCount_95d88 (p0 &&& (1099511627775#64)) (fun x1 => rg x1 → (K x1)) h)
set_option maxHeartbeats 4000000 in
theorem a_X12_packsIn {sc : Nat × (Nat → Int32)} {goal : XO → XH → Prop} {fs : List XF} {h : XH} (p0 : BitVec 64) {K : Int → Prop} (hd : fs.length + 1 ≤ 1000) (w : w_X12_packsIn p0 K h) (t0 : HT h) (k : ∀ (r : Int), rg r → K r → XFin xP sc goal fs (.inl (some (.int (J r)))) h) : RR sc goal fs 137 0 [some (.long (G p0)), none] [] h := by
  unfold w_X12_packsIn at w
  refine r_n (pc1 := 1) [.long (G p0)] _ rfl rfl ?_
  refine r_n (pc1 := 4) [.long (G (1099511627775#64)), .long (G p0)] _ rfl rfl ?_
  refine r_land (pc1 := 5) rfl rfl ?_
  refine r_iq rfl rfl rfl rfl rfl rfl (xe_of (xa_l xa_0) rfl rfl) (r_d0 hd rfl) (a_J13_bitCount_95d88 (p0 &&& (1099511627775#64)) (r_d1 hd rfl)  w t0 (fun x1 rx1 w => ?_))
  refine r_fI (pc1 := 8) rfl ?_
  have w := w rx1
  exact r_retI rfl rfl rfl (k _ rx1 w)
def w_X2_comingCount  (K : Int → Prop) (h : XH) : Prop :=
  (w_X11_atHand (fun a1 => (hk h a1 = 7 ∧ w_X12_packsIn ((hL h a1 5) &&& ((hL h a1 6) ^^^ (18446744073709551615#64))) (fun x3 => rg x3 → (K x3)) h)) h)
set_option maxHeartbeats 4000000 in
theorem a_X2_comingCount {sc : Nat × (Nat → Int32)} {goal : XO → XH → Prop} {fs : List XF} {h : XH}  {K : Int → Prop} (hd : fs.length + 2 ≤ 1000) (w : w_X2_comingCount  K h) (t0 : HT h) (k : ∀ (r : Int), rg r → K r → XFin xP sc goal fs (.inl (some (.int (J r)))) h) : RR sc goal fs 342 0 [some (rv 79), none] [] h := by
  unfold w_X2_comingCount at w
  refine r_aldn (pc1 := 1) rfl rfl rfl ?_
  refine r_gfC (pc1 := 4) (q := 8) rfl rfl rfl t0 (lyk t0 rfl) rfl rfl (lyR t0 rfl rfl) ?_
  refine r_iv rfl rfl rfl rfl rfl rfl t0 (lyk t0 rfl) rfl (xe_of (xa_r xa_0) rfl rfl) (r_d0 hd rfl) (a_X11_atHand  (r_d1 hd rfl)  w t0 (fun a1 w => ?_))
  refine r_fR (pc1 := 7) rfl ?_
  refine r_astn (pc1 := 8) (ls1 := [some (rv 79), some (rv a1)]) rfl rfl rfl rfl ?_
  refine r_aldn (pc1 := 9) rfl rfl rfl ?_
  obtain ⟨c2, w⟩ := w
  refine r_gfL (pc1 := 12) rfl rfl rfl t0 c2 rfl rfl ?_
  refine r_aldn (pc1 := 13) rfl rfl rfl ?_
  refine r_gfL (pc1 := 16) rfl rfl rfl t0 c2 rfl rfl ?_
  refine r_n (pc1 := 19) [.long (G (18446744073709551615#64)), .long (G (hL h a1 6)), .long (G (hL h a1 5))] _ rfl rfl ?_
  refine r_lxor (pc1 := 20) rfl rfl ?_
  refine r_land (pc1 := 21) rfl rfl ?_
  refine r_iq rfl rfl rfl rfl rfl rfl (xe_of (xa_l xa_0) rfl rfl) (r_d0 hd rfl) (a_X12_packsIn ((hL h a1 5) &&& ((hL h a1 6) ^^^ (18446744073709551615#64))) (r_d1 hd rfl)  w t0 (fun x3 rx3 w => ?_))
  refine r_fI (pc1 := 24) rfl ?_
  have w := w rx3
  exact r_retI rfl rfl rfl (k _ rx3 w)
def w_X2_comingOf (p0 : Int) (K : Int → Prop) (h : XH) : Prop :=
  (w_X11_atHand (fun a1 => (hk h a1 = 7 ∧ w_X8_idIn ((hL h a1 5) &&& ((hL h a1 6) ^^^ (18446744073709551615#64))) p0 (fun x3 => rg x3 → (K x3)) h)) h)
set_option maxHeartbeats 4000000 in
theorem a_X2_comingOf {sc : Nat × (Nat → Int32)} {goal : XO → XH → Prop} {fs : List XF} {h : XH} (p0 : Int) {K : Int → Prop} (hd : fs.length + 2 ≤ 1000) (rp0 : rg p0) (w : w_X2_comingOf p0 K h) (t0 : HT h) (k : ∀ (r : Int), rg r → K r → XFin xP sc goal fs (.inl (some (.int (J r)))) h) : RR sc goal fs 343 0 [some (rv 79), some (.int (J p0)), none] [] h := by
  unfold w_X2_comingOf at w
  refine r_aldn (pc1 := 1) rfl rfl rfl ?_
  refine r_gfC (pc1 := 4) (q := 8) rfl rfl rfl t0 (lyk t0 rfl) rfl rfl (lyR t0 rfl rfl) ?_
  refine r_iv rfl rfl rfl rfl rfl rfl t0 (lyk t0 rfl) rfl (xe_of (xa_r xa_0) rfl rfl) (r_d0 hd rfl) (a_X11_atHand  (r_d1 hd rfl)  w t0 (fun a1 w => ?_))
  refine r_fR (pc1 := 7) rfl ?_
  refine r_astn (pc1 := 8) (ls1 := [some (rv 79), some (.int (J p0)), some (rv a1)]) rfl rfl rfl rfl ?_
  refine r_aldn (pc1 := 9) rfl rfl rfl ?_
  refine r_gfC (pc1 := 12) (q := 9) rfl rfl rfl t0 (lyk t0 rfl) rfl rfl (lyR t0 rfl rfl) ?_
  refine r_aldn (pc1 := 13) rfl rfl rfl ?_
  obtain ⟨c2, w⟩ := w
  refine r_gfL (pc1 := 16) rfl rfl rfl t0 c2 rfl rfl ?_
  refine r_aldn (pc1 := 17) rfl rfl rfl ?_
  refine r_gfL (pc1 := 20) rfl rfl rfl t0 c2 rfl rfl ?_
  refine r_n (pc1 := 23) [.long (G (18446744073709551615#64)), .long (G (hL h a1 6)), .long (G (hL h a1 5)), rv 9] _ rfl rfl ?_
  refine r_lxor (pc1 := 24) rfl rfl ?_
  refine r_land (pc1 := 25) rfl rfl ?_
  refine r_n (pc1 := 26) [.int (J p0), .long (G ((hL h a1 5) &&& ((hL h a1 6) ^^^ (18446744073709551615#64)))), rv 9] _ rfl rfl ?_
  refine r_iv rfl rfl rfl rfl rfl rfl t0 (lyk t0 rfl) rfl (xe_of (xa_r (xa_l (xa_i xa_0))) rfl rfl) (r_d0 hd rfl) (a_X8_idIn ((hL h a1 5) &&& ((hL h a1 6) ^^^ (18446744073709551615#64))) p0 (r_d1 hd rfl) rp0 w t0 (fun x3 rx3 w => ?_))
  refine r_fI (pc1 := 29) rfl ?_
  have w := w rx3
  exact r_retI rfl rfl rfl (k _ rx3 w)
def w_X11_mirrorFor (p0 : Int) (p1 : Int) (p2 : Int) (K : Int → XH → Prop) (h : XH) : Prop :=
  ((∃ (I4 : Int → XH → Prop) (m4 : Int → XH → Nat), I4 0 h ∧ ∀ (x1 : Int) (h3 : XH), HT h3 → HX h h3 → rg x1 → I4 x1 h3 → (((hI h3 8 6 ≤ x1 → (K (-1) h3)) ∧ (¬ (hI h3 8 6 ≤ x1) → (¬ hI h3 8 6 = 0 ∧ ¬ hI h3 8 6 = 0 ∧ ∀ x7 : Int, x7 = irem (wr ((irem p1 (hI h3 8 6)) + x1)) (hI h3 8 6) → rg x7 → ∃ J9 : XH → Prop, (∀ (h8 : XH), HT h8 → HX h h8 → J9 h8 → (∀ x10 : Int, x10 = wr (x1 + 1) → rg x10 → (I4 x10 h8 ∧ m4 x10 h8 < m4 x1 h3))) ∧ ((x7 < 0 → J9 h3) ∧ (¬ (x7 < 0) → ((0 ≤ x7 ∧ x7 < 3) ∧ w_X12_has (hL h3 41 x7.toNat) p0 (fun x12 => rg x12 → (x12 = 0 ∨ x12 = 1) → (((x12 = 0 → J9 h3) ∧ (¬ (x12 = 0) → (∀ x13 : Int, x13 = wr ((wr (x7 * 40)) + p0) → rg x13 → (0 ≤ x13 ∧ x13 < 120) ∧ (0 ≤ p0 ∧ p0 < 40) ∧ ((¬ hI h3 42 x13.toNat = hI h3 17 p0.toNat → (∃ J17 : Int → Prop, (∀ (x16 : Int), rg x16 → J17 x16 → (∀ h18 : XH, h18 = sI h3 40 x7.toNat (wr ((hI h3 40 x7.toNat) + x16)) → HT h18 → HX h3 h18 → J9 h18)) ∧ ((p2 = 0 → (J17 0)) ∧ (¬ (p2 = 0) → (J17 1))))) ∧ (¬ (¬ hI h3 42 x13.toNat = hI h3 17 p0.toNat) → (K x7 h3)))))))) h3)))))))))
set_option maxHeartbeats 4000000 in
theorem a_X11_mirrorFor {sc : Nat × (Nat → Int32)} {goal : XO → XH → Prop} {fs : List XF} {h : XH} (p0 : Int) (p1 : Int) (p2 : Int) {K : Int → XH → Prop} (hd : fs.length + 1 ≤ 1000) (rp0 : rg p0) (rp1 : rg p1) (rp2 : rg p2) (w : w_X11_mirrorFor p0 p1 p2 K h) (t0 : HT h) (k : ∀ (r : Int) (h1 : XH), HT h1 → HX h h1 → rg r → K r h1 → XFin xP sc goal fs (.inl (some (.int (J r)))) h1) : RR sc goal fs 80 0 [some (rv 8), some (.int (J p0)), some (.int (J p1)), some (.int (J p2)), none, none] [] h := by
  unfold w_X11_mirrorFor at w
  refine r_n (pc1 := 1) [.int (J 0)] _ rfl rfl ?_
  refine r_ist (pc1 := 3) (ls1 := [some (rv 8), some (.int (J p0)), some (.int (J p1)), some (.int (J p2)), some (.int (J 0)), none]) rfl rfl rfl rfl ?_
  obtain ⟨I4, m4, w, y4⟩ := w
  have Q4 : ∀ (n : Nat) (d2 : Option Value) (x1 : Int) (h3 : XH), HT h3 → HX h h3 → rg x1 → m4 x1 h3 < n → I4 x1 h3 → RR sc goal fs 80 3 [some (rv 8), some (.int (J p0)), some (.int (J p1)), some (.int (J p2)), some (.int (J x1)), d2] [] h3 := by
    intro n
    induction n with
    | zero => intro d2 x1 h3 t3 s3 rx1 q4 _; exact absurd q4 (Nat.not_lt_zero _)
    | succ n ih4 =>
      intro d2 x1 h3 t3 s3 rx1 q4 z4
      have w := y4 x1 h3 t3 s3 rx1 z4
      refine r_n (pc1 := 5) [.int (J x1)] _ rfl rfl ?_
      refine r_aldn (pc1 := 6) rfl rfl rfl ?_
      refine r_gfI (pc1 := 9) rfl rfl rfl t3 (lyk t3 rfl) rfl rfl ?_
      refine r_ic (t := 99) (pc1 := 12) rfl rfl rfl rx1 (rgh _ _ _) (fun c23 => ?_) (fun c23 => ?_)
      · have w := w.1 c23
        refine r_n (pc1 := 100) [.int (J (-1))] _ rfl rfl ?_
        exact r_retI rfl rfl rfl (k _ _ t3 s3 (rgk rfl) w)
      · have w := w.2 c23
        refine r_n (pc1 := 13) [.int (J p1)] _ rfl rfl ?_
        refine r_aldn (pc1 := 14) rfl rfl rfl ?_
        refine r_gfI (pc1 := 17) rfl rfl rfl t3 (lyk t3 rfl) rfl rfl ?_
        obtain ⟨c5, w⟩ := w
        refine r_irem (pc1 := 18) rfl rfl (rgh _ _ _) c5 ?_
        refine r_n (pc1 := 20) [.int (J x1), .int (J (irem p1 (hI h3 8 6)))] _ rfl rfl ?_
        refine r_iadd (pc1 := 21) rfl rfl ?_
        refine r_aldn (pc1 := 22) rfl rfl rfl ?_
        refine r_gfI (pc1 := 25) rfl rfl rfl t3 (lyk t3 rfl) rfl rfl ?_
        obtain ⟨c6, w⟩ := w
        refine r_irem (pc1 := 26) rfl rfl (rgh _ _ _) c6 ?_
        refine r_vI (rgt _) (fun x7 ex7 rx7 => ?_)
        have w := w x7 ex7 rx7
        refine r_ist (pc1 := 28) (ls1 := [some (rv 8), some (.int (J p0)), some (.int (J p1)), some (.int (J p2)), some (.int (J x1)), some (.int (J x7))]) rfl rfl rfl rfl ?_
        refine r_n (pc1 := 30) [.int (J x7)] _ rfl rfl ?_
        obtain ⟨J9, j9, w⟩ := w
        have Q9 : ∀ (h8 : XH), HT h8 → HX h h8 → J9 h8 → RR sc goal fs 80 93 [some (rv 8), some (.int (J p0)), some (.int (J p1)), some (.int (J p2)), some (.int (J x1)), some (.int (J x7))] [] h8 := by
          intro h8 t8 s8 z9
          have w := j9 h8 t8 s8 z9
          refine r_inc (pc1 := 96) (g := fun zz => [some (rv 8), some (.int (J p0)), some (.int (J p1)), some (.int (J p2)), some (.int (J zz)), some (.int (J x7))]) rfl rfl rfl rfl (fun _ => rfl) (fun x10 ex10 rx10 => ?_)
          have w := w x10 ex10 rx10
          refine r_goto (t := 3) rfl rfl ?_
          exact ih4 _ x10 h8 t8 s8 rx10 (Nat.lt_of_lt_of_le w.2 (Nat.le_of_lt_succ q4)) w.1
        refine r_iz (t := 93) (pc1 := 33) rfl rfl rfl rx7 (fun c22 => ?_) (fun c22 => ?_)
        · have w := w.1 c22
          exact Q9   h3 t3 s3  w
        · have w := w.2 c22
          refine r_aldn (pc1 := 34) rfl rfl rfl ?_
          refine r_gfC (pc1 := 37) (q := 41) rfl rfl rfl t3 (lyk t3 rfl) rfl rfl (lyR t3 rfl rfl) ?_
          refine r_n (pc1 := 39) [.int (J x7), rv 41] _ rfl rfl ?_
          obtain ⟨c11, w⟩ := w
          refine r_lal (pc1 := 40) rfl rfl t3 (lyk t3 rfl) rx7 c11.1 (lt_len (lyn t3 rfl) c11.2) ?_
          refine r_n (pc1 := 41) [.int (J p0), .long (G (hL h3 41 x7.toNat))] _ rfl rfl ?_
          refine r_iq rfl rfl rfl rfl rfl rfl (xe_of (xa_l (xa_i xa_0)) rfl rfl) (r_d0 hd rfl) (a_X12_has (hL h3 41 x7.toNat) p0 (r_d1 hd rfl) rp0 w t3 (fun x12 rx12 vx12 w => ?_))
          refine r_fI (pc1 := 44) rfl ?_
          have w := w rx12 vx12
          refine r_iz (t := 93) (pc1 := 47) rfl rfl rfl rx12 (fun c21 => ?_) (fun c21 => ?_)
          · have w := w.1 c21
            exact Q9   h3 t3 s3  w
          · have w := w.2 c21
            refine r_aldn (pc1 := 48) rfl rfl rfl ?_
            refine r_gfC (pc1 := 51) (q := 42) rfl rfl rfl t3 (lyk t3 rfl) rfl rfl (lyR t3 rfl rfl) ?_
            refine r_n (pc1 := 53) [.int (J x7), rv 42] _ rfl rfl ?_
            refine r_n (pc1 := 55) [.int (J 40), .int (J x7), rv 42] _ rfl rfl ?_
            refine r_imul (pc1 := 56) rfl rfl ?_
            refine r_n (pc1 := 57) [.int (J p0), .int (J (wr (x7 * 40))), rv 42] _ rfl rfl ?_
            refine r_iadd (pc1 := 58) rfl rfl ?_
            refine r_vI (rgw _) (fun x13 ex13 rx13 => ?_)
            have w := w x13 ex13 rx13
            obtain ⟨c14, w⟩ := w
            refine r_ial (pc1 := 59) rfl rfl t3 (lyk t3 rfl) rx13 c14.1 (lt_len (lyn t3 rfl) c14.2) ?_
            refine r_aldn (pc1 := 60) rfl rfl rfl ?_
            refine r_gfC (pc1 := 63) (q := 9) rfl rfl rfl t3 (lyk t3 rfl) rfl rfl (lyR t3 rfl rfl) ?_
            refine r_gfC (pc1 := 66) (q := 17) rfl rfl rfl t3 (lyk t3 rfl) rfl rfl (lyR t3 rfl rfl) ?_
            refine r_n (pc1 := 67) [.int (J p0), rv 17, .int (J (hI h3 42 x13.toNat))] _ rfl rfl ?_
            obtain ⟨c15, w⟩ := w
            refine r_ial (pc1 := 68) rfl rfl t3 (lyk t3 rfl) rp0 c15.1 (lt_len (lyn t3 rfl) c15.2) ?_
            refine r_ic (t := 74) (pc1 := 71) rfl rfl rfl (rgh _ _ _) (rgh _ _ _) (fun c20 => ?_) (fun c20 => ?_)
            · have w := w.1 c20
              refine r_aldn (pc1 := 75) rfl rfl rfl ?_
              refine r_gfC (pc1 := 78) (q := 40) rfl rfl rfl t3 (lyk t3 rfl) rfl rfl (lyR t3 rfl rfl) ?_
              refine r_n (pc1 := 80) [.int (J x7), rv 40] _ rfl rfl ?_
              refine r_dup2 (pc1 := 81) rfl rfl ?_
              refine r_ial (pc1 := 82) rfl rfl t3 (lyk t3 rfl) rx7 c11.1 (lt_len (lyn t3 rfl) c11.2) ?_
              refine r_n (pc1 := 83) [.int (J p2), .int (J (hI h3 40 x7.toNat)), .int (J x7), rv 40] _ rfl rfl ?_
              obtain ⟨J17, j17, w⟩ := w
              have Q17 : ∀ (x16 : Int), rg x16 → J17 x16 → RR sc goal fs 80 91 [some (rv 8), some (.int (J p0)), some (.int (J p1)), some (.int (J p2)), some (.int (J x1)), some (.int (J x7))] [.int (J x16), .int (J (hI h3 40 x7.toNat)), .int (J x7), rv 40] h3 := by
                intro x16 rx16 z17
                have w := j17 x16 rx16 z17
                refine r_iadd (pc1 := 92) rfl rfl ?_
                refine r_iast (pc1 := 93) rfl rfl t3 (lyk t3 rfl) rx7 c11.1 (lt_len (lyn t3 rfl) c11.2) (fun h18 eh18 t18 u18 => ?_)
                have w := w h18 eh18 t18 u18
                have s18 := HX_trans s3 u18
                exact Q9   h18 t18 s18  w
              refine r_iz (t := 90) (pc1 := 86) rfl rfl rfl rp2 (fun c19 => ?_) (fun c19 => ?_)
              · have w := w.1 c19
                refine r_n (pc1 := 91) [.int (J 0), .int (J (hI h3 40 x7.toNat)), .int (J x7), rv 40] _ rfl rfl ?_
                exact Q17  0  (rgk rfl) w
              · have w := w.2 c19
                refine r_n (pc1 := 87) [.int (J 1), .int (J (hI h3 40 x7.toNat)), .int (J x7), rv 40] _ rfl rfl ?_
                refine r_goto (t := 91) rfl rfl ?_
                exact Q17  1  (rgk rfl) w
            · have w := w.2 c20
              refine r_n (pc1 := 73) [.int (J x7)] _ rfl rfl ?_
              exact r_retI rfl rfl rfl (k _ _ t3 s3 rx7 w)
  exact Q4 _ _ 0 h t0 (HX_refl h) (rgk rfl) (Nat.lt_succ_self _) w
def w_X2_comingAt (p0 : Int) (p1 : Int) (K : Int → XH → Prop) (h : XH) : Prop :=
  (∀ x1 : Int, x1 = hI h 8 7 → rg x1 → (∃ (I8 : Int → Int → Int → XH → Prop) (m8 : Int → Int → Int → XH → Nat), I8 x1 0 0 h ∧ ∀ (x2 : Int) (x3 : Int) (x4 : Int) (h7 : XH), HT h7 → HX h h7 → rg x2 → rg x3 → rg x4 → I8 x2 x3 x4 h7 → (((hI h7 79 6 ≤ x4 → (K (-1) h7)) ∧ (¬ (hI h7 79 6 ≤ x4) → ((0 ≤ x4 ∧ x4 < 12) ∧ w_X2_comingOf (hI h7 82 x4.toNat) (fun x10 => rg x10 → (∃ J16 : Int → Int → XH → Prop, (∀ (x11 : Int) (x12 : Int) (h15 : XH), HT h15 → HX h h15 → rg x11 → rg x12 → J16 x11 x12 h15 → (∀ x17 : Int, x17 = wr (x4 + 1) → rg x17 → (I8 x11 x12 x17 h15 ∧ m8 x11 x12 x17 h15 < m8 x2 x3 x4 h7))) ∧ ((x10 = (-1) → J16 x2 x3 h7) ∧ (¬ (x10 = (-1)) → (w_X11_mirrorFor x10 x2 0 (fun x18 h19 => HT h19 → HX h7 h19 → rg x18 → (((¬ x3 = p0 → (∃ J21 : Int → Prop, (∀ (x20 : Int), rg x20 → J21 x20 → (∀ x22 : Int, x22 = wr (x2 + x20) → rg x22 → ∀ x23 : Int, x23 = wr (x3 + 1) → rg x23 → J16 x22 x23 h19)) ∧ ((x18 = (-1) → (J21 0)) ∧ (¬ (x18 = (-1)) → (J21 1))))) ∧ (¬ (¬ x3 = p0) → (∃ J26 : Int → Prop, (∀ (x25 : Int), rg x25 → J26 x25 → (K x25 h19)) ∧ ((p1 = 0 → (J26 (hI h19 82 x4.toNat))) ∧ (¬ (p1 = 0) → (J26 x18)))))))) h7))))) h7))))))
set_option maxHeartbeats 4000000 in
theorem a_X2_comingAt {sc : Nat × (Nat → Int32)} {goal : XO → XH → Prop} {fs : List XF} {h : XH} (p0 : Int) (p1 : Int) {K : Int → XH → Prop} (hd : fs.length + 3 ≤ 1000) (rp0 : rg p0) (rp1 : rg p1) (w : w_X2_comingAt p0 p1 K h) (t0 : HT h) (k : ∀ (r : Int) (h1 : XH), HT h1 → HX h h1 → rg r → K r h1 → XFin xP sc goal fs (.inl (some (.int (J r)))) h1) : RR sc goal fs 341 0 [some (rv 79), some (.int (J p0)), some (.int (J p1)), none, none, none, none, none] [] h := by
  unfold w_X2_comingAt at w
  refine r_aldn (pc1 := 1) rfl rfl rfl ?_
  refine r_gfC (pc1 := 4) (q := 8) rfl rfl rfl t0 (lyk t0 rfl) rfl rfl (lyR t0 rfl rfl) ?_
  refine r_gfI (pc1 := 7) rfl rfl rfl t0 (lyk t0 rfl) rfl rfl ?_
  refine r_vI (rgh _ _ _) (fun x1 ex1 rx1 => ?_)
  have w := w x1 ex1 rx1
  refine r_istn (pc1 := 8) (ls1 := [some (rv 79), some (.int (J p0)), some (.int (J p1)), some (.int (J x1)), none, none, none, none]) rfl rfl rfl rfl ?_
  refine r_n (pc1 := 9) [.int (J 0)] _ rfl rfl ?_
  refine r_ist (pc1 := 11) (ls1 := [some (rv 79), some (.int (J p0)), some (.int (J p1)), some (.int (J x1)), some (.int (J 0)), none, none, none]) rfl rfl rfl rfl ?_
  refine r_n (pc1 := 12) [.int (J 0)] _ rfl rfl ?_
  refine r_ist (pc1 := 14) (ls1 := [some (rv 79), some (.int (J p0)), some (.int (J p1)), some (.int (J x1)), some (.int (J 0)), some (.int (J 0)), none, none]) rfl rfl rfl rfl ?_
  obtain ⟨I8, m8, w, y8⟩ := w
  have Q8 : ∀ (n : Nat) (d5 : Option Value) (d6 : Option Value) (x2 : Int) (x3 : Int) (x4 : Int) (h7 : XH), HT h7 → HX h h7 → rg x2 → rg x3 → rg x4 → m8 x2 x3 x4 h7 < n → I8 x2 x3 x4 h7 → RR sc goal fs 341 14 [some (rv 79), some (.int (J p0)), some (.int (J p1)), some (.int (J x2)), some (.int (J x3)), some (.int (J x4)), d5, d6] [] h7 := by
    intro n
    induction n with
    | zero => intro d5 d6 x2 x3 x4 h7 t7 s7 rx2 rx3 rx4 q8 _; exact absurd q8 (Nat.not_lt_zero _)
    | succ n ih8 =>
      intro d5 d6 x2 x3 x4 h7 t7 s7 rx2 rx3 rx4 q8 z8
      have w := y8 x2 x3 x4 h7 t7 s7 rx2 rx3 rx4 z8
      refine r_n (pc1 := 16) [.int (J x4)] _ rfl rfl ?_
      refine r_aldn (pc1 := 17) rfl rfl rfl ?_
      refine r_gfI (pc1 := 20) rfl rfl rfl t7 (lyk t7 rfl) rfl rfl ?_
      refine r_ic (t := 101) (pc1 := 23) rfl rfl rfl rx4 (rgh _ _ _) (fun c30 => ?_) (fun c30 => ?_)
      · have w := w.1 c30
        refine r_n (pc1 := 102) [.int (J (-1))] _ rfl rfl ?_
        exact r_retI rfl rfl rfl (k _ _ t7 s7 (rgk rfl) w)
      · have w := w.2 c30
        refine r_aldn (pc1 := 24) rfl rfl rfl ?_
        refine r_aldn (pc1 := 25) rfl rfl rfl ?_
        refine r_gfC (pc1 := 28) (q := 82) rfl rfl rfl t7 (lyk t7 rfl) rfl rfl (lyR t7 rfl rfl) ?_
        refine r_n (pc1 := 30) [.int (J x4), rv 82, rv 79] _ rfl rfl ?_
        obtain ⟨c9, w⟩ := w
        refine r_ial (pc1 := 31) rfl rfl t7 (lyk t7 rfl) rx4 c9.1 (lt_len (lyn t7 rfl) c9.2) ?_
        refine r_iv rfl rfl rfl rfl rfl rfl t7 (lyk t7 rfl) rfl (xe_of (xa_r (xa_i xa_0)) rfl rfl) (r_d0 hd rfl) (a_X2_comingOf (hI h7 82 x4.toNat) (r_d1 hd rfl) (rgh _ _ _) w t7 (fun x10 rx10 w => ?_))
        refine r_fI (pc1 := 34) rfl ?_
        have w := w rx10
        refine r_ist (pc1 := 36) (ls1 := [some (rv 79), some (.int (J p0)), some (.int (J p1)), some (.int (J x2)), some (.int (J x3)), some (.int (J x4)), some (.int (J x10)), d6]) rfl rfl rfl rfl ?_
        refine r_n (pc1 := 38) [.int (J x10)] _ rfl rfl ?_
        refine r_n (pc1 := 39) [.int (J (-1)), .int (J x10)] _ rfl rfl ?_
        obtain ⟨J16, j16, w⟩ := w
        have Q16 : ∀ (d13 : Option Value) (d14 : Option Value) (x11 : Int) (x12 : Int) (h15 : XH), HT h15 → HX h h15 → rg x11 → rg x12 → J16 x11 x12 h15 → RR sc goal fs 341 95 [some (rv 79), some (.int (J p0)), some (.int (J p1)), some (.int (J x11)), some (.int (J x12)), some (.int (J x4)), d13, d14] [] h15 := by
          intro d13 d14 x11 x12 h15 t15 s15 rx11 rx12 z16
          have w := j16 x11 x12 h15 t15 s15 rx11 rx12 z16
          refine r_inc (pc1 := 98) (g := fun zz => [some (rv 79), some (.int (J p0)), some (.int (J p1)), some (.int (J x11)), some (.int (J x12)), some (.int (J zz)), d13, d14]) rfl rfl rfl rfl (fun _ => rfl) (fun x17 ex17 rx17 => ?_)
          have w := w x17 ex17 rx17
          refine r_goto (t := 14) rfl rfl ?_
          exact ih8 _ _ x11 x12 x17 h15 t15 s15 rx11 rx12 rx17 (Nat.lt_of_lt_of_le w.2 (Nat.le_of_lt_succ q8)) w.1
        refine r_ic (t := 95) (pc1 := 42) rfl rfl rfl rx10 (rgk rfl) (fun c29 => ?_) (fun c29 => ?_)
        · have w := w.1 c29
          exact Q16 _ _ x2 x3 h7 t7 s7 rx2 rx3 w
        · have w := w.2 c29
          refine r_aldn (pc1 := 43) rfl rfl rfl ?_
          refine r_gfC (pc1 := 46) (q := 8) rfl rfl rfl t7 (lyk t7 rfl) rfl rfl (lyR t7 rfl rfl) ?_
          refine r_n (pc1 := 48) [.int (J x10), rv 8] _ rfl rfl ?_
          refine r_n (pc1 := 49) [.int (J x2), .int (J x10), rv 8] _ rfl rfl ?_
          refine r_n (pc1 := 50) [.int (J 0), .int (J x2), .int (J x10), rv 8] _ rfl rfl ?_
          refine r_iv rfl rfl rfl rfl rfl rfl t7 (lyk t7 rfl) rfl (xe_of (xa_r (xa_i (xa_i (xa_i xa_0)))) rfl rfl) (r_d0 hd rfl) (a_X11_mirrorFor x10 x2 0 (r_d1 hd rfl) rx10 rx2 (rgk rfl) w t7 (fun x18 h19 t19 u19 rx18 w => ?_))
          refine r_fI (pc1 := 53) rfl ?_
          have s19 := HX_trans s7 u19
          have w := w t19 u19
          have w := w rx18
          refine r_ist (pc1 := 55) (ls1 := [some (rv 79), some (.int (J p0)), some (.int (J p1)), some (.int (J x2)), some (.int (J x3)), some (.int (J x4)), some (.int (J x10)), some (.int (J x18))]) rfl rfl rfl rfl ?_
          refine r_n (pc1 := 57) [.int (J x3)] _ rfl rfl ?_
          refine r_n (pc1 := 58) [.int (J p0), .int (J x3)] _ rfl rfl ?_
          refine r_ic (t := 78) (pc1 := 61) rfl rfl rfl rx3 rp0 (fun c28 => ?_) (fun c28 => ?_)
          · have w := w.1 c28
            refine r_n (pc1 := 79) [.int (J x2)] _ rfl rfl ?_
            refine r_n (pc1 := 81) [.int (J x18), .int (J x2)] _ rfl rfl ?_
            refine r_n (pc1 := 82) [.int (J (-1)), .int (J x18), .int (J x2)] _ rfl rfl ?_
            obtain ⟨J21, j21, w⟩ := w
            have Q21 : ∀ (x20 : Int), rg x20 → J21 x20 → RR sc goal fs 341 90 [some (rv 79), some (.int (J p0)), some (.int (J p1)), some (.int (J x2)), some (.int (J x3)), some (.int (J x4)), some (.int (J x10)), some (.int (J x18))] [.int (J x20), .int (J x2)] h19 := by
              intro x20 rx20 z21
              have w := j21 x20 rx20 z21
              refine r_iadd (pc1 := 91) rfl rfl ?_
              refine r_vI (rgw _) (fun x22 ex22 rx22 => ?_)
              have w := w x22 ex22 rx22
              refine r_istn (pc1 := 92) (ls1 := [some (rv 79), some (.int (J p0)), some (.int (J p1)), some (.int (J x22)), some (.int (J x3)), some (.int (J x4)), some (.int (J x10)), some (.int (J x18))]) rfl rfl rfl rfl ?_
              refine r_inc (pc1 := 95) (g := fun zz => [some (rv 79), some (.int (J p0)), some (.int (J p1)), some (.int (J x22)), some (.int (J zz)), some (.int (J x4)), some (.int (J x10)), some (.int (J x18))]) rfl rfl rfl rfl (fun _ => rfl) (fun x23 ex23 rx23 => ?_)
              have w := w x23 ex23 rx23
              exact Q16 _ _ x22 x23 h19 t19 s19 rx22 rx23 w
            refine r_ic (t := 89) (pc1 := 85) rfl rfl rfl rx18 (rgk rfl) (fun c24 => ?_) (fun c24 => ?_)
            · have w := w.1 c24
              refine r_n (pc1 := 90) [.int (J 0), .int (J x2)] _ rfl rfl ?_
              exact Q21  0  (rgk rfl) w
            · have w := w.2 c24
              refine r_n (pc1 := 86) [.int (J 1), .int (J x2)] _ rfl rfl ?_
              refine r_goto (t := 90) rfl rfl ?_
              exact Q21  1  (rgk rfl) w
          · have w := w.2 c28
            refine r_n (pc1 := 62) [.int (J p1)] _ rfl rfl ?_
            obtain ⟨J26, j26, w⟩ := w
            have Q26 : ∀ (x25 : Int), rg x25 → J26 x25 → RR sc goal fs 341 77 [some (rv 79), some (.int (J p0)), some (.int (J p1)), some (.int (J x2)), some (.int (J x3)), some (.int (J x4)), some (.int (J x10)), some (.int (J x18))] [.int (J x25)] h19 := by
              intro x25 rx25 z26
              have w := j26 x25 rx25 z26
              exact r_retI rfl rfl rfl (k _ _ t19 s19 rx25 w)
            refine r_iz (t := 70) (pc1 := 65) rfl rfl rfl rp1 (fun c27 => ?_) (fun c27 => ?_)
            · have w := w.1 c27
              refine r_aldn (pc1 := 71) rfl rfl rfl ?_
              refine r_gfC (pc1 := 74) (q := 82) rfl rfl rfl t19 (lyk t19 rfl) rfl rfl (lyR t19 rfl rfl) ?_
              refine r_n (pc1 := 76) [.int (J x4), rv 82] _ rfl rfl ?_
              refine r_ial (pc1 := 77) rfl rfl t19 (lyk t19 rfl) rx4 c9.1 (lt_len (lyn t19 rfl) c9.2) ?_
              exact Q26  (hI h19 82 x4.toNat)  (rgh _ _ _) w
            · have w := w.2 c27
              refine r_n (pc1 := 67) [.int (J x18)] _ rfl rfl ?_
              refine r_goto (t := 77) rfl rfl ?_
              exact Q26  x18  rx18 w
  exact Q8 _ _ _ x1 0 0 h t0 (HX_refl h) rx1 (rgk rfl) (rgk rfl) (Nat.lt_succ_self _) w
def w_X12_fetchAt (p0 : Int) (p1 : Int) (K : Int → XH → Prop) (E : Nat → XH → Prop) (h : XH) : Prop :=
  (w_X12_knowMet (fun h1 => HT h1 → HX h h1 → (w_X11_atHand (fun a2 => (hk h1 a2 = 7 ∧ w_X2_arrange (hL h1 a2 5) (fun h4 => HT h4 → HX h1 h4 → (((hI h4 79 7 = 0 → (∃ J5 : Prop, (J5 → (E 2 (nT h4))) ∧ ((p0 < 0 → J5) ∧ (¬ (p0 < 0) → (w_X2_comingCount (fun x6 => rg x6 → (((p0 < x6 → (w_X2_comingAt p0 p1 (fun x7 h8 => HT h8 → HX h4 h8 → rg x7 → (K x7 h8)) h4)) ∧ (¬ (p0 < x6) → J5)))) h4))))) ∧ (¬ (hI h4 79 7 = 0) → (E 3 (nT h4)))))) h1)) h1)) h)
set_option maxHeartbeats 4000000 in
theorem a_X12_fetchAt {sc : Nat × (Nat → Int32)} {goal : XO → XH → Prop} {fs : List XF} {h : XH} (p0 : Int) (p1 : Int) {K : Int → XH → Prop} {E : Nat → XH → Prop} (hd : fs.length + 6 ≤ 1000) (rp0 : rg p0) (rp1 : rg p1) (w : w_X12_fetchAt p0 p1 K E h) (t0 : HT h) (k : ∀ (r : Int) (h1 : XH), HT h1 → HX h h1 → rg r → K r h1 → XFin xP sc goal fs (.inl (some (.int (J r)))) h1) (kE : ∀ (x : Nat) (h1 : XH), HT h1 → HX h h1 → E x h1 → XFin xP sc goal fs (.inr x) h1) : RR sc goal fs 107 0 [some (rv 2), some (.int (J p0)), some (.int (J p1))] [] h := by
  unfold w_X12_fetchAt at w
  refine r_aldn (pc1 := 1) rfl rfl rfl ?_
  refine r_iv rfl rfl rfl rfl rfl rfl t0 (lyk t0 rfl) rfl (xe_of (xa_r xa_0) rfl rfl) (r_d0 hd rfl) (a_X12_knowMet  (r_d1 hd rfl)  w t0 (fun h1 t1 u1 w => ?_))
  refine r_fV (pc1 := 4) rfl ?_
  have s1 := HX_trans (HX_refl h) u1
  have w := w t1 u1
  refine r_aldn (pc1 := 5) rfl rfl rfl ?_
  refine r_gfC (pc1 := 8) (q := 79) rfl rfl rfl t1 (lyk t1 rfl) rfl rfl (lyR t1 rfl rfl) ?_
  refine r_aldn (pc1 := 9) rfl rfl rfl ?_
  refine r_gfC (pc1 := 12) (q := 8) rfl rfl rfl t1 (lyk t1 rfl) rfl rfl (lyR t1 rfl rfl) ?_
  refine r_iv rfl rfl rfl rfl rfl rfl t1 (lyk t1 rfl) rfl (xe_of (xa_r xa_0) rfl rfl) (r_d0 hd rfl) (a_X11_atHand  (r_d1 hd rfl)  w t1 (fun a2 w => ?_))
  refine r_fR (pc1 := 15) rfl ?_
  obtain ⟨c3, w⟩ := w
  refine r_gfL (pc1 := 18) rfl rfl rfl t1 c3 rfl rfl ?_
  refine r_iv rfl rfl rfl rfl rfl rfl t1 (lyk t1 rfl) rfl (xe_of (xa_r (xa_l xa_0)) rfl rfl) (r_d0 hd rfl) (a_X2_arrange (hL h1 a2 5) (r_d1 hd rfl)  w t1 (fun h4 t4 u4 w => ?_))
  refine r_fV (pc1 := 21) rfl ?_
  have s4 := HX_trans s1 u4
  have w := w t4 u4
  refine r_aldn (pc1 := 22) rfl rfl rfl ?_
  refine r_gfC (pc1 := 25) (q := 79) rfl rfl rfl t4 (lyk t4 rfl) rfl rfl (lyR t4 rfl rfl) ?_
  refine r_gfI (pc1 := 28) rfl rfl rfl t4 (lyk t4 rfl) rfl rfl ?_
  refine r_iz (t := 42) (pc1 := 31) rfl rfl rfl (rgh _ _ _) (fun c11 => ?_) (fun c11 => ?_)
  · have w := w.1 c11
    refine r_n (pc1 := 43) [.int (J p0)] _ rfl rfl ?_
    obtain ⟨J5, j5, w⟩ := w
    have Q5 : J5 → RR sc goal fs 107 57 [some (rv 2), some (.int (J p0)), some (.int (J p1))] [] h4 := by
      intro z5
      have w := j5 z5
      exact r_thr rfl rfl rfl rfl rfl rfl (kE _ _ (HT_nT t4).1 (HX_trans s4 (HT_nT t4).2) w)
    refine r_iz (t := 57) (pc1 := 46) rfl rfl rfl rp0 (fun c10 => ?_) (fun c10 => ?_)
    · have w := w.1 c10
      exact Q5     w
    · have w := w.2 c10
      refine r_n (pc1 := 47) [.int (J p0)] _ rfl rfl ?_
      refine r_aldn (pc1 := 48) rfl rfl rfl ?_
      refine r_gfC (pc1 := 51) (q := 79) rfl rfl rfl t4 (lyk t4 rfl) rfl rfl (lyR t4 rfl rfl) ?_
      refine r_iv rfl rfl rfl rfl rfl rfl t4 (lyk t4 rfl) rfl (xe_of (xa_r xa_0) rfl rfl) (r_d0 hd rfl) (a_X2_comingCount  (r_d1 hd rfl)  w t4 (fun x6 rx6 w => ?_))
      refine r_fI (pc1 := 54) rfl ?_
      have w := w rx6
      refine r_ic (t := 68) (pc1 := 57) rfl rfl rfl rp0 rx6 (fun c9 => ?_) (fun c9 => ?_)
      · have w := w.1 c9
        refine r_aldn (pc1 := 69) rfl rfl rfl ?_
        refine r_gfC (pc1 := 72) (q := 79) rfl rfl rfl t4 (lyk t4 rfl) rfl rfl (lyR t4 rfl rfl) ?_
        refine r_n (pc1 := 73) [.int (J p0), rv 79] _ rfl rfl ?_
        refine r_n (pc1 := 74) [.int (J p1), .int (J p0), rv 79] _ rfl rfl ?_
        refine r_iv rfl rfl rfl rfl rfl rfl t4 (lyk t4 rfl) rfl (xe_of (xa_r (xa_i (xa_i xa_0))) rfl rfl) (r_d0 hd rfl) (a_X2_comingAt p0 p1 (r_d1 hd rfl) rp0 rp1 w t4 (fun x7 h8 t8 u8 rx7 w => ?_))
        refine r_fI (pc1 := 77) rfl ?_
        have s8 := HX_trans s4 u8
        have w := w t8 u8
        have w := w rx7
        exact r_retI rfl rfl rfl (k _ _ t8 s8 rx7 w)
      · have w := w.2 c9
        exact Q5     w
  · have w := w.2 c11
    exact r_thr rfl rfl rfl rfl rfl rfl (kE _ _ (HT_nT t4).1 (HX_trans s4 (HT_nT t4).2) w)
def w_L_fetchAt (p1 : Int) (p2 : Int) (K : Int → XH → Prop) (h : XH) : Prop :=
  (w_X12_fetchAt p1 p2 (fun x1 h2 => HT h2 → HX h h2 → rg x1 → (∀ h5 : XH, h5 = sL h2 467 0 (i2l x1) → HT h5 → HX h2 h5 → (K 0 h5))) (fun y4 h3 => ((y4 = 3 ∧ K 1 h3) ∨ (y4 = 2 ∧ K 2 h3))) h)
set_option maxHeartbeats 4000000 in
theorem a_L_fetchAt {sc : Nat × (Nat → Int32)} {goal : XO → XH → Prop} {fs : List XF} {h : XH} (p1 : Int) (p2 : Int) {K : Int → XH → Prop} (hd : fs.length + 7 ≤ 1000) (rp1 : rg p1) (rp2 : rg p2) (w : w_L_fetchAt p1 p2 K h) (t0 : HT h) (k : ∀ (r : Int) (h1 : XH), HT h1 → HX h h1 → rg r → K r h1 → XFin xP sc goal fs (.inl (some (.int (J r)))) h1) : RR sc goal fs 36 0 [some (rv 2), some (.int (J p1)), some (.int (J p2)), some (rv 467), none] [] h := by
  unfold w_L_fetchAt at w
  refine r_aldn (pc1 := 1) rfl rfl rfl ?_
  refine r_n (pc1 := 2) [.int (J 0), rv 467] _ rfl rfl ?_
  refine r_aldn (pc1 := 3) rfl rfl rfl ?_
  refine r_n (pc1 := 4) [.int (J p1), rv 2, .int (J 0), rv 467] _ rfl rfl ?_
  refine r_n (pc1 := 5) [.int (J p2), .int (J p1), rv 2, .int (J 0), rv 467] _ rfl rfl ?_
  refine r_iv rfl rfl rfl rfl rfl rfl t0 (lyk t0 rfl) rfl (xe_of (xa_r (xa_i (xa_i xa_0))) rfl rfl) (r_d0 hd rfl) (a_X12_fetchAt p1 p2 (r_d1 hd rfl) rp1 rp2 w t0 (fun x1 h2 t2 u2 rx1 w => ?_) (fun y4 h3 ty uy w => ?_))
  · refine r_fI (pc1 := 8) rfl ?_
    have s2 := HX_trans (HX_refl h) u2
    have w := w t2 u2
    have w := w rx1
    refine r_i2l (pc1 := 9) rfl rfl ?_
    refine r_last (pc1 := 10) rfl rfl t2 (lyk t2 rfl) (rgk rfl) (by decide) (lt_len (lyn t2 rfl) (by decide)) (fun h5 eh5 t5 u5 => ?_)
    have w := w h5 eh5 t5 u5
    have s5 := HX_trans s2 u5
    refine r_goto (t := 21) rfl rfl ?_
    refine r_n (pc1 := 22) [.int (J 0)] _ rfl rfl ?_
    exact r_retI rfl rfl rfl (k _ _ t5 s5 (rgk rfl) w)
  · rcases w with ⟨rfl, w⟩ | w
    · exact r_fink (z := 1) rfl (by decide) rfl rfl (k _ _ ty (HX_trans (HX_refl h) uy) (rgk rfl) w)
    obtain ⟨rfl, w⟩ := w
    exact r_fink (z := 2) rfl (by decide) rfl rfl (k _ _ ty (HX_trans (HX_refl h) uy) (rgk rfl) w)
def w_X12_hold (p0 : Int) (p1 : Int) (K : Int → XH → Prop) (E : Nat → XH → Prop) (h : XH) : Prop :=
  (w_X12_checkPack p0 ((w_X12_remember (fun h1 => HT h1 → HX h h1 → (w_X11_atHand (fun a2 => (∃ J4 : Int → Prop, (∀ (x3 : Int), rg x3 → J4 x3 → (hk h1 a2 = 7 ∧ ∀ h6 : XH, h6 = sI h1 a2 2 x3 → HT h6 → HX h1 h6 → w_J6_bitCount_0f7a4 (hI h6 a2 2) (fun x7 => rg x7 → (K x7 h6)) h6)) ∧ ((p1 = 0 → (hk h1 a2 = 7 ∧ J4 (iand (hI h1 a2 2) (ixor (ishl 1 p0) (-1))))) ∧ (¬ (p1 = 0) → (hk h1 a2 = 7 ∧ J4 (ior (hI h1 a2 2) (ishl 1 p0))))))) h1)) h)) E h)
set_option maxHeartbeats 4000000 in
theorem a_X12_hold {sc : Nat × (Nat → Int32)} {goal : XO → XH → Prop} {fs : List XF} {h : XH} (p0 : Int) (p1 : Int) {K : Int → XH → Prop} {E : Nat → XH → Prop} (hd : fs.length + 4 ≤ 1000) (rp0 : rg p0) (rp1 : rg p1) (w : w_X12_hold p0 p1 K E h) (t0 : HT h) (k : ∀ (r : Int) (h1 : XH), HT h1 → HX h h1 → rg r → K r h1 → XFin xP sc goal fs (.inl (some (.int (J r)))) h1) (kE : ∀ (x : Nat) (h1 : XH), HT h1 → HX h h1 → E x h1 → XFin xP sc goal fs (.inr x) h1) : RR sc goal fs 111 0 [some (rv 2), some (.int (J p0)), some (.int (J p1)), none] [] h := by
  unfold w_X12_hold at w
  refine r_aldn (pc1 := 1) rfl rfl rfl ?_
  refine r_n (pc1 := 2) [.int (J p0), rv 2] _ rfl rfl ?_
  refine r_iv rfl rfl rfl rfl rfl rfl t0 (lyk t0 rfl) rfl (xe_of (xa_r (xa_i xa_0)) rfl rfl) (r_d0 hd rfl) (a_X12_checkPack p0 (r_d1 hd rfl) rp0 w t0 (fun w => ?_) (fun x y ty uy w => r_finx rfl rfl (kE x y ty (HX_trans (HX_refl h) uy) w)))
  refine r_fV (pc1 := 5) rfl ?_
  refine r_aldn (pc1 := 6) rfl rfl rfl ?_
  refine r_iv rfl rfl rfl rfl rfl rfl t0 (lyk t0 rfl) rfl (xe_of (xa_r xa_0) rfl rfl) (r_d0 hd rfl) (a_X12_remember  (r_d1 hd rfl)  w t0 (fun h1 t1 u1 w => ?_))
  refine r_fV (pc1 := 9) rfl ?_
  have s1 := HX_trans (HX_refl h) u1
  have w := w t1 u1
  refine r_aldn (pc1 := 10) rfl rfl rfl ?_
  refine r_gfC (pc1 := 13) (q := 8) rfl rfl rfl t1 (lyk t1 rfl) rfl rfl (lyR t1 rfl rfl) ?_
  refine r_iv rfl rfl rfl rfl rfl rfl t1 (lyk t1 rfl) rfl (xe_of (xa_r xa_0) rfl rfl) (r_d0 hd rfl) (a_X11_atHand  (r_d1 hd rfl)  w t1 (fun a2 w => ?_))
  refine r_fR (pc1 := 16) rfl ?_
  refine r_astn (pc1 := 17) (ls1 := [some (rv 2), some (.int (J p0)), some (.int (J p1)), some (rv a2)]) rfl rfl rfl rfl ?_
  refine r_aldn (pc1 := 18) rfl rfl rfl ?_
  refine r_n (pc1 := 19) [.int (J p1), rv a2] _ rfl rfl ?_
  obtain ⟨J4, j4, w⟩ := w
  have Q4 : ∀ (x3 : Int), rg x3 → J4 x3 → RR sc goal fs 111 43 [some (rv 2), some (.int (J p0)), some (.int (J p1)), some (rv a2)] [.int (J x3), rv a2] h1 := by
    intro x3 rx3 z4
    have w := j4 x3 rx3 z4
    obtain ⟨c5, w⟩ := w
    refine r_pfI (pc1 := 46) rfl rfl rfl t1 c5 rfl rfl rfl (fun h6 eh6 t6 u6 => ?_)
    have w := w h6 eh6 t6 u6
    have s6 := HX_trans s1 u6
    refine r_aldn (pc1 := 47) rfl rfl rfl ?_
    refine r_gfI (pc1 := 50) rfl rfl rfl t6 (HXk u6 c5 rfl) rfl rfl ?_
    refine r_iq rfl rfl rfl rfl rfl rfl (xe_of (xa_i xa_0) rfl rfl) (r_d0 hd rfl) (a_J6_bitCount_0f7a4 (hI h6 a2 2) (r_d1 hd rfl) (rgh _ _ _) w t6 (fun x7 rx7 w => ?_))
    refine r_fI (pc1 := 53) rfl ?_
    have w := w rx7
    exact r_retI rfl rfl rfl (k _ _ t6 s6 rx7 w)
  refine r_iz (t := 33) (pc1 := 22) rfl rfl rfl rp1 (fun c10 => ?_) (fun c10 => ?_)
  · have w := w.1 c10
    refine r_aldn (pc1 := 34) rfl rfl rfl ?_
    obtain ⟨c8, w⟩ := w
    refine r_gfI (pc1 := 37) rfl rfl rfl t1 c8 rfl rfl ?_
    refine r_n (pc1 := 38) [.int (J 1), .int (J (hI h1 a2 2)), rv a2] _ rfl rfl ?_
    refine r_n (pc1 := 39) [.int (J p0), .int (J 1), .int (J (hI h1 a2 2)), rv a2] _ rfl rfl ?_
    refine r_ishl (pc1 := 40) rfl rfl ?_
    refine r_n (pc1 := 41) [.int (J (-1)), .int (J (ishl 1 p0)), .int (J (hI h1 a2 2)), rv a2] _ rfl rfl ?_
    refine r_ixor (pc1 := 42) rfl rfl ?_
    refine r_iand (pc1 := 43) rfl rfl ?_
    exact Q4  (iand (hI h1 a2 2) (ixor (ishl 1 p0) (-1)))  (rgt _) w
  · have w := w.2 c10
    refine r_aldn (pc1 := 23) rfl rfl rfl ?_
    obtain ⟨c9, w⟩ := w
    refine r_gfI (pc1 := 26) rfl rfl rfl t1 c9 rfl rfl ?_
    refine r_n (pc1 := 27) [.int (J 1), .int (J (hI h1 a2 2)), rv a2] _ rfl rfl ?_
    refine r_n (pc1 := 28) [.int (J p0), .int (J 1), .int (J (hI h1 a2 2)), rv a2] _ rfl rfl ?_
    refine r_ishl (pc1 := 29) rfl rfl ?_
    refine r_ior (pc1 := 30) rfl rfl ?_
    refine r_goto (t := 43) rfl rfl ?_
    exact Q4  (ior (hI h1 a2 2) (ishl 1 p0))  (rgt _) w
def w_L_hold (p1 : Int) (p2 : Int) (K : Int → XH → Prop) (h : XH) : Prop :=
  (w_X12_hold p1 p2 (fun x1 h2 => HT h2 → HX h h2 → rg x1 → (∀ h5 : XH, h5 = sL h2 467 0 (i2l x1) → HT h5 → HX h2 h5 → (K 0 h5))) (fun y4 h3 => ((y4 = 2 ∧ K 1 h3))) h)
set_option maxHeartbeats 4000000 in
theorem a_L_hold {sc : Nat × (Nat → Int32)} {goal : XO → XH → Prop} {fs : List XF} {h : XH} (p1 : Int) (p2 : Int) {K : Int → XH → Prop} (hd : fs.length + 5 ≤ 1000) (rp1 : rg p1) (rp2 : rg p2) (w : w_L_hold p1 p2 K h) (t0 : HT h) (k : ∀ (r : Int) (h1 : XH), HT h1 → HX h h1 → rg r → K r h1 → XFin xP sc goal fs (.inl (some (.int (J r)))) h1) : RR sc goal fs 37 0 [some (rv 2), some (.int (J p1)), some (.int (J p2)), some (rv 467), none] [] h := by
  unfold w_L_hold at w
  refine r_aldn (pc1 := 1) rfl rfl rfl ?_
  refine r_n (pc1 := 2) [.int (J 0), rv 467] _ rfl rfl ?_
  refine r_aldn (pc1 := 3) rfl rfl rfl ?_
  refine r_n (pc1 := 4) [.int (J p1), rv 2, .int (J 0), rv 467] _ rfl rfl ?_
  refine r_n (pc1 := 5) [.int (J p2), .int (J p1), rv 2, .int (J 0), rv 467] _ rfl rfl ?_
  refine r_iv rfl rfl rfl rfl rfl rfl t0 (lyk t0 rfl) rfl (xe_of (xa_r (xa_i (xa_i xa_0))) rfl rfl) (r_d0 hd rfl) (a_X12_hold p1 p2 (r_d1 hd rfl) rp1 rp2 w t0 (fun x1 h2 t2 u2 rx1 w => ?_) (fun y4 h3 ty uy w => ?_))
  · refine r_fI (pc1 := 8) rfl ?_
    have s2 := HX_trans (HX_refl h) u2
    have w := w t2 u2
    have w := w rx1
    refine r_i2l (pc1 := 9) rfl rfl ?_
    refine r_last (pc1 := 10) rfl rfl t2 (lyk t2 rfl) (rgk rfl) (by decide) (lt_len (lyn t2 rfl) (by decide)) (fun h5 eh5 t5 u5 => ?_)
    have w := w h5 eh5 t5 u5
    have s5 := HX_trans s2 u5
    refine r_goto (t := 17) rfl rfl ?_
    refine r_n (pc1 := 18) [.int (J 0)] _ rfl rfl ?_
    exact r_retI rfl rfl rfl (k _ _ t5 s5 (rgk rfl) w)
  · obtain ⟨rfl, w⟩ := w
    exact r_fink (z := 1) rfl (by decide) rfl rfl (k _ _ ty (HX_trans (HX_refl h) uy) (rgk rfl) w)
def w_X5_readWholeRange (p0 : Int) (K : Nat → XH → Prop) (h : XH) : Prop :=
  (w_X5_findTokens p0 (fun h1 => HT h1 → HX h h1 → (w_X5_readRange (fun a2 h3 => HT h3 → HX h1 h3 → (w_X5_pass 0 (fun x4 h5 => HT h5 → HX h3 h5 → rg x4 → (∀ h6 : XH, h6 = sI h5 3 1 0 → HT h6 → HX h5 h6 → ∃ J8 : Nat → Prop, (∀ (a7 : Nat), J8 a7 → (K a7 h6)) ∧ ((¬ hI h6 3 2 = (-1) → (J8 0)) ∧ (¬ (¬ hI h6 3 2 = (-1)) → (J8 a2))))) h3)) h1)) h)
set_option maxHeartbeats 4000000 in
theorem a_X5_readWholeRange {sc : Nat × (Nat → Int32)} {goal : XO → XH → Prop} {fs : List XF} {h : XH} (p0 : Int) {K : Nat → XH → Prop} (hd : fs.length + 4 ≤ 1000) (rp0 : rg p0) (w : w_X5_readWholeRange p0 K h) (t0 : HT h) (k : ∀ (r : Nat) (h1 : XH), HT h1 → HX h h1 → K r h1 → XFin xP sc goal fs (.inl (some (rv r))) h1) : RR sc goal fs 412 0 [some (rv 3), some (.int (J p0)), none] [] h := by
  unfold w_X5_readWholeRange at w
  refine r_aldn (pc1 := 1) rfl rfl rfl ?_
  refine r_n (pc1 := 2) [.int (J p0), rv 3] _ rfl rfl ?_
  refine r_iv rfl rfl rfl rfl rfl rfl t0 (lyk t0 rfl) rfl (xe_of (xa_r (xa_i xa_0)) rfl rfl) (r_d0 hd rfl) (a_X5_findTokens p0 (r_d1 hd rfl) rp0 w t0 (fun h1 t1 u1 w => ?_))
  refine r_fV (pc1 := 5) rfl ?_
  have s1 := HX_trans (HX_refl h) u1
  have w := w t1 u1
  refine r_aldn (pc1 := 6) rfl rfl rfl ?_
  refine r_iv rfl rfl rfl rfl rfl rfl t1 (lyk t1 rfl) rfl (xe_of (xa_r xa_0) rfl rfl) (r_d0 hd rfl) (a_X5_readRange  (r_d1 hd rfl)  w t1 (fun a2 h3 t3 u3 w => ?_))
  refine r_fR (pc1 := 9) rfl ?_
  have s3 := HX_trans s1 u3
  have w := w t3 u3
  refine r_astn (pc1 := 10) (ls1 := [some (rv 3), some (.int (J p0)), some (rv a2)]) rfl rfl rfl rfl ?_
  refine r_aldn (pc1 := 11) rfl rfl rfl ?_
  refine r_n (pc1 := 12) [.int (J 0), rv 3] _ rfl rfl ?_
  refine r_iv rfl rfl rfl rfl rfl rfl t3 (lyk t3 rfl) rfl (xe_of (xa_r (xa_i xa_0)) rfl rfl) (r_d0 hd rfl) (a_X5_pass 0 (r_d1 hd rfl) (rgk rfl) w t3 (fun x4 h5 t5 u5 rx4 w => ?_))
  refine r_fI (pc1 := 15) rfl ?_
  have s5 := HX_trans s3 u5
  have w := w t5 u5
  have w := w rx4
  refine r_n (pc1 := 16) [] _ rfl rfl ?_
  refine r_aldn (pc1 := 17) rfl rfl rfl ?_
  refine r_n (pc1 := 18) [.int (J 0), rv 3] _ rfl rfl ?_
  refine r_pfI (pc1 := 21) rfl rfl rfl t5 (lyk t5 rfl) rfl rfl rfl (fun h6 eh6 t6 u6 => ?_)
  have w := w h6 eh6 t6 u6
  have s6 := HX_trans s5 u6
  refine r_aldn (pc1 := 22) rfl rfl rfl ?_
  refine r_gfI (pc1 := 25) rfl rfl rfl t6 (lyk t6 rfl) rfl rfl ?_
  refine r_n (pc1 := 26) [.int (J (-1)), .int (J (hI h6 3 2))] _ rfl rfl ?_
  obtain ⟨J8, j8, w⟩ := w
  have Q8 : ∀ (a7 : Nat), J8 a7 → RR sc goal fs 412 34 [some (rv 3), some (.int (J p0)), some (rv a2)] [rv a7] h6 := by
    intro a7 z8
    have w := j8 a7 z8
    exact r_retR rfl rfl rfl xok_O xokr_O (k _ _ t6 s6 w)
  refine r_ic (t := 33) (pc1 := 29) rfl rfl rfl (rgh _ _ _) (rgk rfl) (fun c9 => ?_) (fun c9 => ?_)
  · have w := w.1 c9
    refine r_n (pc1 := 34) [rv 0] _ rfl rfl ?_
    exact Q8  0   w
  · have w := w.2 c9
    refine r_aldn (pc1 := 30) rfl rfl rfl ?_
    refine r_goto (t := 34) rfl rfl ?_
    exact Q8  a2   w
def w_X12_checkedRange  (K : Nat → XH → Prop) (E : Nat → XH → Prop) (h : XH) : Prop :=
  (w_X5_readWholeRange (hI h 9 0) (fun a1 h2 => HT h2 → HX h h2 → (((¬ a1 = 0 → (K a1 h2)) ∧ (¬ (¬ a1 = 0) → (E 1 (nT h2)))))) h)
set_option maxHeartbeats 4000000 in
theorem a_X12_checkedRange {sc : Nat × (Nat → Int32)} {goal : XO → XH → Prop} {fs : List XF} {h : XH}  {K : Nat → XH → Prop} {E : Nat → XH → Prop} (hd : fs.length + 5 ≤ 1000) (w : w_X12_checkedRange  K E h) (t0 : HT h) (k : ∀ (r : Nat) (h1 : XH), HT h1 → HX h h1 → K r h1 → XFin xP sc goal fs (.inl (some (rv r))) h1) (kE : ∀ (x : Nat) (h1 : XH), HT h1 → HX h h1 → E x h1 → XFin xP sc goal fs (.inr x) h1) : RR sc goal fs 95 0 [some (rv 2), none] [] h := by
  unfold w_X12_checkedRange at w
  refine r_aldn (pc1 := 1) rfl rfl rfl ?_
  refine r_gfC (pc1 := 4) (q := 3) rfl rfl rfl t0 (lyk t0 rfl) rfl rfl (lyR t0 rfl rfl) ?_
  refine r_aldn (pc1 := 5) rfl rfl rfl ?_
  refine r_gfC (pc1 := 8) (q := 8) rfl rfl rfl t0 (lyk t0 rfl) rfl rfl (lyR t0 rfl rfl) ?_
  refine r_gfC (pc1 := 11) (q := 9) rfl rfl rfl t0 (lyk t0 rfl) rfl rfl (lyR t0 rfl rfl) ?_
  refine r_gfI (pc1 := 14) rfl rfl rfl t0 (lyk t0 rfl) rfl rfl ?_
  refine r_iv rfl rfl rfl rfl rfl rfl t0 (lyk t0 rfl) rfl (xe_of (xa_r (xa_i xa_0)) rfl rfl) (r_d0 hd rfl) (a_X5_readWholeRange (hI h 9 0) (r_d1 hd rfl) (rgh _ _ _) w t0 (fun a1 h2 t2 u2 w => ?_))
  refine r_fR (pc1 := 17) rfl ?_
  have s2 := HX_trans (HX_refl h) u2
  have w := w t2 u2
  refine r_astn (pc1 := 18) (ls1 := [some (rv 2), some (rv a1)]) rfl rfl rfl rfl ?_
  refine r_aldn (pc1 := 19) rfl rfl rfl ?_
  refine r_nonnull (t := 33) (pc1 := 22) rfl rfl rfl (fun c3 => ?_) (fun c3 => ?_)
  · have w := w.1 c3
    refine r_aldn (pc1 := 34) rfl rfl rfl ?_
    exact r_retR rfl rfl rfl xok_O xokr_O (k _ _ t2 s2 w)
  · have w := w.2 c3
    exact r_thr rfl rfl rfl rfl rfl rfl (kE _ _ (HT_nT t2).1 (HX_trans s2 (HT_nT t2).2) w)
def w_X12_inRange (p0 : Int) (K : Int → XH → Prop) (E : Nat → XH → Prop) (h : XH) : Prop :=
  (w_X12_checkPack p0 ((w_X12_checkedRange (fun a1 h2 => HT h2 → HX h h2 → (w_X8_inRangeOf p0 a1 (fun b3 => (w_J13_bitCount_95d88 b3 (fun x4 => rg x4 → (K x4 h2)) h2)) h2)) E h)) E h)
set_option maxHeartbeats 4000000 in
theorem a_X12_inRange {sc : Nat × (Nat → Int32)} {goal : XO → XH → Prop} {fs : List XF} {h : XH} (p0 : Int) {K : Int → XH → Prop} {E : Nat → XH → Prop} (hd : fs.length + 6 ≤ 1000) (rp0 : rg p0) (w : w_X12_inRange p0 K E h) (t0 : HT h) (k : ∀ (r : Int) (h1 : XH), HT h1 → HX h h1 → rg r → K r h1 → XFin xP sc goal fs (.inl (some (.int (J r)))) h1) (kE : ∀ (x : Nat) (h1 : XH), HT h1 → HX h h1 → E x h1 → XFin xP sc goal fs (.inr x) h1) : RR sc goal fs 112 0 [some (rv 2), some (.int (J p0)), none] [] h := by
  unfold w_X12_inRange at w
  refine r_aldn (pc1 := 1) rfl rfl rfl ?_
  refine r_n (pc1 := 2) [.int (J p0), rv 2] _ rfl rfl ?_
  refine r_iv rfl rfl rfl rfl rfl rfl t0 (lyk t0 rfl) rfl (xe_of (xa_r (xa_i xa_0)) rfl rfl) (r_d0 hd rfl) (a_X12_checkPack p0 (r_d1 hd rfl) rp0 w t0 (fun w => ?_) (fun x y ty uy w => r_finx rfl rfl (kE x y ty (HX_trans (HX_refl h) uy) w)))
  refine r_fV (pc1 := 5) rfl ?_
  refine r_aldn (pc1 := 6) rfl rfl rfl ?_
  refine r_iv rfl rfl rfl rfl rfl rfl t0 (lyk t0 rfl) rfl (xe_of (xa_r xa_0) rfl rfl) (r_d0 hd rfl) (a_X12_checkedRange  (r_d1 hd rfl)  w t0 (fun a1 h2 t2 u2 w => ?_) (fun x y ty uy w => r_finx rfl rfl (kE x y ty (HX_trans (HX_refl h) uy) w)))
  refine r_fR (pc1 := 9) rfl ?_
  have s2 := HX_trans (HX_refl h) u2
  have w := w t2 u2
  refine r_astn (pc1 := 10) (ls1 := [some (rv 2), some (.int (J p0)), some (rv a1)]) rfl rfl rfl rfl ?_
  refine r_aldn (pc1 := 11) rfl rfl rfl ?_
  refine r_gfC (pc1 := 14) (q := 8) rfl rfl rfl t2 (lyk t2 rfl) rfl rfl (lyR t2 rfl rfl) ?_
  refine r_gfC (pc1 := 17) (q := 9) rfl rfl rfl t2 (lyk t2 rfl) rfl rfl (lyR t2 rfl rfl) ?_
  refine r_n (pc1 := 18) [.int (J p0), rv 9] _ rfl rfl ?_
  refine r_aldn (pc1 := 19) rfl rfl rfl ?_
  refine r_iv rfl rfl rfl rfl rfl rfl t2 (lyk t2 rfl) rfl (xe_of (xa_r (xa_i (xa_r xa_0))) rfl rfl) (r_d0 hd rfl) (a_X8_inRangeOf p0 a1 (r_d1 hd rfl) rp0 w t2 (fun b3 w => ?_))
  refine r_fL (pc1 := 22) rfl ?_
  refine r_iq rfl rfl rfl rfl rfl rfl (xe_of (xa_l xa_0) rfl rfl) (r_d0 hd rfl) (a_J13_bitCount_95d88 b3 (r_d1 hd rfl)  w t2 (fun x4 rx4 w => ?_))
  refine r_fI (pc1 := 25) rfl ?_
  have w := w rx4
  exact r_retI rfl rfl rfl (k _ _ t2 s2 rx4 w)
def w_L_inRange (p1 : Int) (K : Int → XH → Prop) (h : XH) : Prop :=
  (w_X12_inRange p1 (fun x1 h2 => HT h2 → HX h h2 → rg x1 → (∀ h5 : XH, h5 = sL h2 467 0 (i2l x1) → HT h5 → HX h2 h5 → (K 0 h5))) (fun y4 h3 => ((y4 = 2 ∧ K 1 h3) ∨ (y4 = 1 ∧ K 2 h3))) h)
set_option maxHeartbeats 4000000 in
theorem a_L_inRange {sc : Nat × (Nat → Int32)} {goal : XO → XH → Prop} {fs : List XF} {h : XH} (p1 : Int) {K : Int → XH → Prop} (hd : fs.length + 7 ≤ 1000) (rp1 : rg p1) (w : w_L_inRange p1 K h) (t0 : HT h) (k : ∀ (r : Int) (h1 : XH), HT h1 → HX h h1 → rg r → K r h1 → XFin xP sc goal fs (.inl (some (.int (J r)))) h1) : RR sc goal fs 38 0 [some (rv 2), some (.int (J p1)), some (rv 467), none] [] h := by
  unfold w_L_inRange at w
  refine r_aldn (pc1 := 1) rfl rfl rfl ?_
  refine r_n (pc1 := 2) [.int (J 0), rv 467] _ rfl rfl ?_
  refine r_aldn (pc1 := 3) rfl rfl rfl ?_
  refine r_n (pc1 := 4) [.int (J p1), rv 2, .int (J 0), rv 467] _ rfl rfl ?_
  refine r_iv rfl rfl rfl rfl rfl rfl t0 (lyk t0 rfl) rfl (xe_of (xa_r (xa_i xa_0)) rfl rfl) (r_d0 hd rfl) (a_X12_inRange p1 (r_d1 hd rfl) rp1 w t0 (fun x1 h2 t2 u2 rx1 w => ?_) (fun y4 h3 ty uy w => ?_))
  · refine r_fI (pc1 := 7) rfl ?_
    have s2 := HX_trans (HX_refl h) u2
    have w := w t2 u2
    have w := w rx1
    refine r_i2l (pc1 := 8) rfl rfl ?_
    refine r_last (pc1 := 9) rfl rfl t2 (lyk t2 rfl) (rgk rfl) (by decide) (lt_len (lyn t2 rfl) (by decide)) (fun h5 eh5 t5 u5 => ?_)
    have w := w h5 eh5 t5 u5
    have s5 := HX_trans s2 u5
    refine r_goto (t := 18) rfl rfl ?_
    refine r_n (pc1 := 19) [.int (J 0)] _ rfl rfl ?_
    exact r_retI rfl rfl rfl (k _ _ t5 s5 (rgk rfl) w)
  · rcases w with ⟨rfl, w⟩ | w
    · exact r_fink (z := 1) rfl (by decide) rfl rfl (k _ _ ty (HX_trans (HX_refl h) uy) (rgk rfl) w)
    obtain ⟨rfl, w⟩ := w
    exact r_fink (z := 2) rfl (by decide) rfl rfl (k _ _ ty (HX_trans (HX_refl h) uy) (rgk rfl) w)
def w_X3_isMet (p0 : Nat) (p1 : BitVec 64) (p2 : BitVec 64) (K : Int → Prop) (h : XH) : Prop :=
  (∃ J2 : Int → Prop, (∀ (x1 : Int), rg x1 → J2 x1 → (∃ J4 : Int → Prop, (∀ (x3 : Int), rg x3 → J4 x3 → ((x3 = 0 ∨ x3 = 1) ∧ K x3)) ∧ ∃ J6 : Prop, (J6 → (J4 0)) ∧ ((p2 &&& p1 = (0#64) → J6) ∧ (¬ (p2 &&& p1 = (0#64)) → (((x1 = 0 → J6) ∧ (¬ (x1 = 0) → (J4 1)))))))) ∧ ∃ J9 : Prop, (J9 → (J2 1)) ∧ ((p0 = 0 → J9) ∧ (¬ (p0 = 0) → (hk h p0 = 1 ∧ ((hI h p0 1 = 0 → J9) ∧ (¬ (hI h p0 1 = 0) → (w_X12_switchOf (hI h p0 0) (fun b11 => (((p2 &&& b11 = (0#64) → (J2 0)) ∧ (¬ (p2 &&& b11 = (0#64)) → J9)))) h)))))))
set_option maxHeartbeats 4000000 in
theorem a_X3_isMet {sc : Nat × (Nat → Int32)} {goal : XO → XH → Prop} {fs : List XF} {h : XH} (p0 : Nat) (p1 : BitVec 64) (p2 : BitVec 64) {K : Int → Prop} (hd : fs.length + 1 ≤ 1000) (w : w_X3_isMet p0 p1 p2 K h) (t0 : HT h) (k : ∀ (r : Int), rg r → (r = 0 ∨ r = 1) → K r → XFin xP sc goal fs (.inl (some (.int (J r)))) h) : RR sc goal fs 368 0 [some (rv p0), some (.long (G p1)), none, some (.long (G p2)), none, none] [] h := by
  unfold w_X3_isMet at w
  refine r_aldn (pc1 := 1) rfl rfl rfl ?_
  obtain ⟨J2, j2, w⟩ := w
  have Q2 : ∀ (x1 : Int), rg x1 → J2 x1 → RR sc goal fs 368 30 [some (rv p0), some (.long (G p1)), none, some (.long (G p2)), none, none] [.int (J x1)] h := by
    intro x1 rx1 z2
    have w := j2 x1 rx1 z2
    refine r_ist (pc1 := 32) (ls1 := [some (rv p0), some (.long (G p1)), none, some (.long (G p2)), none, some (.int (J x1))]) rfl rfl rfl rfl ?_
    refine r_n (pc1 := 33) [.long (G p2)] _ rfl rfl ?_
    refine r_n (pc1 := 34) [.long (G p1), .long (G p2)] _ rfl rfl ?_
    refine r_land (pc1 := 35) rfl rfl ?_
    refine r_n (pc1 := 36) [.long (G (0#64)), .long (G (p2 &&& p1))] _ rfl rfl ?_
    obtain ⟨J4, j4, w⟩ := w
    have Q4 : ∀ (x3 : Int), rg x3 → J4 x3 → RR sc goal fs 368 50 [some (rv p0), some (.long (G p1)), none, some (.long (G p2)), none, some (.int (J x1))] [.int (J x3)] h := by
      intro x3 rx3 z4
      have w := j4 x3 rx3 z4
      obtain ⟨c5, w⟩ := w
      exact r_retB rfl rfl rfl c5 (k _ rx3 c5 w)
    obtain ⟨J6, j6, w⟩ := w
    have Q6 : J6 → RR sc goal fs 368 49 [some (rv p0), some (.long (G p1)), none, some (.long (G p2)), none, some (.int (J x1))] [] h := by
      intro z6
      have w := j6 z6
      refine r_n (pc1 := 50) [.int (J 0)] _ rfl rfl ?_
      exact Q4  0  (rgk rfl) w
    refine r_lc (pc2 := 37) (t := 49) (pc1 := 40) rfl rfl rfl rfl rfl (fun c8 => ?_) (fun c8 => ?_)
    · have w := w.1 c8
      exact Q6     w
    · have w := w.2 c8
      refine r_n (pc1 := 42) [.int (J x1)] _ rfl rfl ?_
      refine r_iz (t := 49) (pc1 := 45) rfl rfl rfl rx1 (fun c7 => ?_) (fun c7 => ?_)
      · have w := w.1 c7
        exact Q6     w
      · have w := w.2 c7
        refine r_n (pc1 := 46) [.int (J 1)] _ rfl rfl ?_
        refine r_goto (t := 50) rfl rfl ?_
        exact Q4  1  (rgk rfl) w
  obtain ⟨J9, j9, w⟩ := w
  have Q9 : J9 → RR sc goal fs 368 25 [some (rv p0), some (.long (G p1)), none, some (.long (G p2)), none, none] [] h := by
    intro z9
    have w := j9 z9
    refine r_n (pc1 := 26) [.int (J 1)] _ rfl rfl ?_
    refine r_goto (t := 30) rfl rfl ?_
    exact Q2  1  (rgk rfl) w
  refine r_null (t := 25) (pc1 := 4) rfl rfl rfl (fun c14 => ?_) (fun c14 => ?_)
  · have w := w.1 c14
    exact Q9     w
  · have w := w.2 c14
    refine r_aldn (pc1 := 5) rfl rfl rfl ?_
    obtain ⟨c10, w⟩ := w
    refine r_gfI (pc1 := 8) rfl rfl rfl t0 c10 rfl rfl ?_
    refine r_iz (t := 25) (pc1 := 11) rfl rfl rfl (rgh _ _ _) (fun c13 => ?_) (fun c13 => ?_)
    · have w := w.1 c13
      exact Q9     w
    · have w := w.2 c13
      refine r_n (pc1 := 12) [.long (G p2)] _ rfl rfl ?_
      refine r_aldn (pc1 := 13) rfl rfl rfl ?_
      refine r_gfI (pc1 := 16) rfl rfl rfl t0 c10 rfl rfl ?_
      refine r_iq rfl rfl rfl rfl rfl rfl (xe_of (xa_i xa_0) rfl rfl) (r_d0 hd rfl) (a_X12_switchOf (hI h p0 0) (r_d1 hd rfl) (rgh _ _ _) w t0 (fun b11 w => ?_))
      refine r_fL (pc1 := 19) rfl ?_
      refine r_land (pc1 := 20) rfl rfl ?_
      refine r_n (pc1 := 21) [.long (G (0#64)), .long (G (p2 &&& b11))] _ rfl rfl ?_
      refine r_lc (pc2 := 22) (t := 29) (pc1 := 25) rfl rfl rfl rfl rfl (fun c12 => ?_) (fun c12 => ?_)
      · have w := w.1 c12
        refine r_n (pc1 := 30) [.int (J 0)] _ rfl rfl ?_
        exact Q2  0  (rgk rfl) w
      · have w := w.2 c12
        exact Q9     w
