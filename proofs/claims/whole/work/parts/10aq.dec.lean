/-! printed by dec.py: what each method wants, and that the machine keeps it -/ 
def w_X14_manyIn (p0 : Nat) (K : Int → Prop) (h : XH) : Prop :=
  ((∃ (I3 : Int → Int → Prop) (m3 : Int → Int → Nat), I3 0 0 ∧ ∀ (x1 : Int) (x2 : Int), rg x1 → rg x2 → I3 x1 x2 → (((12 ≤ x2 → (K x1)) ∧ (¬ (12 ≤ x2) → (hk h p0 = 100 ∧ (0 ≤ x2 ∧ x2 < (hn h p0 : Int)) ∧ ∃ J7 : Int → Prop, (∀ (x6 : Int), rg x6 → J7 x6 → (∀ x8 : Int, x8 = wr (x1 + x6) → rg x8 → ∀ x9 : Int, x9 = wr (x2 + 1) → rg x9 → (I3 x8 x9 ∧ m3 x8 x9 < m3 x1 x2))) ∧ ((¬ hI h p0 x2.toNat = (-1) → (J7 1)) ∧ (¬ (¬ hI h p0 x2.toNat = (-1)) → (J7 0)))))))))
set_option maxHeartbeats 4000000 in
theorem a_X14_manyIn {sc : Nat × (Nat → Int32)} {goal : XO → XH → Prop} {fs : List XF} {h : XH} (p0 : Nat) {K : Int → Prop} (hd : fs.length + 0 ≤ 1000) (w : w_X14_manyIn p0 K h) (t0 : HT h) (k : ∀ (r : Int), rg r → K r → XFin xP sc goal fs (.inl (some (.int (J r)))) h) : RR sc goal fs 250 0 [some (rv p0), none, none] [] h := by
  unfold w_X14_manyIn at w
  refine r_n (pc1 := 1) [.int (J 0)] _ rfl rfl ?_
  refine r_istn (pc1 := 2) (ls1 := [some (rv p0), some (.int (J 0)), none]) rfl rfl rfl (xput1_rv rfl rfl) ?_
  refine r_n (pc1 := 3) [.int (J 0)] _ rfl rfl ?_
  refine r_istn (pc1 := 4) (ls1 := [some (rv p0), some (.int (J 0)), some (.int (J 0))]) rfl rfl rfl rfl ?_
  obtain ⟨I3, m3, w, y3⟩ := w
  have Q3 : ∀ (n : Nat)  (x1 : Int) (x2 : Int), rg x1 → rg x2 → m3 x1 x2 < n → I3 x1 x2 → RR sc goal fs 250 4 [some (rv p0), some (.int (J x1)), some (.int (J x2))] [] h := by
    intro n
    induction n with
    | zero => intro x1 x2 rx1 rx2 q3 _; exact absurd q3 (Nat.not_lt_zero _)
    | succ n ih3 =>
      intro x1 x2 rx1 rx2 q3 z3
      have w := y3 x1 x2 rx1 rx2 z3
      refine r_n (pc1 := 5) [.int (J x2)] _ rfl rfl ?_
      refine r_n (pc1 := 7) [.int (J 12), .int (J x2)] _ rfl rfl ?_
      refine r_ic (t := 31) (pc1 := 10) rfl rfl rfl rx2 (rgk rfl) (fun c11 => ?_) (fun c11 => ?_)
      · have w := w.1 c11
        refine r_n (pc1 := 32) [.int (J x1)] _ rfl rfl ?_
        exact r_retI rfl rfl rfl (k _ rx1 w)
      · have w := w.2 c11
        refine r_n (pc1 := 11) [.int (J x1)] _ rfl rfl ?_
        refine r_aldn (pc1 := 12) rfl rfl rfl ?_
        refine r_n (pc1 := 13) [.int (J x2), rv p0, .int (J x1)] _ rfl rfl ?_
        obtain ⟨c4, w⟩ := w
        obtain ⟨c5, w⟩ := w
        refine r_ial (pc1 := 14) rfl rfl t0 c4 rx2 c5.1 c5.2 ?_
        refine r_n (pc1 := 15) [.int (J (-1)), .int (J (hI h p0 x2.toNat)), .int (J x1)] _ rfl rfl ?_
        obtain ⟨J7, j7, w⟩ := w
        have Q7 : ∀ (x6 : Int), rg x6 → J7 x6 → RR sc goal fs 250 23 [some (rv p0), some (.int (J x1)), some (.int (J x2))] [.int (J x6), .int (J x1)] h := by
          intro x6 rx6 z7
          have w := j7 x6 rx6 z7
          refine r_iadd (pc1 := 24) rfl rfl ?_
          refine r_vI (rgw _) (fun x8 ex8 rx8 => ?_)
          have w := w x8 ex8 rx8
          refine r_istn (pc1 := 25) (ls1 := [some (rv p0), some (.int (J x8)), some (.int (J x2))]) rfl rfl rfl (xput1_rv rfl rfl) ?_
          refine r_inc (pc1 := 28) (g := fun zz => [some (rv p0), some (.int (J x8)), some (.int (J zz))]) rfl rfl rfl rfl (fun _ => rfl) (fun x9 ex9 rx9 => ?_)
          have w := w x9 ex9 rx9
          refine r_goto (t := 4) rfl rfl ?_
          exact ih3  x8 x9  rx8 rx9 (Nat.lt_of_lt_of_le w.2 (Nat.le_of_lt_succ q3)) w.1
        refine r_ic (t := 22) (pc1 := 18) rfl rfl rfl (rgh _ _ _) (rgk rfl) (fun c10 => ?_) (fun c10 => ?_)
        · have w := w.1 c10
          refine r_n (pc1 := 23) [.int (J 1), .int (J x1)] _ rfl rfl ?_
          exact Q7  1  (rgk rfl) w
        · have w := w.2 c10
          refine r_n (pc1 := 19) [.int (J 0), .int (J x1)] _ rfl rfl ?_
          refine r_goto (t := 23) rfl rfl ?_
          exact Q7  0  (rgk rfl) w
  exact Q3 _  0 0  (rgk rfl) (rgk rfl) (Nat.lt_succ_self _) w
def w_X14_solve (p0 : Int) (K : Int → XH → Prop) (h : XH) : Prop :=
  (∀ h1 : XH, h1 = sI h 437 5 0 → HT h1 → HX h h1 → w_X14_found p0 (fun a2 h3 => HT h3 → HX h1 h3 → (w_X14_record (fun h4 => HT h4 → HX h3 h4 → (((¬ a2 = 0 → (w_X14_putGoal a2 (fun h5 => HT h5 → HX h4 h5 → (w_X14_manyIn a2 (fun x6 => rg x6 → (K x6 h5)) h5)) h4)) ∧ (¬ (¬ a2 = 0) → (K (-1) h4))))) h3)) h1)
set_option maxHeartbeats 4000000 in
theorem a_X14_solve {sc : Nat × (Nat → Int32)} {goal : XO → XH → Prop} {fs : List XF} {h : XH} (p0 : Int) {K : Int → XH → Prop} (hd : fs.length + 78 ≤ 1000) (rp0 : rg p0) (w : w_X14_solve p0 K h) (t0 : HT h) (k : ∀ (r : Int) (h1 : XH), HT h1 → HX h h1 → rg r → K r h1 → XFin xP sc goal fs (.inl (some (.int (J r)))) h1) : RR sc goal fs 303 0 [some (rv 437), some (.int (J p0)), none] [] h := by
  unfold w_X14_solve at w
  refine r_aldn (pc1 := 1) rfl rfl rfl ?_
  refine r_n (pc1 := 2) [.int (J 0), rv 437] _ rfl rfl ?_
  refine r_pfI (pc1 := 5) rfl rfl rfl t0 (lyk t0 rfl) rfl rfl rfl (fun h1 eh1 t1 u1 => ?_)
  have w := w h1 eh1 t1 u1
  have s1 := HX_trans (HX_refl h) u1
  refine r_aldn (pc1 := 6) rfl rfl rfl ?_
  refine r_n (pc1 := 7) [.int (J p0), rv 437] _ rfl rfl ?_
  refine r_iv rfl rfl rfl rfl rfl rfl t1 (lyk t1 rfl) rfl (xe_of (xa_r (xa_i xa_0)) rfl rfl) (r_d0 hd rfl) (a_X14_found p0 (r_d1 hd rfl) rp0 w t1 (fun a2 h3 t3 u3 w => ?_))
  refine r_fR (pc1 := 10) rfl ?_
  have s3 := HX_trans s1 u3
  have w := w t3 u3
  refine r_astn (pc1 := 11) (ls1 := [some (rv 437), some (.int (J p0)), some (rv a2)]) rfl rfl rfl rfl ?_
  refine r_aldn (pc1 := 12) rfl rfl rfl ?_
  refine r_iv rfl rfl rfl rfl rfl rfl t3 (lyk t3 rfl) rfl (xe_of (xa_r xa_0) rfl rfl) (r_d0 hd rfl) (a_X14_record  (r_d1 hd rfl)  w t3 (fun h4 t4 u4 w => ?_))
  refine r_fV (pc1 := 15) rfl ?_
  have s4 := HX_trans s3 u4
  have w := w t4 u4
  refine r_aldn (pc1 := 16) rfl rfl rfl ?_
  refine r_nonnull (t := 21) (pc1 := 19) rfl rfl rfl (fun c7 => ?_) (fun c7 => ?_)
  · have w := w.1 c7
    refine r_aldn (pc1 := 22) rfl rfl rfl ?_
    refine r_aldn (pc1 := 23) rfl rfl rfl ?_
    refine r_iv rfl rfl rfl rfl rfl rfl t4 (lyk t4 rfl) rfl (xe_of (xa_r (xa_r xa_0)) rfl rfl) (r_d0 hd rfl) (a_X14_putGoal a2 (r_d1 hd rfl)  w t4 (fun h5 t5 u5 w => ?_))
    refine r_fV (pc1 := 26) rfl ?_
    have s5 := HX_trans s4 u5
    have w := w t5 u5
    refine r_aldn (pc1 := 27) rfl rfl rfl ?_
    refine r_iq rfl rfl rfl rfl rfl rfl (xe_of (xa_r xa_0) rfl rfl) (r_d0 hd rfl) (a_X14_manyIn a2 (r_d1 hd rfl)  w t5 (fun x6 rx6 w => ?_))
    refine r_fI (pc1 := 30) rfl ?_
    have w := w rx6
    exact r_retI rfl rfl rfl (k _ _ t5 s5 rx6 w)
  · have w := w.2 c7
    refine r_n (pc1 := 20) [.int (J (-1))] _ rfl rfl ?_
    exact r_retI rfl rfl rfl (k _ _ t4 s4 (rgk rfl) w)
def w_X12_versionOf (p0 : Int) (K : Int → Prop) (E : Nat → XH → Prop) (h : XH) : Prop :=
  (w_X12_checkPack p0 ((w_X11_atHand (fun a1 => (hk h a1 = 7 ∧ w_X8_codeIn (hL h a1 5) p0 (fun x3 => rg x3 → (K x3)) h)) h)) E h)
set_option maxHeartbeats 4000000 in
theorem a_X12_versionOf {sc : Nat × (Nat → Int32)} {goal : XO → XH → Prop} {fs : List XF} {h : XH} (p0 : Int) {K : Int → Prop} {E : Nat → XH → Prop} (hd : fs.length + 3 ≤ 1000) (rp0 : rg p0) (w : w_X12_versionOf p0 K E h) (t0 : HT h) (k : ∀ (r : Int), rg r → K r → XFin xP sc goal fs (.inl (some (.int (J r)))) h) (kE : ∀ (x : Nat) (h1 : XH), HT h1 → HX h h1 → E x h1 → XFin xP sc goal fs (.inr x) h1) : RR sc goal fs 162 0 [some (rv 2), some (.int (J p0))] [] h := by
  unfold w_X12_versionOf at w
  refine r_aldn (pc1 := 1) rfl rfl rfl ?_
  refine r_n (pc1 := 2) [.int (J p0), rv 2] _ rfl rfl ?_
  refine r_iv rfl rfl rfl rfl rfl rfl t0 (lyk t0 rfl) rfl (xe_of (xa_r (xa_i xa_0)) rfl rfl) (r_d0 hd rfl) (a_X12_checkPack p0 (r_d1 hd rfl) rp0 w t0 (fun w => ?_) (fun x y ty uy w => r_finx rfl rfl (kE x y ty (HX_trans (HX_refl h) uy) w)))
  refine r_fV (pc1 := 5) rfl ?_
  refine r_aldn (pc1 := 6) rfl rfl rfl ?_
  refine r_gfC (pc1 := 9) (q := 8) rfl rfl rfl t0 (lyk t0 rfl) rfl rfl (lyR t0 rfl rfl) ?_
  refine r_gfC (pc1 := 12) (q := 9) rfl rfl rfl t0 (lyk t0 rfl) rfl rfl (lyR t0 rfl rfl) ?_
  refine r_aldn (pc1 := 13) rfl rfl rfl ?_
  refine r_gfC (pc1 := 16) (q := 8) rfl rfl rfl t0 (lyk t0 rfl) rfl rfl (lyR t0 rfl rfl) ?_
  refine r_iv rfl rfl rfl rfl rfl rfl t0 (lyk t0 rfl) rfl (xe_of (xa_r xa_0) rfl rfl) (r_d0 hd rfl) (a_X11_atHand  (r_d1 hd rfl)  w t0 (fun a1 w => ?_))
  refine r_fR (pc1 := 19) rfl ?_
  obtain ⟨c2, w⟩ := w
  refine r_gfL (pc1 := 22) rfl rfl rfl t0 c2 rfl rfl ?_
  refine r_n (pc1 := 23) [.int (J p0), .long (G (hL h a1 5)), rv 9] _ rfl rfl ?_
  refine r_iv rfl rfl rfl rfl rfl rfl t0 (lyk t0 rfl) rfl (xe_of (xa_r (xa_l (xa_i xa_0))) rfl rfl) (r_d0 hd rfl) (a_X8_codeIn (hL h a1 5) p0 (r_d1 hd rfl) rp0 w t0 (fun x3 rx3 w => ?_))
  refine r_fI (pc1 := 26) rfl ?_
  have w := w rx3
  exact r_retI rfl rfl rfl (k _ rx3 w)
def w_L_versionOf (p1 : Int) (K : Int → XH → Prop) (h : XH) : Prop :=
  (w_X12_versionOf p1 (fun x1 => rg x1 → (∀ h4 : XH, h4 = sL h 467 0 (i2l x1) → HT h4 → HX h h4 → (K 0 h4))) (fun y3 h2 => ((y3 = 2 ∧ K 1 h2))) h)
set_option maxHeartbeats 4000000 in
theorem a_L_versionOf {sc : Nat × (Nat → Int32)} {goal : XO → XH → Prop} {fs : List XF} {h : XH} (p1 : Int) {K : Int → XH → Prop} (hd : fs.length + 4 ≤ 1000) (rp1 : rg p1) (w : w_L_versionOf p1 K h) (t0 : HT h) (k : ∀ (r : Int) (h1 : XH), HT h1 → HX h h1 → rg r → K r h1 → XFin xP sc goal fs (.inl (some (.int (J r)))) h1) : RR sc goal fs 67 0 [some (rv 2), some (.int (J p1)), some (rv 467), none] [] h := by
  unfold w_L_versionOf at w
  refine r_aldn (pc1 := 1) rfl rfl rfl ?_
  refine r_n (pc1 := 2) [.int (J 0), rv 467] _ rfl rfl ?_
  refine r_aldn (pc1 := 3) rfl rfl rfl ?_
  refine r_n (pc1 := 4) [.int (J p1), rv 2, .int (J 0), rv 467] _ rfl rfl ?_
  refine r_iv rfl rfl rfl rfl rfl rfl t0 (lyk t0 rfl) rfl (xe_of (xa_r (xa_i xa_0)) rfl rfl) (r_d0 hd rfl) (a_X12_versionOf p1 (r_d1 hd rfl) rp1 w t0 (fun x1 rx1 w => ?_) (fun y3 h2 ty uy w => ?_))
  · refine r_fI (pc1 := 7) rfl ?_
    have w := w rx1
    refine r_i2l (pc1 := 8) rfl rfl ?_
    refine r_last (pc1 := 9) rfl rfl t0 (lyk t0 rfl) (rgk rfl) (by decide) (lt_len (lyn t0 rfl) (by decide)) (fun h4 eh4 t4 u4 => ?_)
    have w := w h4 eh4 t4 u4
    have s4 := HX_trans (HX_refl h) u4
    refine r_goto (t := 15) rfl rfl ?_
    refine r_n (pc1 := 16) [.int (J 0)] _ rfl rfl ?_
    exact r_retI rfl rfl rfl (k _ _ t4 s4 (rgk rfl) w)
  · obtain ⟨rfl, w⟩ := w
    exact r_fink (z := 1) rfl (by decide) rfl rfl (k _ _ ty (HX_trans (HX_refl h) uy) (rgk rfl) w)
def w_X14_goalSet  (K : Nat → XH → Prop) (h : XH) : Prop :=
  (w_X14_setAt (wr ((wr (805 + (wr ((hI h 438 1) * 291)))) + 35)) (fun a1 h2 => HT h2 → HX h h2 → (K a1 h2)) h)
set_option maxHeartbeats 4000000 in
theorem a_X14_goalSet {sc : Nat × (Nat → Int32)} {goal : XO → XH → Prop} {fs : List XF} {h : XH}  {K : Nat → XH → Prop} (hd : fs.length + 1 ≤ 1000) (w : w_X14_goalSet  K h) (t0 : HT h) (k : ∀ (r : Nat) (h1 : XH), HT h1 → HX h h1 → K r h1 → XFin xP sc goal fs (.inl (some (rv r))) h1) : RR sc goal fs 211 0 [some (rv 437)] [] h := by
  unfold w_X14_goalSet at w
  refine r_aldn (pc1 := 1) rfl rfl rfl ?_
  refine r_n (pc1 := 4) [.int (J 805), rv 437] _ rfl rfl ?_
  refine r_aldn (pc1 := 5) rfl rfl rfl ?_
  refine r_gfC (pc1 := 8) (q := 438) rfl rfl rfl t0 (lyk t0 rfl) rfl rfl (lyR t0 rfl rfl) ?_
  refine r_n (pc1 := 9) [.int (J 1), rv 438, .int (J 805), rv 437] _ rfl rfl ?_
  refine r_ial (pc1 := 10) rfl rfl t0 (lyk t0 rfl) (rgk rfl) (by decide) (lt_len (lyn t0 rfl) (by decide)) ?_
  refine r_n (pc1 := 13) [.int (J 291), .int (J (hI h 438 1)), .int (J 805), rv 437] _ rfl rfl ?_
  refine r_imul (pc1 := 14) rfl rfl ?_
  refine r_iadd (pc1 := 15) rfl rfl ?_
  refine r_n (pc1 := 17) [.int (J 35), .int (J (wr (805 + (wr ((hI h 438 1) * 291))))), rv 437] _ rfl rfl ?_
  refine r_iadd (pc1 := 18) rfl rfl ?_
  refine r_iv rfl rfl rfl rfl rfl rfl t0 (lyk t0 rfl) rfl (xe_of (xa_r (xa_i xa_0)) rfl rfl) (r_d0 hd rfl) (a_X14_setAt (wr ((wr (805 + (wr ((hI h 438 1) * 291)))) + 35)) (r_d1 hd rfl) (rgw _) w t0 (fun a1 h2 t2 u2 w => ?_))
  refine r_fR (pc1 := 21) rfl ?_
  have s2 := HX_trans (HX_refl h) u2
  have w := w t2 u2
  exact r_retR rfl rfl rfl xok_A xokr_A (k _ _ t2 s2 w)
def w_X14_codeIn (p0 : Nat) (p1 : Int) (K : Int → Prop) (h : XH) : Prop :=
  (hk h p0 = 100 ∧ (0 ≤ p1 ∧ p1 < (hn h p0 : Int)) ∧ ∃ J4 : Int → Prop, (∀ (x3 : Int), rg x3 → J4 x3 → (K x3)) ∧ ((¬ hI h p0 p1.toNat = (-1) → (J4 (irem (hI h p0 p1.toNat) 1000000))) ∧ (¬ (¬ hI h p0 p1.toNat = (-1)) → (J4 (-1)))))
set_option maxHeartbeats 4000000 in
theorem a_X14_codeIn {sc : Nat × (Nat → Int32)} {goal : XO → XH → Prop} {fs : List XF} {h : XH} (p0 : Nat) (p1 : Int) {K : Int → Prop} (hd : fs.length + 0 ≤ 1000) (rp1 : rg p1) (w : w_X14_codeIn p0 p1 K h) (t0 : HT h) (k : ∀ (r : Int), rg r → K r → XFin xP sc goal fs (.inl (some (.int (J r)))) h) : RR sc goal fs 185 0 [some (rv p0), some (.int (J p1))] [] h := by
  unfold w_X14_codeIn at w
  refine r_aldn (pc1 := 1) rfl rfl rfl ?_
  refine r_n (pc1 := 2) [.int (J p1), rv p0] _ rfl rfl ?_
  obtain ⟨c1, w⟩ := w
  obtain ⟨c2, w⟩ := w
  refine r_ial (pc1 := 3) rfl rfl t0 c1 rp1 c2.1 c2.2 ?_
  refine r_n (pc1 := 4) [.int (J (-1)), .int (J (hI h p0 p1.toNat))] _ rfl rfl ?_
  obtain ⟨J4, j4, w⟩ := w
  have Q4 : ∀ (x3 : Int), rg x3 → J4 x3 → RR sc goal fs 185 18 [some (rv p0), some (.int (J p1))] [.int (J x3)] h := by
    intro x3 rx3 z4
    have w := j4 x3 rx3 z4
    exact r_retI rfl rfl rfl (k _ rx3 w)
  refine r_ic (t := 11) (pc1 := 7) rfl rfl rfl (rgh _ _ _) (rgk rfl) (fun c5 => ?_) (fun c5 => ?_)
  · have w := w.1 c5
    refine r_aldn (pc1 := 12) rfl rfl rfl ?_
    refine r_n (pc1 := 13) [.int (J p1), rv p0] _ rfl rfl ?_
    refine r_ial (pc1 := 14) rfl rfl t0 c1 rp1 c2.1 c2.2 ?_
    refine r_n (pc1 := 17) [.int (J 1000000), .int (J (hI h p0 p1.toNat))] _ rfl rfl ?_
    refine r_irem (pc1 := 18) rfl rfl (rgk rfl) (by decide) ?_
    exact Q4  (irem (hI h p0 p1.toNat) 1000000)  (rgt _) w
  · have w := w.2 c5
    refine r_n (pc1 := 8) [.int (J (-1))] _ rfl rfl ?_
    refine r_goto (t := 18) rfl rfl ?_
    exact Q4  (-1)  (rgk rfl) w
def w_X14_versionOf (p0 : Int) (K : Int → XH → Prop) (h : XH) : Prop :=
  (∀ h1 : XH, h1 = sI h 437 5 0 → HT h1 → HX h h1 → w_X14_isPack p0 (fun x2 => rg x2 → (x2 = 0 ∨ x2 = 1) → (w_X14_refused x2 1 (fun x3 h4 => HT h4 → HX h1 h4 → rg x3 → (x3 = 0 ∨ x3 = 1) → (∃ J7 : Int → XH → Prop, (∀ (x5 : Int) (h6 : XH), HT h6 → HX h h6 → rg x5 → J7 x5 h6 → (K x5 h6)) ∧ ((x3 = 0 → (w_X14_goalSet (fun a8 h9 => HT h9 → HX h4 h9 → (w_X14_codeIn a8 p0 (fun x10 => rg x10 → J7 x10 h9) h9)) h4)) ∧ (¬ (x3 = 0) → (J7 0 h4))))) h1)) h1)
set_option maxHeartbeats 4000000 in
theorem a_X14_versionOf {sc : Nat × (Nat → Int32)} {goal : XO → XH → Prop} {fs : List XF} {h : XH} (p0 : Int) {K : Int → XH → Prop} (hd : fs.length + 2 ≤ 1000) (rp0 : rg p0) (w : w_X14_versionOf p0 K h) (t0 : HT h) (k : ∀ (r : Int) (h1 : XH), HT h1 → HX h h1 → rg r → K r h1 → XFin xP sc goal fs (.inl (some (.int (J r)))) h1) : RR sc goal fs 319 0 [some (rv 437), some (.int (J p0))] [] h := by
  unfold w_X14_versionOf at w
  refine r_aldn (pc1 := 1) rfl rfl rfl ?_
  refine r_n (pc1 := 2) [.int (J 0), rv 437] _ rfl rfl ?_
  refine r_pfI (pc1 := 5) rfl rfl rfl t0 (lyk t0 rfl) rfl rfl rfl (fun h1 eh1 t1 u1 => ?_)
  have w := w h1 eh1 t1 u1
  have s1 := HX_trans (HX_refl h) u1
  refine r_aldn (pc1 := 6) rfl rfl rfl ?_
  refine r_aldn (pc1 := 7) rfl rfl rfl ?_
  refine r_n (pc1 := 8) [.int (J p0), rv 437, rv 437] _ rfl rfl ?_
  refine r_iv rfl rfl rfl rfl rfl rfl t1 (lyk t1 rfl) rfl (xe_of (xa_r (xa_i xa_0)) rfl rfl) (r_d0 hd rfl) (a_X14_isPack p0 (r_d1 hd rfl) rp0 w t1 (fun x2 rx2 vx2 w => ?_))
  refine r_fI (pc1 := 11) rfl ?_
  have w := w rx2 vx2
  refine r_n (pc1 := 12) [.int (J 1), .int (J x2), rv 437] _ rfl rfl ?_
  refine r_iv rfl rfl rfl rfl rfl rfl t1 (lyk t1 rfl) rfl (xe_of (xa_r (xa_i (xa_i xa_0))) rfl rfl) (r_d0 hd rfl) (a_X14_refused x2 1 (r_d1 hd rfl) rx2 (rgk rfl) w t1 (fun x3 h4 t4 u4 rx3 vx3 w => ?_))
  refine r_fI (pc1 := 15) rfl ?_
  have s4 := HX_trans s1 u4
  have w := w t4 u4
  have w := w rx3 vx3
  obtain ⟨J7, j7, w⟩ := w
  have Q7 : ∀ (x5 : Int) (h6 : XH), HT h6 → HX h h6 → rg x5 → J7 x5 h6 → RR sc goal fs 319 30 [some (rv 437), some (.int (J p0))] [.int (J x5)] h6 := by
    intro x5 h6 t6 s6 rx5 z7
    have w := j7 x5 h6 t6 s6 rx5 z7
    exact r_retI rfl rfl rfl (k _ _ t6 s6 rx5 w)
  refine r_iz (t := 22) (pc1 := 18) rfl rfl rfl rx3 (fun c11 => ?_) (fun c11 => ?_)
  · have w := w.1 c11
    refine r_aldn (pc1 := 23) rfl rfl rfl ?_
    refine r_iv rfl rfl rfl rfl rfl rfl t4 (lyk t4 rfl) rfl (xe_of (xa_r xa_0) rfl rfl) (r_d0 hd rfl) (a_X14_goalSet  (r_d1 hd rfl)  w t4 (fun a8 h9 t9 u9 w => ?_))
    refine r_fR (pc1 := 26) rfl ?_
    have s9 := HX_trans s4 u9
    have w := w t9 u9
    refine r_n (pc1 := 27) [.int (J p0), rv a8] _ rfl rfl ?_
    refine r_iq rfl rfl rfl rfl rfl rfl (xe_of (xa_r (xa_i xa_0)) rfl rfl) (r_d0 hd rfl) (a_X14_codeIn a8 p0 (r_d1 hd rfl) rp0 w t9 (fun x10 rx10 w => ?_))
    refine r_fI (pc1 := 30) rfl ?_
    have w := w rx10
    exact Q7  x10 h9 t9 s9 rx10 w
  · have w := w.2 c11
    refine r_n (pc1 := 19) [.int (J 0)] _ rfl rfl ?_
    refine r_goto (t := 30) rfl rfl ?_
    exact Q7  0 h4 t4 s4 (rgk rfl) w
def w_X14_isOn (p0 : Int) (K : Int → XH → Prop) (h : XH) : Prop :=
  (∀ h1 : XH, h1 = sI h 437 5 0 → HT h1 → HX h h1 → w_X14_isPack p0 (fun x2 => rg x2 → (x2 = 0 ∨ x2 = 1) → (w_X14_refused x2 1 (fun x3 h4 => HT h4 → HX h1 h4 → rg x3 → (x3 = 0 ∨ x3 = 1) → (∃ J7 : Int → XH → Prop, (∀ (x5 : Int) (h6 : XH), HT h6 → HX h h6 → rg x5 → J7 x5 h6 → ((x5 = 0 ∨ x5 = 1) ∧ K x5 h6)) ∧ ∃ J10 : XH → Prop, (∀ (h9 : XH), HT h9 → HX h h9 → J10 h9 → (J7 0 h9)) ∧ ((¬ x3 = 0 → J10 h4) ∧ (¬ (¬ x3 = 0) → (w_X14_goalSet (fun a11 h12 => HT h12 → HX h4 h12 → (w_X14_isOnIn a11 p0 (fun x13 => rg x13 → (x13 = 0 ∨ x13 = 1) → (((x13 = 0 → J10 h12) ∧ (¬ (x13 = 0) → (J7 1 h12))))) h12)) h4))))) h1)) h1)
set_option maxHeartbeats 4000000 in
theorem a_X14_isOn {sc : Nat × (Nat → Int32)} {goal : XO → XH → Prop} {fs : List XF} {h : XH} (p0 : Int) {K : Int → XH → Prop} (hd : fs.length + 2 ≤ 1000) (rp0 : rg p0) (w : w_X14_isOn p0 K h) (t0 : HT h) (k : ∀ (r : Int) (h1 : XH), HT h1 → HX h h1 → rg r → (r = 0 ∨ r = 1) → K r h1 → XFin xP sc goal fs (.inl (some (.int (J r)))) h1) : RR sc goal fs 234 0 [some (rv 437), some (.int (J p0))] [] h := by
  unfold w_X14_isOn at w
  refine r_aldn (pc1 := 1) rfl rfl rfl ?_
  refine r_n (pc1 := 2) [.int (J 0), rv 437] _ rfl rfl ?_
  refine r_pfI (pc1 := 5) rfl rfl rfl t0 (lyk t0 rfl) rfl rfl rfl (fun h1 eh1 t1 u1 => ?_)
  have w := w h1 eh1 t1 u1
  have s1 := HX_trans (HX_refl h) u1
  refine r_aldn (pc1 := 6) rfl rfl rfl ?_
  refine r_aldn (pc1 := 7) rfl rfl rfl ?_
  refine r_n (pc1 := 8) [.int (J p0), rv 437, rv 437] _ rfl rfl ?_
  refine r_iv rfl rfl rfl rfl rfl rfl t1 (lyk t1 rfl) rfl (xe_of (xa_r (xa_i xa_0)) rfl rfl) (r_d0 hd rfl) (a_X14_isPack p0 (r_d1 hd rfl) rp0 w t1 (fun x2 rx2 vx2 w => ?_))
  refine r_fI (pc1 := 11) rfl ?_
  have w := w rx2 vx2
  refine r_n (pc1 := 12) [.int (J 1), .int (J x2), rv 437] _ rfl rfl ?_
  refine r_iv rfl rfl rfl rfl rfl rfl t1 (lyk t1 rfl) rfl (xe_of (xa_r (xa_i (xa_i xa_0))) rfl rfl) (r_d0 hd rfl) (a_X14_refused x2 1 (r_d1 hd rfl) rx2 (rgk rfl) w t1 (fun x3 h4 t4 u4 rx3 vx3 w => ?_))
  refine r_fI (pc1 := 15) rfl ?_
  have s4 := HX_trans s1 u4
  have w := w t4 u4
  have w := w rx3 vx3
  obtain ⟨J7, j7, w⟩ := w
  have Q7 : ∀ (x5 : Int) (h6 : XH), HT h6 → HX h h6 → rg x5 → J7 x5 h6 → RR sc goal fs 234 34 [some (rv 437), some (.int (J p0))] [.int (J x5)] h6 := by
    intro x5 h6 t6 s6 rx5 z7
    have w := j7 x5 h6 t6 s6 rx5 z7
    obtain ⟨c8, w⟩ := w
    exact r_retB rfl rfl rfl c8 (k _ _ t6 s6 rx5 c8 w)
  obtain ⟨J10, j10, w⟩ := w
  have Q10 : ∀ (h9 : XH), HT h9 → HX h h9 → J10 h9 → RR sc goal fs 234 33 [some (rv 437), some (.int (J p0))] [] h9 := by
    intro h9 t9 s9 z10
    have w := j10 h9 t9 s9 z10
    refine r_n (pc1 := 34) [.int (J 0)] _ rfl rfl ?_
    exact Q7  0 h9 t9 s9 (rgk rfl) w
  refine r_iz (t := 33) (pc1 := 18) rfl rfl rfl rx3 (fun c15 => ?_) (fun c15 => ?_)
  · have w := w.1 c15
    exact Q10   h4 t4 s4  w
  · have w := w.2 c15
    refine r_aldn (pc1 := 19) rfl rfl rfl ?_
    refine r_iv rfl rfl rfl rfl rfl rfl t4 (lyk t4 rfl) rfl (xe_of (xa_r xa_0) rfl rfl) (r_d0 hd rfl) (a_X14_goalSet  (r_d1 hd rfl)  w t4 (fun a11 h12 t12 u12 w => ?_))
    refine r_fR (pc1 := 22) rfl ?_
    have s12 := HX_trans s4 u12
    have w := w t12 u12
    refine r_n (pc1 := 23) [.int (J p0), rv a11] _ rfl rfl ?_
    refine r_iq rfl rfl rfl rfl rfl rfl (xe_of (xa_r (xa_i xa_0)) rfl rfl) (r_d0 hd rfl) (a_X14_isOnIn a11 p0 (r_d1 hd rfl) rp0 w t12 (fun x13 rx13 vx13 w => ?_))
    refine r_fI (pc1 := 26) rfl ?_
    have w := w rx13 vx13
    refine r_iz (t := 33) (pc1 := 29) rfl rfl rfl rx13 (fun c14 => ?_) (fun c14 => ?_)
    · have w := w.1 c14
      exact Q10   h12 t12 s12  w
    · have w := w.2 c14
      refine r_n (pc1 := 30) [.int (J 1)] _ rfl rfl ?_
      refine r_goto (t := 34) rfl rfl ?_
      exact Q7  1 h12 t12 s12 (rgk rfl) w
def w_X12_changes  (K : Int → Prop) (h : XH) : Prop :=
  (w_X11_atHand (fun a1 => (hk h a1 = 7 ∧ w_X11_atHand (fun a3 => (hk h a3 = 7 ∧ w_X12_changesBetween (hL h a1 6) (hL h a3 5) (fun x5 => rg x5 → (K x5)) h)) h)) h)
set_option maxHeartbeats 4000000 in
theorem a_X12_changes {sc : Nat × (Nat → Int32)} {goal : XO → XH → Prop} {fs : List XF} {h : XH}  {K : Int → Prop} (hd : fs.length + 2 ≤ 1000) (w : w_X12_changes  K h) (t0 : HT h) (k : ∀ (r : Int), rg r → K r → XFin xP sc goal fs (.inl (some (.int (J r)))) h) : RR sc goal fs 87 0 [some (rv 2)] [] h := by
  unfold w_X12_changes at w
  refine r_aldn (pc1 := 1) rfl rfl rfl ?_
  refine r_aldn (pc1 := 2) rfl rfl rfl ?_
  refine r_gfC (pc1 := 5) (q := 8) rfl rfl rfl t0 (lyk t0 rfl) rfl rfl (lyR t0 rfl rfl) ?_
  refine r_iv rfl rfl rfl rfl rfl rfl t0 (lyk t0 rfl) rfl (xe_of (xa_r xa_0) rfl rfl) (r_d0 hd rfl) (a_X11_atHand  (r_d1 hd rfl)  w t0 (fun a1 w => ?_))
  refine r_fR (pc1 := 8) rfl ?_
  obtain ⟨c2, w⟩ := w
  refine r_gfL (pc1 := 11) rfl rfl rfl t0 c2 rfl rfl ?_
  refine r_aldn (pc1 := 12) rfl rfl rfl ?_
  refine r_gfC (pc1 := 15) (q := 8) rfl rfl rfl t0 (lyk t0 rfl) rfl rfl (lyR t0 rfl rfl) ?_
  refine r_iv rfl rfl rfl rfl rfl rfl t0 (lyk t0 rfl) rfl (xe_of (xa_r xa_0) rfl rfl) (r_d0 hd rfl) (a_X11_atHand  (r_d1 hd rfl)  w t0 (fun a3 w => ?_))
  refine r_fR (pc1 := 18) rfl ?_
  obtain ⟨c4, w⟩ := w
  refine r_gfL (pc1 := 21) rfl rfl rfl t0 c4 rfl rfl ?_
  refine r_iv rfl rfl rfl rfl rfl rfl t0 (lyk t0 rfl) rfl (xe_of (xa_r (xa_l (xa_l xa_0))) rfl rfl) (r_d0 hd rfl) (a_X12_changesBetween (hL h a1 6) (hL h a3 5) (r_d1 hd rfl)  w t0 (fun x5 rx5 w => ?_))
  refine r_fI (pc1 := 24) rfl ?_
  have w := w rx5
  exact r_retI rfl rfl rfl (k _ rx5 w)
def w_X14_differences (p0 : Nat) (p1 : Nat) (K : Int → Prop) (h : XH) : Prop :=
  ((∃ (I3 : Int → Int → Prop) (m3 : Int → Int → Nat), I3 0 0 ∧ ∀ (x1 : Int) (x2 : Int), rg x1 → rg x2 → I3 x1 x2 → (((12 ≤ x2 → (K x1)) ∧ (¬ (12 ≤ x2) → (hk h p0 = 100 ∧ (0 ≤ x2 ∧ x2 < (hn h p0 : Int)) ∧ hk h p1 = 100 ∧ (0 ≤ x2 ∧ x2 < (hn h p1 : Int)) ∧ ∃ J9 : Int → Prop, (∀ (x8 : Int), rg x8 → J9 x8 → (∀ x10 : Int, x10 = wr (x1 + x8) → rg x10 → ∀ x11 : Int, x11 = wr (x2 + 1) → rg x11 → (I3 x10 x11 ∧ m3 x10 x11 < m3 x1 x2))) ∧ ((¬ hI h p0 x2.toNat = hI h p1 x2.toNat → (J9 1)) ∧ (¬ (¬ hI h p0 x2.toNat = hI h p1 x2.toNat) → (J9 0)))))))))
set_option maxHeartbeats 4000000 in
theorem a_X14_differences {sc : Nat × (Nat → Int32)} {goal : XO → XH → Prop} {fs : List XF} {h : XH} (p0 : Nat) (p1 : Nat) {K : Int → Prop} (hd : fs.length + 0 ≤ 1000) (w : w_X14_differences p0 p1 K h) (t0 : HT h) (k : ∀ (r : Int), rg r → K r → XFin xP sc goal fs (.inl (some (.int (J r)))) h) : RR sc goal fs 191 0 [some (rv p0), some (rv p1), none, none] [] h := by
  unfold w_X14_differences at w
  refine r_n (pc1 := 1) [.int (J 0)] _ rfl rfl ?_
  refine r_istn (pc1 := 2) (ls1 := [some (rv p0), some (rv p1), some (.int (J 0)), none]) rfl rfl rfl (xput1_rv rfl rfl) ?_
  refine r_n (pc1 := 3) [.int (J 0)] _ rfl rfl ?_
  refine r_istn (pc1 := 4) (ls1 := [some (rv p0), some (rv p1), some (.int (J 0)), some (.int (J 0))]) rfl rfl rfl rfl ?_
  obtain ⟨I3, m3, w, y3⟩ := w
  have Q3 : ∀ (n : Nat)  (x1 : Int) (x2 : Int), rg x1 → rg x2 → m3 x1 x2 < n → I3 x1 x2 → RR sc goal fs 191 4 [some (rv p0), some (rv p1), some (.int (J x1)), some (.int (J x2))] [] h := by
    intro n
    induction n with
    | zero => intro x1 x2 rx1 rx2 q3 _; exact absurd q3 (Nat.not_lt_zero _)
    | succ n ih3 =>
      intro x1 x2 rx1 rx2 q3 z3
      have w := y3 x1 x2 rx1 rx2 z3
      refine r_n (pc1 := 5) [.int (J x2)] _ rfl rfl ?_
      refine r_n (pc1 := 7) [.int (J 12), .int (J x2)] _ rfl rfl ?_
      refine r_ic (t := 33) (pc1 := 10) rfl rfl rfl rx2 (rgk rfl) (fun c13 => ?_) (fun c13 => ?_)
      · have w := w.1 c13
        refine r_n (pc1 := 34) [.int (J x1)] _ rfl rfl ?_
        exact r_retI rfl rfl rfl (k _ rx1 w)
      · have w := w.2 c13
        refine r_n (pc1 := 11) [.int (J x1)] _ rfl rfl ?_
        refine r_aldn (pc1 := 12) rfl rfl rfl ?_
        refine r_n (pc1 := 13) [.int (J x2), rv p0, .int (J x1)] _ rfl rfl ?_
        obtain ⟨c4, w⟩ := w
        obtain ⟨c5, w⟩ := w
        refine r_ial (pc1 := 14) rfl rfl t0 c4 rx2 c5.1 c5.2 ?_
        refine r_aldn (pc1 := 15) rfl rfl rfl ?_
        refine r_n (pc1 := 16) [.int (J x2), rv p1, .int (J (hI h p0 x2.toNat)), .int (J x1)] _ rfl rfl ?_
        obtain ⟨c6, w⟩ := w
        obtain ⟨c7, w⟩ := w
        refine r_ial (pc1 := 17) rfl rfl t0 c6 rx2 c7.1 c7.2 ?_
        obtain ⟨J9, j9, w⟩ := w
        have Q9 : ∀ (x8 : Int), rg x8 → J9 x8 → RR sc goal fs 191 25 [some (rv p0), some (rv p1), some (.int (J x1)), some (.int (J x2))] [.int (J x8), .int (J x1)] h := by
          intro x8 rx8 z9
          have w := j9 x8 rx8 z9
          refine r_iadd (pc1 := 26) rfl rfl ?_
          refine r_vI (rgw _) (fun x10 ex10 rx10 => ?_)
          have w := w x10 ex10 rx10
          refine r_istn (pc1 := 27) (ls1 := [some (rv p0), some (rv p1), some (.int (J x10)), some (.int (J x2))]) rfl rfl rfl (xput1_rv rfl rfl) ?_
          refine r_inc (pc1 := 30) (g := fun zz => [some (rv p0), some (rv p1), some (.int (J x10)), some (.int (J zz))]) rfl rfl rfl rfl (fun _ => rfl) (fun x11 ex11 rx11 => ?_)
          have w := w x11 ex11 rx11
          refine r_goto (t := 4) rfl rfl ?_
          exact ih3  x10 x11  rx10 rx11 (Nat.lt_of_lt_of_le w.2 (Nat.le_of_lt_succ q3)) w.1
        refine r_ic (t := 24) (pc1 := 20) rfl rfl rfl (rgh _ _ _) (rgh _ _ _) (fun c12 => ?_) (fun c12 => ?_)
        · have w := w.1 c12
          refine r_n (pc1 := 25) [.int (J 1), .int (J x1)] _ rfl rfl ?_
          exact Q9  1  (rgk rfl) w
        · have w := w.2 c12
          refine r_n (pc1 := 21) [.int (J 0), .int (J x1)] _ rfl rfl ?_
          refine r_goto (t := 25) rfl rfl ?_
          exact Q9  0  (rgk rfl) w
  exact Q3 _  0 0  (rgk rfl) (rgk rfl) (Nat.lt_succ_self _) w
def w_X14_changes  (K : Int → XH → Prop) (h : XH) : Prop :=
  (∀ h1 : XH, h1 = sI h 437 5 0 → HT h1 → HX h h1 → w_X14_goalSet (fun a2 h3 => HT h3 → HX h1 h3 → (w_X14_installedSet (fun a4 h5 => HT h5 → HX h3 h5 → (w_X14_differences a2 a4 (fun x6 => rg x6 → (K x6 h5)) h5)) h3)) h1)
set_option maxHeartbeats 4000000 in
theorem a_X14_changes {sc : Nat × (Nat → Int32)} {goal : XO → XH → Prop} {fs : List XF} {h : XH}  {K : Int → XH → Prop} (hd : fs.length + 2 ≤ 1000) (w : w_X14_changes  K h) (t0 : HT h) (k : ∀ (r : Int) (h1 : XH), HT h1 → HX h h1 → rg r → K r h1 → XFin xP sc goal fs (.inl (some (.int (J r)))) h1) : RR sc goal fs 181 0 [some (rv 437)] [] h := by
  unfold w_X14_changes at w
  refine r_aldn (pc1 := 1) rfl rfl rfl ?_
  refine r_n (pc1 := 2) [.int (J 0), rv 437] _ rfl rfl ?_
  refine r_pfI (pc1 := 5) rfl rfl rfl t0 (lyk t0 rfl) rfl rfl rfl (fun h1 eh1 t1 u1 => ?_)
  have w := w h1 eh1 t1 u1
  have s1 := HX_trans (HX_refl h) u1
  refine r_aldn (pc1 := 6) rfl rfl rfl ?_
  refine r_iv rfl rfl rfl rfl rfl rfl t1 (lyk t1 rfl) rfl (xe_of (xa_r xa_0) rfl rfl) (r_d0 hd rfl) (a_X14_goalSet  (r_d1 hd rfl)  w t1 (fun a2 h3 t3 u3 w => ?_))
  refine r_fR (pc1 := 9) rfl ?_
  have s3 := HX_trans s1 u3
  have w := w t3 u3
  refine r_aldn (pc1 := 10) rfl rfl rfl ?_
  refine r_iv rfl rfl rfl rfl rfl rfl t3 (lyk t3 rfl) rfl (xe_of (xa_r xa_0) rfl rfl) (r_d0 hd rfl) (a_X14_installedSet  (r_d1 hd rfl)  w t3 (fun a4 h5 t5 u5 w => ?_))
  refine r_fR (pc1 := 13) rfl ?_
  have s5 := HX_trans s3 u5
  have w := w t5 u5
  refine r_iq rfl rfl rfl rfl rfl rfl (xe_of (xa_r (xa_r xa_0)) rfl rfl) (r_d0 hd rfl) (a_X14_differences a2 a4 (r_d1 hd rfl)  w t5 (fun x6 rx6 w => ?_))
  refine r_fI (pc1 := 16) rfl ?_
  have w := w rx6
  exact r_retI rfl rfl rfl (k _ _ t5 s5 rx6 w)
def w_X9_mustHave (p0 : BitVec 64) (K : Int → XH → Prop) (h : XH) : Prop :=
  (w_X7_load (0#64) 12 (fun h1 => HT h1 → HX h h1 → (w_X7_canHold (0#64) (0#64) (fun x2 h3 => HT h3 → HX h1 h3 → rg x2 → (x2 = 0 ∨ x2 = 1) → (((¬ x2 = 0 → (w_X7_found (fun b4 => (∃ J6 : Int → Prop, (∀ (x5 : Int), rg x5 → J6 x5 → (∃ J8 : BitVec 64 → Prop, (∀ (b7 : BitVec 64), J8 b7 → (∃ J10 : BitVec 64 → Prop, (∀ (b9 : BitVec 64), J10 b9 → (w_X7_canHold b7 b9 (fun x11 h12 => HT h12 → HX h3 h12 → rg x11 → (x11 = 0 ∨ x11 = 1) → (∃ J14 : Int → Prop, (∀ (x13 : Int), rg x13 → J14 x13 → (K x13 h12)) ∧ ((x11 = 0 → (((x5 = 0 → (J14 (-1))) ∧ (¬ (x5 = 0) → (J14 1))))) ∧ (¬ (x11 = 0) → (J14 0))))) h3)) ∧ ((x5 = 0 → (J10 (0#64))) ∧ (¬ (x5 = 0) → (J10 p0))))) ∧ ((x5 = 0 → (J8 p0)) ∧ (¬ (x5 = 0) → (J8 (0#64)))))) ∧ ((b4 &&& p0 = (0#64) → (J6 0)) ∧ (¬ (b4 &&& p0 = (0#64)) → (J6 1))))) h3)) ∧ (¬ (¬ x2 = 0) → (K (-2) h3))))) h1)) h)
set_option maxHeartbeats 4000000 in
theorem a_X9_mustHave {sc : Nat × (Nat → Int32)} {goal : XO → XH → Prop} {fs : List XF} {h : XH} (p0 : BitVec 64) {K : Int → XH → Prop} (hd : fs.length + 5 ≤ 1000) (w : w_X9_mustHave p0 K h) (t0 : HT h) (k : ∀ (r : Int) (h1 : XH), HT h1 → HX h h1 → rg r → K r h1 → XFin xP sc goal fs (.inl (some (.int (J r)))) h1) : RR sc goal fs 474 0 [some (rv 68), some (.long (G p0)), none, none, none] [] h := by
  unfold w_X9_mustHave at w
  refine r_aldn (pc1 := 1) rfl rfl rfl ?_
  refine r_gfC (pc1 := 4) (q := 57) rfl rfl rfl t0 (lyk t0 rfl) rfl rfl (lyR t0 rfl rfl) ?_
  refine r_n (pc1 := 5) [.long (G (0#64)), rv 57] _ rfl rfl ?_
  refine r_n (pc1 := 7) [.int (J 12), .long (G (0#64)), rv 57] _ rfl rfl ?_
  refine r_iv rfl rfl rfl rfl rfl rfl t0 (lyk t0 rfl) rfl (xe_of (xa_r (xa_l (xa_i xa_0))) rfl rfl) (r_d0 hd rfl) (a_X7_load (0#64) 12 (r_d1 hd rfl) (rgk rfl) w t0 (fun h1 t1 u1 w => ?_))
  refine r_fV (pc1 := 10) rfl ?_
  have s1 := HX_trans (HX_refl h) u1
  have w := w t1 u1
  refine r_aldn (pc1 := 11) rfl rfl rfl ?_
  refine r_gfC (pc1 := 14) (q := 57) rfl rfl rfl t1 (lyk t1 rfl) rfl rfl (lyR t1 rfl rfl) ?_
  refine r_n (pc1 := 15) [.long (G (0#64)), rv 57] _ rfl rfl ?_
  refine r_n (pc1 := 16) [.long (G (0#64)), .long (G (0#64)), rv 57] _ rfl rfl ?_
  refine r_iv rfl rfl rfl rfl rfl rfl t1 (lyk t1 rfl) rfl (xe_of (xa_r (xa_l (xa_l xa_0))) rfl rfl) (r_d0 hd rfl) (a_X7_canHold (0#64) (0#64) (r_d1 hd rfl)  w t1 (fun x2 h3 t3 u3 rx2 vx2 w => ?_))
  refine r_fI (pc1 := 19) rfl ?_
  have s3 := HX_trans s1 u3
  have w := w t3 u3
  have w := w rx2 vx2
  refine r_iz (t := 25) (pc1 := 22) rfl rfl rfl rx2 (fun c20 => ?_) (fun c20 => ?_)
  · have w := w.1 c20
    refine r_aldn (pc1 := 26) rfl rfl rfl ?_
    refine r_gfC (pc1 := 29) (q := 57) rfl rfl rfl t3 (lyk t3 rfl) rfl rfl (lyR t3 rfl rfl) ?_
    refine r_iv rfl rfl rfl rfl rfl rfl t3 (lyk t3 rfl) rfl (xe_of (xa_r xa_0) rfl rfl) (r_d0 hd rfl) (a_X7_found  (r_d1 hd rfl)  w t3 (fun b4 w => ?_))
    refine r_fL (pc1 := 32) rfl ?_
    refine r_n (pc1 := 33) [.long (G p0), .long (G b4)] _ rfl rfl ?_
    refine r_land (pc1 := 34) rfl rfl ?_
    refine r_n (pc1 := 35) [.long (G (0#64)), .long (G (b4 &&& p0))] _ rfl rfl ?_
    obtain ⟨J6, j6, w⟩ := w
    have Q6 : ∀ (x5 : Int), rg x5 → J6 x5 → RR sc goal fs 474 44 [some (rv 68), some (.long (G p0)), none, none, none] [.int (J x5)] h3 := by
      intro x5 rx5 z6
      have w := j6 x5 rx5 z6
      refine r_istn (pc1 := 45) (ls1 := [some (rv 68), some (.long (G p0)), none, some (.int (J x5)), none]) rfl rfl rfl rfl ?_
      refine r_aldn (pc1 := 46) rfl rfl rfl ?_
      refine r_gfC (pc1 := 49) (q := 57) rfl rfl rfl t3 (lyk t3 rfl) rfl rfl (lyR t3 rfl rfl) ?_
      refine r_n (pc1 := 50) [.int (J x5), rv 57] _ rfl rfl ?_
      obtain ⟨J8, j8, w⟩ := w
      have Q8 : ∀ (b7 : BitVec 64), J8 b7 → RR sc goal fs 474 58 [some (rv 68), some (.long (G p0)), none, some (.int (J x5)), none] [.long (G b7), rv 57] h3 := by
        intro b7 z8
        have w := j8 b7 z8
        refine r_n (pc1 := 59) [.int (J x5), .long (G b7), rv 57] _ rfl rfl ?_
        obtain ⟨J10, j10, w⟩ := w
        have Q10 : ∀ (b9 : BitVec 64), J10 b9 → RR sc goal fs 474 67 [some (rv 68), some (.long (G p0)), none, some (.int (J x5)), none] [.long (G b9), .long (G b7), rv 57] h3 := by
          intro b9 z10
          have w := j10 b9 z10
          refine r_iv rfl rfl rfl rfl rfl rfl t3 (lyk t3 rfl) rfl (xe_of (xa_r (xa_l (xa_l xa_0))) rfl rfl) (r_d0 hd rfl) (a_X7_canHold b7 b9 (r_d1 hd rfl)  w t3 (fun x11 h12 t12 u12 rx11 vx11 w => ?_))
          refine r_fI (pc1 := 70) rfl ?_
          have s12 := HX_trans s3 u12
          have w := w t12 u12
          have w := w rx11 vx11
          refine r_ist (pc1 := 72) (ls1 := [some (rv 68), some (.long (G p0)), none, some (.int (J x5)), some (.int (J x11))]) rfl rfl rfl rfl ?_
          refine r_n (pc1 := 74) [.int (J x11)] _ rfl rfl ?_
          obtain ⟨J14, j14, w⟩ := w
          have Q14 : ∀ (x13 : Int), rg x13 → J14 x13 → RR sc goal fs 474 90 [some (rv 68), some (.long (G p0)), none, some (.int (J x5)), some (.int (J x11))] [.int (J x13)] h12 := by
            intro x13 rx13 z14
            have w := j14 x13 rx13 z14
            exact r_retI rfl rfl rfl (k _ _ t12 s12 rx13 w)
          refine r_iz (t := 81) (pc1 := 77) rfl rfl rfl rx11 (fun c16 => ?_) (fun c16 => ?_)
          · have w := w.1 c16
            refine r_n (pc1 := 82) [.int (J x5)] _ rfl rfl ?_
            refine r_iz (t := 89) (pc1 := 85) rfl rfl rfl rx5 (fun c15 => ?_) (fun c15 => ?_)
            · have w := w.1 c15
              refine r_n (pc1 := 90) [.int (J (-1))] _ rfl rfl ?_
              exact Q14  (-1)  (rgk rfl) w
            · have w := w.2 c15
              refine r_n (pc1 := 86) [.int (J 1)] _ rfl rfl ?_
              refine r_goto (t := 90) rfl rfl ?_
              exact Q14  1  (rgk rfl) w
          · have w := w.2 c16
            refine r_n (pc1 := 78) [.int (J 0)] _ rfl rfl ?_
            refine r_goto (t := 90) rfl rfl ?_
            exact Q14  0  (rgk rfl) w
        refine r_iz (t := 66) (pc1 := 62) rfl rfl rfl rx5 (fun c17 => ?_) (fun c17 => ?_)
        · have w := w.1 c17
          refine r_n (pc1 := 67) [.long (G (0#64)), .long (G b7), rv 57] _ rfl rfl ?_
          exact Q10  (0#64)   w
        · have w := w.2 c17
          refine r_n (pc1 := 63) [.long (G p0), .long (G b7), rv 57] _ rfl rfl ?_
          refine r_goto (t := 67) rfl rfl ?_
          exact Q10  p0   w
      refine r_iz (t := 57) (pc1 := 53) rfl rfl rfl rx5 (fun c18 => ?_) (fun c18 => ?_)
      · have w := w.1 c18
        refine r_n (pc1 := 58) [.long (G p0), rv 57] _ rfl rfl ?_
        exact Q8  p0   w
      · have w := w.2 c18
        refine r_n (pc1 := 54) [.long (G (0#64)), rv 57] _ rfl rfl ?_
        refine r_goto (t := 58) rfl rfl ?_
        exact Q8  (0#64)   w
    refine r_lc (pc2 := 36) (t := 43) (pc1 := 39) rfl rfl rfl rfl rfl (fun c19 => ?_) (fun c19 => ?_)
    · have w := w.1 c19
      refine r_n (pc1 := 44) [.int (J 0)] _ rfl rfl ?_
      exact Q6  0  (rgk rfl) w
    · have w := w.2 c19
      refine r_n (pc1 := 40) [.int (J 1)] _ rfl rfl ?_
      refine r_goto (t := 44) rfl rfl ?_
      exact Q6  1  (rgk rfl) w
  · have w := w.2 c20
    refine r_n (pc1 := 24) [.int (J (-2))] _ rfl rfl ?_
    exact r_retI rfl rfl rfl (k _ _ t3 s3 (rgk rfl) w)
def w_X12_must (p0 : Int) (p1 : Int) (K : Int → XH → Prop) (E : Nat → XH → Prop) (h : XH) : Prop :=
  (w_X12_checkedId p0 p1 (fun x1 => rg x1 → (w_X12_know 2 (fun h2 => HT h2 → HX h h2 → (w_X9_mustHave (lshl (1#64) x1) (fun x3 h4 => HT h4 → HX h2 h4 → rg x3 → (K x3 h4)) h2)) h)) E h)
set_option maxHeartbeats 4000000 in
theorem a_X12_must {sc : Nat × (Nat → Int32)} {goal : XO → XH → Prop} {fs : List XF} {h : XH} (p0 : Int) (p1 : Int) {K : Int → XH → Prop} {E : Nat → XH → Prop} (hd : fs.length + 8 ≤ 1000) (rp0 : rg p0) (rp1 : rg p1) (w : w_X12_must p0 p1 K E h) (t0 : HT h) (k : ∀ (r : Int) (h1 : XH), HT h1 → HX h h1 → rg r → K r h1 → XFin xP sc goal fs (.inl (some (.int (J r)))) h1) (kE : ∀ (x : Nat) (h1 : XH), HT h1 → HX h h1 → E x h1 → XFin xP sc goal fs (.inr x) h1) : RR sc goal fs 130 0 [some (rv 2), some (.int (J p0)), some (.int (J p1)), none] [] h := by
  unfold w_X12_must at w
  refine r_aldn (pc1 := 1) rfl rfl rfl ?_
  refine r_n (pc1 := 2) [.int (J p0), rv 2] _ rfl rfl ?_
  refine r_n (pc1 := 3) [.int (J p1), .int (J p0), rv 2] _ rfl rfl ?_
  refine r_iv rfl rfl rfl rfl rfl rfl t0 (lyk t0 rfl) rfl (xe_of (xa_r (xa_i (xa_i xa_0))) rfl rfl) (r_d0 hd rfl) (a_X12_checkedId p0 p1 (r_d1 hd rfl) rp0 rp1 w t0 (fun x1 rx1 w => ?_) (fun x y ty uy w => r_finx rfl rfl (kE x y ty (HX_trans (HX_refl h) uy) w)))
  refine r_fI (pc1 := 6) rfl ?_
  have w := w rx1
  refine r_istn (pc1 := 7) (ls1 := [some (rv 2), some (.int (J p0)), some (.int (J p1)), some (.int (J x1))]) rfl rfl rfl rfl ?_
  refine r_aldn (pc1 := 8) rfl rfl rfl ?_
  refine r_n (pc1 := 9) [.int (J 2), rv 2] _ rfl rfl ?_
  refine r_iv rfl rfl rfl rfl rfl rfl t0 (lyk t0 rfl) rfl (xe_of (xa_r (xa_i xa_0)) rfl rfl) (r_d0 hd rfl) (a_X12_know 2 (r_d1 hd rfl) (rgk rfl) w t0 (fun h2 t2 u2 w => ?_))
  refine r_fV (pc1 := 12) rfl ?_
  have s2 := HX_trans (HX_refl h) u2
  have w := w t2 u2
  refine r_aldn (pc1 := 13) rfl rfl rfl ?_
  refine r_gfC (pc1 := 16) (q := 68) rfl rfl rfl t2 (lyk t2 rfl) rfl rfl (lyR t2 rfl rfl) ?_
  refine r_n (pc1 := 17) [.long (G (1#64)), rv 68] _ rfl rfl ?_
  refine r_n (pc1 := 18) [.int (J x1), .long (G (1#64)), rv 68] _ rfl rfl ?_
  refine r_lshl (pc1 := 19) rfl rfl ?_
  refine r_iv rfl rfl rfl rfl rfl rfl t2 (lyk t2 rfl) rfl (xe_of (xa_r (xa_l xa_0)) rfl rfl) (r_d0 hd rfl) (a_X9_mustHave (lshl (1#64) x1) (r_d1 hd rfl)  w t2 (fun x3 h4 t4 u4 rx3 w => ?_))
  refine r_fI (pc1 := 22) rfl ?_
  have s4 := HX_trans s2 u4
  have w := w t4 u4
  have w := w rx3
  exact r_retI rfl rfl rfl (k _ _ t4 s4 rx3 w)
def w_L_must (p1 : Int) (p2 : Int) (K : Int → XH → Prop) (h : XH) : Prop :=
  (w_X12_must p1 p2 (fun x1 h2 => HT h2 → HX h h2 → rg x1 → (∀ h5 : XH, h5 = sL h2 467 0 (i2l x1) → HT h5 → HX h2 h5 → (K 0 h5))) (fun y4 h3 => ((y4 = 2 ∧ K 1 h3))) h)
set_option maxHeartbeats 4000000 in
theorem a_L_must {sc : Nat × (Nat → Int32)} {goal : XO → XH → Prop} {fs : List XF} {h : XH} (p1 : Int) (p2 : Int) {K : Int → XH → Prop} (hd : fs.length + 9 ≤ 1000) (rp1 : rg p1) (rp2 : rg p2) (w : w_L_must p1 p2 K h) (t0 : HT h) (k : ∀ (r : Int) (h1 : XH), HT h1 → HX h h1 → rg r → K r h1 → XFin xP sc goal fs (.inl (some (.int (J r)))) h1) : RR sc goal fs 47 0 [some (rv 2), some (.int (J p1)), some (.int (J p2)), some (rv 467), none] [] h := by
  unfold w_L_must at w
  refine r_aldn (pc1 := 1) rfl rfl rfl ?_
  refine r_n (pc1 := 2) [.int (J 0), rv 467] _ rfl rfl ?_
  refine r_aldn (pc1 := 3) rfl rfl rfl ?_
  refine r_n (pc1 := 4) [.int (J p1), rv 2, .int (J 0), rv 467] _ rfl rfl ?_
  refine r_n (pc1 := 5) [.int (J p2), .int (J p1), rv 2, .int (J 0), rv 467] _ rfl rfl ?_
  refine r_iv rfl rfl rfl rfl rfl rfl t0 (lyk t0 rfl) rfl (xe_of (xa_r (xa_i (xa_i xa_0))) rfl rfl) (r_d0 hd rfl) (a_X12_must p1 p2 (r_d1 hd rfl) rp1 rp2 w t0 (fun x1 h2 t2 u2 rx1 w => ?_) (fun y4 h3 ty uy w => ?_))
  · refine r_fI (pc1 := 8) rfl ?_
    have s2 := HX_trans (HX_refl h) u2
    have w := w t2 u2
    have w := w rx1
    refine r_i2l (pc1 := 9) rfl rfl ?_
    refine r_last (pc1 := 10) rfl rfl t2 (lyk t2 rfl) (rgk rfl) (by decide) (lt_len (lyn t2 rfl) (by decide)) (fun h5 eh5 t5 u5 => ?_)
    have w := w h5 eh5 t5 u5
    have s5 := HX_trans s2 u5
    refine r_goto (t := 17) rfl rfl ?_
    refine r_n (pc1 := 18) [.int (J 0)] _ rfl rfl ?_
    exact r_retI rfl rfl rfl (k _ _ t5 s5 (rgk rfl) w)
  · obtain ⟨rfl, w⟩ := w
    exact r_fink (z := 1) rfl (by decide) rfl rfl (k _ _ ty (HX_trans (HX_refl h) uy) (rgk rfl) w)
def w_X14_must (p0 : Int) (p1 : Int) (K : Int → XH → Prop) (h : XH) : Prop :=
  (∀ h1 : XH, h1 = sI h 437 5 0 → HT h1 → HX h h1 → w_X14_isPack p0 (fun x2 => rg x2 → (x2 = 0 ∨ x2 = 1) → (∃ J4 : Int → Prop, (∀ (x3 : Int), rg x3 → J4 x3 → (w_X14_refused x3 1 (fun x5 h6 => HT h6 → HX h1 h6 → rg x5 → (x5 = 0 ∨ x5 = 1) → (((x5 = 0 → (w_X14_fitsAny (fun x7 h8 => HT h8 → HX h6 h8 → rg x7 → (x7 = 0 ∨ x7 = 1) → (((¬ x7 = 0 → (w_X14_slotOf p0 p1 (fun x9 => rg x9 → (w_X14_bit x9 (fun b10 => (w_X14_canHold b10 (0#64) (fun x11 h12 => HT h12 → HX h8 h12 → rg x11 → (x11 = 0 ∨ x11 = 1) → (w_X14_canHold (0#64) b10 (fun x13 h14 => HT h14 → HX h12 h14 → rg x13 → (x13 = 0 ∨ x13 = 1) → (∃ J16 : Int → Prop, (∀ (x15 : Int), rg x15 → J16 x15 → (K x15 h14)) ∧ ((¬ x11 = 0 → (((x13 = 0 → (J16 1)) ∧ (¬ (x13 = 0) → (J16 0))))) ∧ (¬ (¬ x11 = 0) → (J16 (-1)))))) h12)) h8)) h8)) h8)) ∧ (¬ (¬ x7 = 0) → (K (-2) h8))))) h6)) ∧ (¬ (x5 = 0) → (K 0 h6))))) h1)) ∧ ∃ J21 : Prop, (J21 → (J4 0)) ∧ ((x2 = 0 → J21) ∧ (¬ (x2 = 0) → (w_X14_slotOf p0 p1 (fun x22 => rg x22 → (((x22 = (-1) → J21) ∧ (¬ (x22 = (-1)) → (J4 1))))) h1))))) h1)
set_option maxHeartbeats 4000000 in
theorem a_X14_must {sc : Nat × (Nat → Int32)} {goal : XO → XH → Prop} {fs : List XF} {h : XH} (p0 : Int) (p1 : Int) {K : Int → XH → Prop} (hd : fs.length + 77 ≤ 1000) (rp0 : rg p0) (rp1 : rg p1) (w : w_X14_must p0 p1 K h) (t0 : HT h) (k : ∀ (r : Int) (h1 : XH), HT h1 → HX h h1 → rg r → K r h1 → XFin xP sc goal fs (.inl (some (.int (J r)))) h1) : RR sc goal fs 258 0 [some (rv 437), some (.int (J p0)), some (.int (J p1)), none, none, none, none] [] h := by
  unfold w_X14_must at w
  refine r_aldn (pc1 := 1) rfl rfl rfl ?_
  refine r_n (pc1 := 2) [.int (J 0), rv 437] _ rfl rfl ?_
  refine r_pfI (pc1 := 5) rfl rfl rfl t0 (lyk t0 rfl) rfl rfl rfl (fun h1 eh1 t1 u1 => ?_)
  have w := w h1 eh1 t1 u1
  have s1 := HX_trans (HX_refl h) u1
  refine r_aldn (pc1 := 6) rfl rfl rfl ?_
  refine r_aldn (pc1 := 7) rfl rfl rfl ?_
  refine r_n (pc1 := 8) [.int (J p0), rv 437, rv 437] _ rfl rfl ?_
  refine r_iv rfl rfl rfl rfl rfl rfl t1 (lyk t1 rfl) rfl (xe_of (xa_r (xa_i xa_0)) rfl rfl) (r_d0 hd rfl) (a_X14_isPack p0 (r_d1 hd rfl) rp0 w t1 (fun x2 rx2 vx2 w => ?_))
  refine r_fI (pc1 := 11) rfl ?_
  have w := w rx2 vx2
  obtain ⟨J4, j4, w⟩ := w
  have Q4 : ∀ (x3 : Int), rg x3 → J4 x3 → RR sc goal fs 258 29 [some (rv 437), some (.int (J p0)), some (.int (J p1)), none, none, none, none] [.int (J x3), rv 437] h1 := by
    intro x3 rx3 z4
    have w := j4 x3 rx3 z4
    refine r_n (pc1 := 30) [.int (J 1), .int (J x3), rv 437] _ rfl rfl ?_
    refine r_iv rfl rfl rfl rfl rfl rfl t1 (lyk t1 rfl) rfl (xe_of (xa_r (xa_i (xa_i xa_0))) rfl rfl) (r_d0 hd rfl) (a_X14_refused x3 1 (r_d1 hd rfl) rx3 (rgk rfl) w t1 (fun x5 h6 t6 u6 rx5 vx5 w => ?_))
    refine r_fI (pc1 := 33) rfl ?_
    have s6 := HX_trans s1 u6
    have w := w t6 u6
    have w := w rx5 vx5
    refine r_iz (t := 38) (pc1 := 36) rfl rfl rfl rx5 (fun c20 => ?_) (fun c20 => ?_)
    · have w := w.1 c20
      refine r_aldn (pc1 := 39) rfl rfl rfl ?_
      refine r_iv rfl rfl rfl rfl rfl rfl t6 (lyk t6 rfl) rfl (xe_of (xa_r xa_0) rfl rfl) (r_d0 hd rfl) (a_X14_fitsAny  (r_d1 hd rfl)  w t6 (fun x7 h8 t8 u8 rx7 vx7 w => ?_))
      refine r_fI (pc1 := 42) rfl ?_
      have s8 := HX_trans s6 u8
      have w := w t8 u8
      have w := w rx7 vx7
      refine r_iz (t := 48) (pc1 := 45) rfl rfl rfl rx7 (fun c19 => ?_) (fun c19 => ?_)
      · have w := w.1 c19
        refine r_aldn (pc1 := 49) rfl rfl rfl ?_
        refine r_n (pc1 := 50) [.int (J p0), rv 437] _ rfl rfl ?_
        refine r_n (pc1 := 51) [.int (J p1), .int (J p0), rv 437] _ rfl rfl ?_
        refine r_iv rfl rfl rfl rfl rfl rfl t8 (lyk t8 rfl) rfl (xe_of (xa_r (xa_i (xa_i xa_0))) rfl rfl) (r_d0 hd rfl) (a_X14_slotOf p0 p1 (r_d1 hd rfl) rp0 rp1 w t8 (fun x9 rx9 w => ?_))
        refine r_fI (pc1 := 54) rfl ?_
        have w := w rx9
        refine r_iq rfl rfl rfl rfl rfl rfl (xe_of (xa_i xa_0) rfl rfl) (r_d0 hd rfl) (a_X14_bit x9 (r_d1 hd rfl) rx9 w t8 (fun b10 w => ?_))
        refine r_fL (pc1 := 57) rfl ?_
        refine r_lstn (pc1 := 58) (ls1 := [some (rv 437), some (.int (J p0)), some (.int (J p1)), some (.long (G b10)), none, none, none]) rfl rfl rfl rfl ?_
        refine r_aldn (pc1 := 59) rfl rfl rfl ?_
        refine r_n (pc1 := 60) [.long (G b10), rv 437] _ rfl rfl ?_
        refine r_n (pc1 := 61) [.long (G (0#64)), .long (G b10), rv 437] _ rfl rfl ?_
        refine r_iv rfl rfl rfl rfl rfl rfl t8 (lyk t8 rfl) rfl (xe_of (xa_r (xa_l (xa_l xa_0))) rfl rfl) (r_d0 hd rfl) (a_X14_canHold b10 (0#64) (r_d1 hd rfl)  w t8 (fun x11 h12 t12 u12 rx11 vx11 w => ?_))
        refine r_fI (pc1 := 64) rfl ?_
        have s12 := HX_trans s8 u12
        have w := w t12 u12
        have w := w rx11 vx11
        refine r_ist (pc1 := 66) (ls1 := [some (rv 437), some (.int (J p0)), some (.int (J p1)), some (.long (G b10)), none, some (.int (J x11)), none]) rfl rfl rfl rfl ?_
        refine r_aldn (pc1 := 67) rfl rfl rfl ?_
        refine r_n (pc1 := 68) [.long (G (0#64)), rv 437] _ rfl rfl ?_
        refine r_n (pc1 := 69) [.long (G b10), .long (G (0#64)), rv 437] _ rfl rfl ?_
        refine r_iv rfl rfl rfl rfl rfl rfl t12 (lyk t12 rfl) rfl (xe_of (xa_r (xa_l (xa_l xa_0))) rfl rfl) (r_d0 hd rfl) (a_X14_canHold (0#64) b10 (r_d1 hd rfl)  w t12 (fun x13 h14 t14 u14 rx13 vx13 w => ?_))
        refine r_fI (pc1 := 72) rfl ?_
        have s14 := HX_trans s12 u14
        have w := w t14 u14
        have w := w rx13 vx13
        refine r_ist (pc1 := 74) (ls1 := [some (rv 437), some (.int (J p0)), some (.int (J p1)), some (.long (G b10)), none, some (.int (J x11)), some (.int (J x13))]) rfl rfl rfl rfl ?_
        refine r_n (pc1 := 76) [.int (J x11)] _ rfl rfl ?_
        obtain ⟨J16, j16, w⟩ := w
        have Q16 : ∀ (x15 : Int), rg x15 → J16 x15 → RR sc goal fs 258 93 [some (rv 437), some (.int (J p0)), some (.int (J p1)), some (.long (G b10)), none, some (.int (J x11)), some (.int (J x13))] [.int (J x15)] h14 := by
          intro x15 rx15 z16
          have w := j16 x15 rx15 z16
          exact r_retI rfl rfl rfl (k _ _ t14 s14 rx15 w)
        refine r_iz (t := 83) (pc1 := 79) rfl rfl rfl rx11 (fun c18 => ?_) (fun c18 => ?_)
        · have w := w.1 c18
          refine r_n (pc1 := 85) [.int (J x13)] _ rfl rfl ?_
          refine r_iz (t := 92) (pc1 := 88) rfl rfl rfl rx13 (fun c17 => ?_) (fun c17 => ?_)
          · have w := w.1 c17
            refine r_n (pc1 := 93) [.int (J 1)] _ rfl rfl ?_
            exact Q16  1  (rgk rfl) w
          · have w := w.2 c17
            refine r_n (pc1 := 89) [.int (J 0)] _ rfl rfl ?_
            refine r_goto (t := 93) rfl rfl ?_
            exact Q16  0  (rgk rfl) w
        · have w := w.2 c18
          refine r_n (pc1 := 80) [.int (J (-1))] _ rfl rfl ?_
          refine r_goto (t := 93) rfl rfl ?_
          exact Q16  (-1)  (rgk rfl) w
      · have w := w.2 c19
        refine r_n (pc1 := 47) [.int (J (-2))] _ rfl rfl ?_
        exact r_retI rfl rfl rfl (k _ _ t8 s8 (rgk rfl) w)
    · have w := w.2 c20
      refine r_n (pc1 := 37) [.int (J 0)] _ rfl rfl ?_
      exact r_retI rfl rfl rfl (k _ _ t6 s6 (rgk rfl) w)
  obtain ⟨J21, j21, w⟩ := w
  have Q21 : J21 → RR sc goal fs 258 28 [some (rv 437), some (.int (J p0)), some (.int (J p1)), none, none, none, none] [rv 437] h1 := by
    intro z21
    have w := j21 z21
    refine r_n (pc1 := 29) [.int (J 0), rv 437] _ rfl rfl ?_
    exact Q4  0  (rgk rfl) w
  refine r_iz (t := 28) (pc1 := 14) rfl rfl rfl rx2 (fun c24 => ?_) (fun c24 => ?_)
  · have w := w.1 c24
    exact Q21     w
  · have w := w.2 c24
    refine r_aldn (pc1 := 15) rfl rfl rfl ?_
    refine r_n (pc1 := 16) [.int (J p0), rv 437, rv 437] _ rfl rfl ?_
    refine r_n (pc1 := 17) [.int (J p1), .int (J p0), rv 437, rv 437] _ rfl rfl ?_
    refine r_iv rfl rfl rfl rfl rfl rfl t1 (lyk t1 rfl) rfl (xe_of (xa_r (xa_i (xa_i xa_0))) rfl rfl) (r_d0 hd rfl) (a_X14_slotOf p0 p1 (r_d1 hd rfl) rp0 rp1 w t1 (fun x22 rx22 w => ?_))
    refine r_fI (pc1 := 20) rfl ?_
    have w := w rx22
    refine r_n (pc1 := 21) [.int (J (-1)), .int (J x22), rv 437] _ rfl rfl ?_
    refine r_ic (t := 28) (pc1 := 24) rfl rfl rfl rx22 (rgk rfl) (fun c23 => ?_) (fun c23 => ?_)
    · have w := w.1 c23
      exact Q21     w
    · have w := w.2 c23
      refine r_n (pc1 := 25) [.int (J 1), rv 437] _ rfl rfl ?_
      refine r_goto (t := 29) rfl rfl ?_
      exact Q4  1  (rgk rfl) w
def w_X3_setsToGoThrough  (K : Int → Prop) (h : XH) : Prop :=
  ((∃ (I3 : Int → Int → Prop) (m3 : Int → Int → Nat), I3 1 0 ∧ ∀ (x1 : Int) (x2 : Int), rg x1 → rg x2 → I3 x1 x2 → (∃ J4 : Prop, (J4 → (∃ J6 : Int → Prop, (∀ (x5 : Int), rg x5 → J6 x5 → (K x5)) ∧ ((x1 ≤ 5000 → (J6 x1)) ∧ (¬ (x1 ≤ 5000) → (J6 5001))))) ∧ ((hI h 9 0 ≤ x2 → J4) ∧ (¬ (hI h 9 0 ≤ x2) → (((5000 < x1 → J4) ∧ (¬ (5000 < x1) → ((0 ≤ x2 ∧ x2 < 12) ∧ ∃ J10 : Int → Prop, (∀ (x9 : Int), rg x9 → J10 x9 → (∀ x11 : Int, x11 = wr (x1 * (wr ((wr ((hI h 10 x2.toNat) + 1)) * x9))) → rg x11 → ∀ x12 : Int, x12 = wr (x2 + 1) → rg x12 → (I3 x11 x12 ∧ m3 x11 x12 < m3 x1 x2))) ∧ ((hL h 48 x2.toNat = (0#64) → (J10 1)) ∧ (¬ (hL h 48 x2.toNat = (0#64)) → (J10 2))))))))))))
set_option maxHeartbeats 4000000 in
theorem a_X3_setsToGoThrough {sc : Nat × (Nat → Int32)} {goal : XO → XH → Prop} {fs : List XF} {h : XH}  {K : Int → Prop} (hd : fs.length + 0 ≤ 1000) (w : w_X3_setsToGoThrough  K h) (t0 : HT h) (k : ∀ (r : Int), rg r → K r → XFin xP sc goal fs (.inl (some (.int (J r)))) h) : RR sc goal fs 374 0 [some (rv 44), none, none] [] h := by
  unfold w_X3_setsToGoThrough at w
  refine r_n (pc1 := 1) [.int (J 1)] _ rfl rfl ?_
  refine r_istn (pc1 := 2) (ls1 := [some (rv 44), some (.int (J 1)), none]) rfl rfl rfl rfl ?_
  refine r_n (pc1 := 3) [.int (J 0)] _ rfl rfl ?_
  refine r_istn (pc1 := 4) (ls1 := [some (rv 44), some (.int (J 1)), some (.int (J 0))]) rfl rfl rfl rfl ?_
  obtain ⟨I3, m3, w, y3⟩ := w
  have Q3 : ∀ (n : Nat)  (x1 : Int) (x2 : Int), rg x1 → rg x2 → m3 x1 x2 < n → I3 x1 x2 → RR sc goal fs 374 4 [some (rv 44), some (.int (J x1)), some (.int (J x2))] [] h := by
    intro n
    induction n with
    | zero => intro x1 x2 rx1 rx2 q3 _; exact absurd q3 (Nat.not_lt_zero _)
    | succ n ih3 =>
      intro x1 x2 rx1 rx2 q3 z3
      have w := y3 x1 x2 rx1 rx2 z3
      refine r_n (pc1 := 5) [.int (J x2)] _ rfl rfl ?_
      refine r_aldn (pc1 := 6) rfl rfl rfl ?_
      refine r_gfC (pc1 := 9) (q := 9) rfl rfl rfl t0 (lyk t0 rfl) rfl rfl (lyR t0 rfl rfl) ?_
      refine r_gfI (pc1 := 12) rfl rfl rfl t0 (lyk t0 rfl) rfl rfl ?_
      obtain ⟨J4, j4, w⟩ := w
      have Q4 : J4 → RR sc goal fs 374 59 [some (rv 44), some (.int (J x1)), some (.int (J x2))] [] h := by
        intro z4
        have w := j4 z4
        refine r_n (pc1 := 60) [.int (J x1)] _ rfl rfl ?_
        refine r_n (pc1 := 63) [.int (J 5000), .int (J x1)] _ rfl rfl ?_
        obtain ⟨J6, j6, w⟩ := w
        have Q6 : ∀ (x5 : Int), rg x5 → J6 x5 → RR sc goal fs 374 73 [some (rv 44), some (.int (J x1)), some (.int (J x2))] [.int (J x5)] h := by
          intro x5 rx5 z6
          have w := j6 x5 rx5 z6
          exact r_retI rfl rfl rfl (k _ rx5 w)
        refine r_ic (t := 72) (pc1 := 66) rfl rfl rfl rx1 (rgk rfl) (fun c7 => ?_) (fun c7 => ?_)
        · have w := w.1 c7
          refine r_n (pc1 := 73) [.int (J x1)] _ rfl rfl ?_
          exact Q6  x1  rx1 w
        · have w := w.2 c7
          refine r_n (pc1 := 69) [.int (J 5001)] _ rfl rfl ?_
          refine r_goto (t := 73) rfl rfl ?_
          exact Q6  5001  (rgk rfl) w
      refine r_ic (t := 59) (pc1 := 15) rfl rfl rfl rx2 (rgh _ _ _) (fun c15 => ?_) (fun c15 => ?_)
      · have w := w.1 c15
        exact Q4     w
      · have w := w.2 c15
        refine r_n (pc1 := 16) [.int (J x1)] _ rfl rfl ?_
        refine r_n (pc1 := 19) [.int (J 5000), .int (J x1)] _ rfl rfl ?_
        refine r_ic (t := 59) (pc1 := 22) rfl rfl rfl rx1 (rgk rfl) (fun c14 => ?_) (fun c14 => ?_)
        · have w := w.1 c14
          exact Q4     w
        · have w := w.2 c14
          refine r_n (pc1 := 23) [.int (J x1)] _ rfl rfl ?_
          refine r_aldn (pc1 := 24) rfl rfl rfl ?_
          refine r_gfC (pc1 := 27) (q := 9) rfl rfl rfl t0 (lyk t0 rfl) rfl rfl (lyR t0 rfl rfl) ?_
          refine r_gfC (pc1 := 30) (q := 10) rfl rfl rfl t0 (lyk t0 rfl) rfl rfl (lyR t0 rfl rfl) ?_
          refine r_n (pc1 := 31) [.int (J x2), rv 10, .int (J x1)] _ rfl rfl ?_
          obtain ⟨c8, w⟩ := w
          refine r_ial (pc1 := 32) rfl rfl t0 (lyk t0 rfl) rx2 c8.1 (lt_len (lyn t0 rfl) c8.2) ?_
          refine r_n (pc1 := 33) [.int (J 1), .int (J (hI h 10 x2.toNat)), .int (J x1)] _ rfl rfl ?_
          refine r_iadd (pc1 := 34) rfl rfl ?_
          refine r_aldn (pc1 := 35) rfl rfl rfl ?_
          refine r_gfC (pc1 := 38) (q := 48) rfl rfl rfl t0 (lyk t0 rfl) rfl rfl (lyR t0 rfl rfl) ?_
          refine r_n (pc1 := 39) [.int (J x2), rv 48, .int (J (wr ((hI h 10 x2.toNat) + 1))), .int (J x1)] _ rfl rfl ?_
          refine r_lal (pc1 := 40) rfl rfl t0 (lyk t0 rfl) rx2 c8.1 (lt_len (lyn t0 rfl) c8.2) ?_
          refine r_n (pc1 := 41) [.long (G (0#64)), .long (G (hL h 48 x2.toNat)), .int (J (wr ((hI h 10 x2.toNat) + 1))), .int (J x1)] _ rfl rfl ?_
          obtain ⟨J10, j10, w⟩ := w
          have Q10 : ∀ (x9 : Int), rg x9 → J10 x9 → RR sc goal fs 374 50 [some (rv 44), some (.int (J x1)), some (.int (J x2))] [.int (J x9), .int (J (wr ((hI h 10 x2.toNat) + 1))), .int (J x1)] h := by
            intro x9 rx9 z10
            have w := j10 x9 rx9 z10
            refine r_imul (pc1 := 51) rfl rfl ?_
            refine r_imul (pc1 := 52) rfl rfl ?_
            refine r_vI (rgw _) (fun x11 ex11 rx11 => ?_)
            have w := w x11 ex11 rx11
            refine r_istn (pc1 := 53) (ls1 := [some (rv 44), some (.int (J x11)), some (.int (J x2))]) rfl rfl rfl rfl ?_
            refine r_inc (pc1 := 56) (g := fun zz => [some (rv 44), some (.int (J x11)), some (.int (J zz))]) rfl rfl rfl rfl (fun _ => rfl) (fun x12 ex12 rx12 => ?_)
            have w := w x12 ex12 rx12
            refine r_goto (t := 4) rfl rfl ?_
            exact ih3  x11 x12  rx11 rx12 (Nat.lt_of_lt_of_le w.2 (Nat.le_of_lt_succ q3)) w.1
          refine r_lc (pc2 := 42) (t := 49) (pc1 := 45) rfl rfl rfl rfl rfl (fun c13 => ?_) (fun c13 => ?_)
          · have w := w.1 c13
            refine r_n (pc1 := 50) [.int (J 1), .int (J (wr ((hI h 10 x2.toNat) + 1))), .int (J x1)] _ rfl rfl ?_
            exact Q10  1  (rgk rfl) w
          · have w := w.2 c13
            refine r_n (pc1 := 46) [.int (J 2), .int (J (wr ((hI h 10 x2.toNat) + 1))), .int (J x1)] _ rfl rfl ?_
            refine r_goto (t := 50) rfl rfl ?_
            exact Q10  2  (rgk rfl) w
  exact Q3 _  1 0  (rgk rfl) (rgk rfl) (Nat.lt_succ_self _) w
def w_X3_setNumber (p0 : Int) (K : BitVec 64 → Prop) (h : XH) : Prop :=
  ((∃ (I7 : Int → BitVec 64 → Int → Prop) (m7 : Int → BitVec 64 → Int → Nat), I7 p0 (0#64) 0 ∧ ∀ (x2 : Int) (b3 : BitVec 64) (x4 : Int), rg x2 → rg x4 → I7 x2 b3 x4 → (((hI h 9 0 ≤ x4 → (K b3)) ∧ (¬ (hI h 9 0 ≤ x4) → ((0 ≤ x4 ∧ x4 < 12) ∧ ∀ x9 : Int, x9 = wr ((hI h 10 x4.toNat) + 1) → rg x9 → ¬ x9 = 0 ∧ ∀ x11 : Int, x11 = irem x2 x9 → rg x11 → ¬ x9 = 0 ∧ ∀ x13 : Int, x13 = idiv x2 x9 → rg x13 → ∃ J15 : BitVec 64 → Prop, (∀ (b14 : BitVec 64), J15 b14 → (∀ b16 : BitVec 64, b16 = b3 ||| b14 → ∃ J20 : Int → BitVec 64 → Prop, (∀ (x18 : Int) (b19 : BitVec 64), rg x18 → J20 x18 b19 → (∀ x21 : Int, x21 = wr (x4 + 1) → rg x21 → (I7 x18 b19 x21 ∧ m7 x18 b19 x21 < m7 x2 b3 x4))) ∧ ((hL h 48 x4.toNat = (0#64) → J20 x13 b16) ∧ (¬ (hL h 48 x4.toNat = (0#64)) → (∃ J23 : BitVec 64 → Prop, (∀ (b22 : BitVec 64), J23 b22 → (∀ b24 : BitVec 64, b24 = b16 ||| b22 → ∀ x25 : Int, x25 = idiv x13 2 → rg x25 → J20 x25 b24)) ∧ ((¬ irem x13 2 = 0 → (w_X12_switchOf x4 (fun b26 => J23 b26) h)) ∧ (¬ (¬ irem x13 2 = 0) → (J23 (0#64))))))))) ∧ ((¬ x11 = 0 → (w_X8_idAt x4 (wr (x11 - 1)) (fun x29 => rg x29 → (J15 (lshl (1#64) x29))) h)) ∧ (¬ (¬ x11 = 0) → (J15 (0#64))))))))))
set_option maxHeartbeats 4000000 in
theorem a_X3_setNumber {sc : Nat × (Nat → Int32)} {goal : XO → XH → Prop} {fs : List XF} {h : XH} (p0 : Int) {K : BitVec 64 → Prop} (hd : fs.length + 1 ≤ 1000) (rp0 : rg p0) (w : w_X3_setNumber p0 K h) (t0 : HT h) (k : ∀ (r : BitVec 64), K r → XFin xP sc goal fs (.inl (some (.long (G r)))) h) : RR sc goal fs 373 0 [some (rv 44), some (.int (J p0)), none, none, none, none, none, none] [] h := by
  unfold w_X3_setNumber at w
  refine r_n (pc1 := 1) [.int (J p0)] _ rfl rfl ?_
  refine r_istn (pc1 := 2) (ls1 := [some (rv 44), some (.int (J p0)), some (.int (J p0)), none, none, none, none, none]) rfl rfl rfl rfl ?_
  refine r_n (pc1 := 3) [.long (G (0#64))] _ rfl rfl ?_
  refine r_lstn (pc1 := 4) (ls1 := [some (rv 44), some (.int (J p0)), some (.int (J p0)), some (.long (G (0#64))), none, none, none, none]) rfl rfl rfl rfl ?_
  refine r_n (pc1 := 5) [.int (J 0)] _ rfl rfl ?_
  refine r_ist (pc1 := 7) (ls1 := [some (rv 44), some (.int (J p0)), some (.int (J p0)), some (.long (G (0#64))), none, some (.int (J 0)), none, none]) rfl rfl rfl rfl ?_
  obtain ⟨I7, m7, w, y7⟩ := w
  have Q7 : ∀ (n : Nat) (d1 : Option Value) (d5 : Option Value) (d6 : Option Value) (x2 : Int) (b3 : BitVec 64) (x4 : Int), rg x2 → rg x4 → m7 x2 b3 x4 < n → I7 x2 b3 x4 → RR sc goal fs 373 7 [some (rv 44), d1, some (.int (J x2)), some (.long (G b3)), none, some (.int (J x4)), d5, d6] [] h := by
    intro n
    induction n with
    | zero => intro d1 d5 d6 x2 b3 x4 rx2 rx4 q7 _; exact absurd q7 (Nat.not_lt_zero _)
    | succ n ih7 =>
      intro d1 d5 d6 x2 b3 x4 rx2 rx4 q7 z7
      have w := y7 x2 b3 x4 rx2 rx4 z7
      refine r_n (pc1 := 9) [.int (J x4)] _ rfl rfl ?_
      refine r_aldn (pc1 := 10) rfl rfl rfl ?_
      refine r_gfC (pc1 := 13) (q := 9) rfl rfl rfl t0 (lyk t0 rfl) rfl rfl (lyR t0 rfl rfl) ?_
      refine r_gfI (pc1 := 16) rfl rfl rfl t0 (lyk t0 rfl) rfl rfl ?_
      refine r_ic (t := 111) (pc1 := 19) rfl rfl rfl rx4 (rgh _ _ _) (fun c31 => ?_) (fun c31 => ?_)
      · have w := w.1 c31
        refine r_n (pc1 := 112) [.long (G b3)] _ rfl rfl ?_
        exact r_retL rfl rfl rfl (k _ w)
      · have w := w.2 c31
        refine r_aldn (pc1 := 20) rfl rfl rfl ?_
        refine r_gfC (pc1 := 23) (q := 9) rfl rfl rfl t0 (lyk t0 rfl) rfl rfl (lyR t0 rfl rfl) ?_
        refine r_gfC (pc1 := 26) (q := 10) rfl rfl rfl t0 (lyk t0 rfl) rfl rfl (lyR t0 rfl rfl) ?_
        refine r_n (pc1 := 28) [.int (J x4), rv 10] _ rfl rfl ?_
        obtain ⟨c8, w⟩ := w
        refine r_ial (pc1 := 29) rfl rfl t0 (lyk t0 rfl) rx4 c8.1 (lt_len (lyn t0 rfl) c8.2) ?_
        refine r_n (pc1 := 30) [.int (J 1), .int (J (hI h 10 x4.toNat))] _ rfl rfl ?_
        refine r_iadd (pc1 := 31) rfl rfl ?_
        refine r_vI (rgw _) (fun x9 ex9 rx9 => ?_)
        have w := w x9 ex9 rx9
        refine r_ist (pc1 := 33) (ls1 := [some (rv 44), d1, some (.int (J x2)), some (.long (G b3)), none, some (.int (J x4)), some (.int (J x9)), d6]) rfl rfl rfl rfl ?_
        refine r_n (pc1 := 34) [.int (J x2)] _ rfl rfl ?_
        refine r_n (pc1 := 36) [.int (J x9), .int (J x2)] _ rfl rfl ?_
        obtain ⟨c10, w⟩ := w
        refine r_irem (pc1 := 37) rfl rfl rx9 c10 ?_
        refine r_vI (rgt _) (fun x11 ex11 rx11 => ?_)
        have w := w x11 ex11 rx11
        refine r_ist (pc1 := 39) (ls1 := [some (rv 44), d1, some (.int (J x2)), some (.long (G b3)), none, some (.int (J x4)), some (.int (J x9)), some (.int (J x11))]) rfl rfl rfl rfl ?_
        refine r_n (pc1 := 40) [.int (J x2)] _ rfl rfl ?_
        refine r_n (pc1 := 42) [.int (J x9), .int (J x2)] _ rfl rfl ?_
        obtain ⟨c12, w⟩ := w
        refine r_idiv (pc1 := 43) rfl rfl rx9 c12 ?_
        refine r_vI (rgt _) (fun x13 ex13 rx13 => ?_)
        have w := w x13 ex13 rx13
        refine r_istn (pc1 := 44) (ls1 := [some (rv 44), (dcl d1), some (.int (J x13)), some (.long (G b3)), none, some (.int (J x4)), some (.int (J x9)), some (.int (J x11))]) rfl rfl rfl (xput1_d rfl rfl) ?_
        refine r_n (pc1 := 45) [.long (G b3)] _ rfl rfl ?_
        refine r_n (pc1 := 47) [.int (J x11), .long (G b3)] _ rfl rfl ?_
        obtain ⟨J15, j15, w⟩ := w
        have Q15 : ∀ (b14 : BitVec 64), J15 b14 → RR sc goal fs 373 69 [some (rv 44), (dcl d1), some (.int (J x13)), some (.long (G b3)), none, some (.int (J x4)), some (.int (J x9)), some (.int (J x11))] [.long (G b14), .long (G b3)] h := by
          intro b14 z15
          have w := j15 b14 z15
          refine r_lor (pc1 := 70) rfl rfl ?_
          refine r_vL (fun b16 eb16 => ?_)
          have w := w b16 eb16
          refine r_lstn (pc1 := 71) (ls1 := [some (rv 44), (dcl d1), some (.int (J x13)), some (.long (G b16)), none, some (.int (J x4)), some (.int (J x9)), some (.int (J x11))]) rfl rfl rfl rfl ?_
          refine r_aldn (pc1 := 72) rfl rfl rfl ?_
          refine r_gfC (pc1 := 75) (q := 48) rfl rfl rfl t0 (lyk t0 rfl) rfl rfl (lyR t0 rfl rfl) ?_
          refine r_n (pc1 := 77) [.int (J x4), rv 48] _ rfl rfl ?_
          refine r_lal (pc1 := 78) rfl rfl t0 (lyk t0 rfl) rx4 c8.1 (lt_len (lyn t0 rfl) c8.2) ?_
          refine r_n (pc1 := 79) [.long (G (0#64)), .long (G (hL h 48 x4.toNat))] _ rfl rfl ?_
          obtain ⟨J20, j20, w⟩ := w
          have Q20 : ∀ (d17 : Option Value) (x18 : Int) (b19 : BitVec 64), rg x18 → J20 x18 b19 → RR sc goal fs 373 105 [some (rv 44), d17, some (.int (J x18)), some (.long (G b19)), none, some (.int (J x4)), some (.int (J x9)), some (.int (J x11))] [] h := by
            intro d17 x18 b19 rx18 z20
            have w := j20 x18 b19 rx18 z20
            refine r_inc (pc1 := 108) (g := fun zz => [some (rv 44), d17, some (.int (J x18)), some (.long (G b19)), none, some (.int (J zz)), some (.int (J x9)), some (.int (J x11))]) rfl rfl rfl rfl (fun _ => rfl) (fun x21 ex21 rx21 => ?_)
            have w := w x21 ex21 rx21
            refine r_goto (t := 7) rfl rfl ?_
            exact ih7 _ _ _ x18 b19 x21  rx18 rx21 (Nat.lt_of_lt_of_le w.2 (Nat.le_of_lt_succ q7)) w.1
          refine r_lc (pc2 := 80) (t := 105) (pc1 := 83) rfl rfl rfl rfl rfl (fun c28 => ?_) (fun c28 => ?_)
          · have w := w.1 c28
            exact Q20 _ x13 b16  rx13 w
          · have w := w.2 c28
            refine r_n (pc1 := 84) [.long (G b16)] _ rfl rfl ?_
            refine r_n (pc1 := 85) [.int (J x13), .long (G b16)] _ rfl rfl ?_
            refine r_n (pc1 := 86) [.int (J 2), .int (J x13), .long (G b16)] _ rfl rfl ?_
            refine r_irem (pc1 := 87) rfl rfl (rgk rfl) (by decide) ?_
            obtain ⟨J23, j23, w⟩ := w
            have Q23 : ∀ (b22 : BitVec 64), J23 b22 → RR sc goal fs 373 99 [some (rv 44), (dcl d1), some (.int (J x13)), some (.long (G b16)), none, some (.int (J x4)), some (.int (J x9)), some (.int (J x11))] [.long (G b22), .long (G b16)] h := by
              intro b22 z23
              have w := j23 b22 z23
              refine r_lor (pc1 := 100) rfl rfl ?_
              refine r_vL (fun b24 eb24 => ?_)
              have w := w b24 eb24
              refine r_lstn (pc1 := 101) (ls1 := [some (rv 44), (dcl d1), some (.int (J x13)), some (.long (G b24)), none, some (.int (J x4)), some (.int (J x9)), some (.int (J x11))]) rfl rfl rfl rfl ?_
              refine r_n (pc1 := 102) [.int (J x13)] _ rfl rfl ?_
              refine r_n (pc1 := 103) [.int (J 2), .int (J x13)] _ rfl rfl ?_
              refine r_idiv (pc1 := 104) rfl rfl (rgk rfl) (by decide) ?_
              refine r_vI (rgt _) (fun x25 ex25 rx25 => ?_)
              have w := w x25 ex25 rx25
              refine r_istn (pc1 := 105) (ls1 := [some (rv 44), (dcl (dcl d1)), some (.int (J x25)), some (.long (G b24)), none, some (.int (J x4)), some (.int (J x9)), some (.int (J x11))]) rfl rfl rfl (xput1_d rfl rfl) ?_
              exact Q20 _ x25 b24  rx25 w
            refine r_iz (t := 94) (pc1 := 90) rfl rfl rfl (rgt _) (fun c27 => ?_) (fun c27 => ?_)
            · have w := w.1 c27
              refine r_n (pc1 := 96) [.int (J x4), .long (G b16)] _ rfl rfl ?_
              refine r_iq rfl rfl rfl rfl rfl rfl (xe_of (xa_i xa_0) rfl rfl) (r_d0 hd rfl) (a_X12_switchOf x4 (r_d1 hd rfl) rx4 w t0 (fun b26 w => ?_))
              refine r_fL (pc1 := 99) rfl ?_
              exact Q23  b26   w
            · have w := w.2 c27
              refine r_n (pc1 := 91) [.long (G (0#64)), .long (G b16)] _ rfl rfl ?_
              refine r_goto (t := 99) rfl rfl ?_
              exact Q23  (0#64)   w
        refine r_iz (t := 54) (pc1 := 50) rfl rfl rfl rx11 (fun c30 => ?_) (fun c30 => ?_)
        · have w := w.1 c30
          refine r_n (pc1 := 55) [.long (G (1#64)), .long (G b3)] _ rfl rfl ?_
          refine r_aldn (pc1 := 56) rfl rfl rfl ?_
          refine r_gfC (pc1 := 59) (q := 9) rfl rfl rfl t0 (lyk t0 rfl) rfl rfl (lyR t0 rfl rfl) ?_
          refine r_n (pc1 := 61) [.int (J x4), rv 9, .long (G (1#64)), .long (G b3)] _ rfl rfl ?_
          refine r_n (pc1 := 63) [.int (J x11), .int (J x4), rv 9, .long (G (1#64)), .long (G b3)] _ rfl rfl ?_
          refine r_n (pc1 := 64) [.int (J 1), .int (J x11), .int (J x4), rv 9, .long (G (1#64)), .long (G b3)] _ rfl rfl ?_
          refine r_isub (pc1 := 65) rfl rfl ?_
          refine r_iv rfl rfl rfl rfl rfl rfl t0 (lyk t0 rfl) rfl (xe_of (xa_r (xa_i (xa_i xa_0))) rfl rfl) (r_d0 hd rfl) (a_X8_idAt x4 (wr (x11 - 1)) (r_d1 hd rfl) rx4 (rgw _) w t0 (fun x29 rx29 w => ?_))
          refine r_fI (pc1 := 68) rfl ?_
          have w := w rx29
          refine r_lshl (pc1 := 69) rfl rfl ?_
          exact Q15  (lshl (1#64) x29)   w
        · have w := w.2 c30
          refine r_n (pc1 := 51) [.long (G (0#64)), .long (G b3)] _ rfl rfl ?_
          refine r_goto (t := 69) rfl rfl ?_
          exact Q15  (0#64)   w
  exact Q7 _ _ _ _ p0 (0#64) 0  rp0 (rgk rfl) (Nat.lt_succ_self _) w
def w_X3_isFitting (p0 : BitVec 64) (K : Int → Prop) (h : XH) : Prop :=
  (w_X11_atHand (fun a1 => ((∃ (I3 : Int → Prop) (m3 : Int → Nat), I3 0 ∧ ∀ (x2 : Int), rg x2 → I3 x2 → (hk h a1 = 7 ∧ ((hI h a1 0 ≤ x2 → ((∃ (I7 : Int → Prop) (m7 : Int → Nat), I7 0 ∧ ∀ (x5 : Int), rg x5 → I7 x5 → (((hI h 9 0 ≤ x5 → (w_X3_isSoundSet p0 (fun x8 => rg x8 → (x8 = 0 ∨ x8 = 1) → (K x8)) h)) ∧ (¬ (hI h 9 0 ≤ x5) → (∃ J10 : Int → Prop, (∀ (x9 : Int), rg x9 → J10 x9 → ((0 ≤ x5 ∧ x5 < 12) ∧ ∃ J12 : Prop, (J12 → (K 0)) ∧ ((¬ p0 &&& (hL h 50 x5.toNat) = (0#64) → J12) ∧ (¬ (¬ p0 &&& (hL h 50 x5.toNat) = (0#64)) → (∃ J13 : Prop, (J13 → (∀ x14 : Int, x14 = wr (x5 + 1) → rg x14 → (I7 x14 ∧ m7 x14 < m7 x5))) ∧ ((x9 = 0 → J13) ∧ (¬ (x9 = 0) → ((((p0 ^^^ (hL h a1 6)) &&& (hL h 11 x5.toNat) = (0#64) → J13) ∧ (¬ ((p0 ^^^ (hL h a1 6)) &&& (hL h 11 x5.toNat) = (0#64)) → J12)))))))))) ∧ ((iand (ishr (hI h a1 2) x5) 1 = 0 → (J10 0)) ∧ (¬ (iand (ishr (hI h a1 2) x5) 1 = 0) → (J10 1)))))))))) ∧ (¬ (hI h a1 0 ≤ x2) → ((0 ≤ x2 ∧ x2 < 8) ∧ ∃ J21 : Prop, (J21 → (∀ x22 : Int, x22 = wr (x2 + 1) → rg x22 → (I3 x22 ∧ m3 x22 < m3 x2))) ∧ ((hR h (a1 + 1) x2.toNat = 0 → J21) ∧ (¬ (hR h (a1 + 1) x2.toNat = 0) → (w_X3_isMet (hR h (a1 + 1) x2.toNat) (hL h 49 x2.toNat) p0 (fun x23 => rg x23 → (x23 = 0 ∨ x23 = 1) → (((¬ x23 = 0 → J21) ∧ (¬ (¬ x23 = 0) → (K 0))))) h)))))))))) h)
set_option maxHeartbeats 4000000 in
theorem a_X3_isFitting {sc : Nat × (Nat → Int32)} {goal : XO → XH → Prop} {fs : List XF} {h : XH} (p0 : BitVec 64) {K : Int → Prop} (hd : fs.length + 4 ≤ 1000) (w : w_X3_isFitting p0 K h) (t0 : HT h) (k : ∀ (r : Int), rg r → (r = 0 ∨ r = 1) → K r → XFin xP sc goal fs (.inl (some (.int (J r)))) h) : RR sc goal fs 366 0 [some (rv 44), some (.long (G p0)), none, none, none, none] [] h := by
  unfold w_X3_isFitting at w
  refine r_aldn (pc1 := 1) rfl rfl rfl ?_
  refine r_gfC (pc1 := 4) (q := 8) rfl rfl rfl t0 (lyk t0 rfl) rfl rfl (lyR t0 rfl rfl) ?_
  refine r_iv rfl rfl rfl rfl rfl rfl t0 (lyk t0 rfl) rfl (xe_of (xa_r xa_0) rfl rfl) (r_d0 hd rfl) (a_X11_atHand  (r_d1 hd rfl)  w t0 (fun a1 w => ?_))
  refine r_fR (pc1 := 7) rfl ?_
  refine r_astn (pc1 := 8) (ls1 := [some (rv 44), some (.long (G p0)), none, some (rv a1), none, none]) rfl rfl rfl rfl ?_
  refine r_n (pc1 := 9) [.int (J 0)] _ rfl rfl ?_
  refine r_ist (pc1 := 11) (ls1 := [some (rv 44), some (.long (G p0)), none, some (rv a1), some (.int (J 0)), none]) rfl rfl rfl (xput1_rv rfl rfl) ?_
  obtain ⟨I3, m3, w, y3⟩ := w
  have Q3 : ∀ (n : Nat)  (x2 : Int), rg x2 → m3 x2 < n → I3 x2 → RR sc goal fs 366 11 [some (rv 44), some (.long (G p0)), none, some (rv a1), some (.int (J x2)), none] [] h := by
    intro n
    induction n with
    | zero => intro x2 rx2 q3 _; exact absurd q3 (Nat.not_lt_zero _)
    | succ n ih3 =>
      intro x2 rx2 q3 z3
      have w := y3 x2 rx2 z3
      refine r_n (pc1 := 13) [.int (J x2)] _ rfl rfl ?_
      refine r_aldn (pc1 := 14) rfl rfl rfl ?_
      obtain ⟨c4, w⟩ := w
      refine r_gfI (pc1 := 17) rfl rfl rfl t0 c4 rfl rfl ?_
      refine r_ic (t := 59) (pc1 := 20) rfl rfl rfl rx2 (rgh _ _ _) (fun c26 => ?_) (fun c26 => ?_)
      · have w := w.1 c26
        refine r_n (pc1 := 60) [.int (J 0)] _ rfl rfl ?_
        refine r_ist (pc1 := 62) (ls1 := [some (rv 44), some (.long (G p0)), none, some (rv a1), some (.int (J 0)), none]) rfl rfl rfl (xput1_rv rfl rfl) ?_
        obtain ⟨I7, m7, w, y7⟩ := w
        have Q7 : ∀ (n : Nat) (d6 : Option Value) (x5 : Int), rg x5 → m7 x5 < n → I7 x5 → RR sc goal fs 366 62 [some (rv 44), some (.long (G p0)), none, some (rv a1), some (.int (J x5)), d6] [] h := by
          intro n
          induction n with
          | zero => intro d6 x5 rx5 q7 _; exact absurd q7 (Nat.not_lt_zero _)
          | succ n ih7 =>
            intro d6 x5 rx5 q7 z7
            have w := y7 x5 rx5 z7
            refine r_n (pc1 := 64) [.int (J x5)] _ rfl rfl ?_
            refine r_aldn (pc1 := 65) rfl rfl rfl ?_
            refine r_gfC (pc1 := 68) (q := 9) rfl rfl rfl t0 (lyk t0 rfl) rfl rfl (lyR t0 rfl rfl) ?_
            refine r_gfI (pc1 := 71) rfl rfl rfl t0 (lyk t0 rfl) rfl rfl ?_
            refine r_ic (t := 142) (pc1 := 74) rfl rfl rfl rx5 (rgh _ _ _) (fun c19 => ?_) (fun c19 => ?_)
            · have w := w.1 c19
              refine r_aldn (pc1 := 143) rfl rfl rfl ?_
              refine r_n (pc1 := 144) [.long (G p0), rv 44] _ rfl rfl ?_
              refine r_iv rfl rfl rfl rfl rfl rfl t0 (lyk t0 rfl) rfl (xe_of (xa_r (xa_l xa_0)) rfl rfl) (r_d0 hd rfl) (a_X3_isSoundSet p0 (r_d1 hd rfl)  w t0 (fun x8 rx8 vx8 w => ?_))
              refine r_fI (pc1 := 147) rfl ?_
              have w := w rx8 vx8
              exact r_retB rfl rfl rfl vx8 (k _ rx8 vx8 w)
            · have w := w.2 c19
              refine r_aldn (pc1 := 75) rfl rfl rfl ?_
              refine r_gfI (pc1 := 78) rfl rfl rfl t0 c4 rfl rfl ?_
              refine r_n (pc1 := 80) [.int (J x5), .int (J (hI h a1 2))] _ rfl rfl ?_
              refine r_ishr (pc1 := 81) rfl rfl ?_
              refine r_n (pc1 := 82) [.int (J 1), .int (J (ishr (hI h a1 2) x5))] _ rfl rfl ?_
              refine r_iand (pc1 := 83) rfl rfl ?_
              obtain ⟨J10, j10, w⟩ := w
              have Q10 : ∀ (x9 : Int), rg x9 → J10 x9 → RR sc goal fs 366 91 [some (rv 44), some (.long (G p0)), none, some (rv a1), some (.int (J x5)), d6] [.int (J x9)] h := by
                intro x9 rx9 z10
                have w := j10 x9 rx9 z10
                refine r_ist (pc1 := 93) (ls1 := [some (rv 44), some (.long (G p0)), none, some (rv a1), some (.int (J x5)), some (.int (J x9))]) rfl rfl rfl rfl ?_
                refine r_n (pc1 := 94) [.long (G p0)] _ rfl rfl ?_
                refine r_aldn (pc1 := 95) rfl rfl rfl ?_
                refine r_gfC (pc1 := 98) (q := 50) rfl rfl rfl t0 (lyk t0 rfl) rfl rfl (lyR t0 rfl rfl) ?_
                refine r_n (pc1 := 100) [.int (J x5), rv 50, .long (G p0)] _ rfl rfl ?_
                obtain ⟨c11, w⟩ := w
                refine r_lal (pc1 := 101) rfl rfl t0 (lyk t0 rfl) rx5 c11.1 (lt_len (lyn t0 rfl) c11.2) ?_
                refine r_land (pc1 := 102) rfl rfl ?_
                refine r_n (pc1 := 103) [.long (G (0#64)), .long (G (p0 &&& (hL h 50 x5.toNat)))] _ rfl rfl ?_
                obtain ⟨J12, j12, w⟩ := w
                have Q12 : J12 → RR sc goal fs 366 134 [some (rv 44), some (.long (G p0)), none, some (rv a1), some (.int (J x5)), some (.int (J x9))] [] h := by
                  intro z12
                  have w := j12 z12
                  refine r_n (pc1 := 135) [.int (J 0)] _ rfl rfl ?_
                  exact r_retB rfl rfl rfl (.inl rfl) (k _ (rgk rfl) (.inl rfl) w)
                refine r_lc (pc2 := 104) (t := 134) (pc1 := 107) rfl rfl rfl rfl rfl (fun c17 => ?_) (fun c17 => ?_)
                · have w := w.1 c17
                  exact Q12     w
                · have w := w.2 c17
                  refine r_n (pc1 := 109) [.int (J x9)] _ rfl rfl ?_
                  obtain ⟨J13, j13, w⟩ := w
                  have Q13 : J13 → RR sc goal fs 366 136 [some (rv 44), some (.long (G p0)), none, some (rv a1), some (.int (J x5)), some (.int (J x9))] [] h := by
                    intro z13
                    have w := j13 z13
                    refine r_inc (pc1 := 139) (g := fun zz => [some (rv 44), some (.long (G p0)), none, some (rv a1), some (.int (J zz)), some (.int (J x9))]) rfl rfl rfl rfl (fun _ => xput1_rv rfl rfl) (fun x14 ex14 rx14 => ?_)
                    have w := w x14 ex14 rx14
                    refine r_goto (t := 62) rfl rfl ?_
                    exact ih7 _ x14  rx14 (Nat.lt_of_lt_of_le w.2 (Nat.le_of_lt_succ q7)) w.1
                  refine r_iz (t := 136) (pc1 := 112) rfl rfl rfl rx9 (fun c16 => ?_) (fun c16 => ?_)
                  · have w := w.1 c16
                    exact Q13     w
                  · have w := w.2 c16
                    refine r_n (pc1 := 113) [.long (G p0)] _ rfl rfl ?_
                    refine r_aldn (pc1 := 114) rfl rfl rfl ?_
                    refine r_gfL (pc1 := 117) rfl rfl rfl t0 c4 rfl rfl ?_
                    refine r_lxor (pc1 := 118) rfl rfl ?_
                    refine r_aldn (pc1 := 119) rfl rfl rfl ?_
                    refine r_gfC (pc1 := 122) (q := 9) rfl rfl rfl t0 (lyk t0 rfl) rfl rfl (lyR t0 rfl rfl) ?_
                    refine r_gfC (pc1 := 125) (q := 11) rfl rfl rfl t0 (lyk t0 rfl) rfl rfl (lyR t0 rfl rfl) ?_
                    refine r_n (pc1 := 127) [.int (J x5), rv 11, .long (G (p0 ^^^ (hL h a1 6)))] _ rfl rfl ?_
                    refine r_lal (pc1 := 128) rfl rfl t0 (lyk t0 rfl) rx5 c11.1 (lt_len (lyn t0 rfl) c11.2) ?_
                    refine r_land (pc1 := 129) rfl rfl ?_
                    refine r_n (pc1 := 130) [.long (G (0#64)), .long (G ((p0 ^^^ (hL h a1 6)) &&& (hL h 11 x5.toNat)))] _ rfl rfl ?_
                    refine r_lc (pc2 := 131) (t := 136) (pc1 := 134) rfl rfl rfl rfl rfl (fun c15 => ?_) (fun c15 => ?_)
                    · have w := w.1 c15
                      exact Q13     w
                    · have w := w.2 c15
                      exact Q12     w
              refine r_iz (t := 90) (pc1 := 86) rfl rfl rfl (rgt _) (fun c18 => ?_) (fun c18 => ?_)
              · have w := w.1 c18
                refine r_n (pc1 := 91) [.int (J 0)] _ rfl rfl ?_
                exact Q10  0  (rgk rfl) w
              · have w := w.2 c18
                refine r_n (pc1 := 87) [.int (J 1)] _ rfl rfl ?_
                refine r_goto (t := 91) rfl rfl ?_
                exact Q10  1  (rgk rfl) w
        exact Q7 _ _ 0  (rgk rfl) (Nat.lt_succ_self _) w
      · have w := w.2 c26
        refine r_aldn (pc1 := 21) rfl rfl rfl ?_
        refine r_gfC (pc1 := 24) (q := (a1 + 1)) rfl rfl rfl t0 c4 rfl rfl (lyr_7_1 t0 c4) ?_
        refine r_n (pc1 := 26) [.int (J x2), rv (a1 + 1)] _ rfl rfl ?_
        obtain ⟨c20, w⟩ := w
        refine r_aal (pc1 := 27) (u := 3) rfl rfl t0 (lyo_7_1 t0 c4).1 rfl rfl rx2 c20.1 (lt_len (lyo_7_1 t0 c4).2 c20.2) ?_
        obtain ⟨J21, j21, w⟩ := w
        have Q21 : J21 → RR sc goal fs 366 53 [some (rv 44), some (.long (G p0)), none, some (rv a1), some (.int (J x2)), none] [] h := by
          intro z21
          have w := j21 z21
          refine r_inc (pc1 := 56) (g := fun zz => [some (rv 44), some (.long (G p0)), none, some (rv a1), some (.int (J zz)), none]) rfl rfl rfl rfl (fun _ => xput1_rv rfl rfl) (fun x22 ex22 rx22 => ?_)
          have w := w x22 ex22 rx22
          refine r_goto (t := 11) rfl rfl ?_
          exact ih3  x22  rx22 (Nat.lt_of_lt_of_le w.2 (Nat.le_of_lt_succ q3)) w.1
        refine r_null (t := 53) (pc1 := 30) rfl rfl rfl (fun c25 => ?_) (fun c25 => ?_)
        · have w := w.1 c25
          exact Q21     w
        · have w := w.2 c25
          refine r_aldn (pc1 := 31) rfl rfl rfl ?_
          refine r_gfC (pc1 := 34) (q := (a1 + 1)) rfl rfl rfl t0 c4 rfl rfl (lyr_7_1 t0 c4) ?_
          refine r_n (pc1 := 36) [.int (J x2), rv (a1 + 1)] _ rfl rfl ?_
          refine r_aal (pc1 := 37) (u := 3) rfl rfl t0 (lyo_7_1 t0 c4).1 rfl rfl rx2 c20.1 (lt_len (lyo_7_1 t0 c4).2 c20.2) ?_
          refine r_aldn (pc1 := 38) rfl rfl rfl ?_
          refine r_gfC (pc1 := 41) (q := 49) rfl rfl rfl t0 (lyk t0 rfl) rfl rfl (lyR t0 rfl rfl) ?_
          refine r_n (pc1 := 43) [.int (J x2), rv 49, rv (hR h (a1 + 1) x2.toNat)] _ rfl rfl ?_
          refine r_lal (pc1 := 44) rfl rfl t0 (lyk t0 rfl) rx2 c20.1 (lt_len (lyn t0 rfl) c20.2) ?_
          refine r_n (pc1 := 45) [.long (G p0), .long (G (hL h 49 x2.toNat)), rv (hR h (a1 + 1) x2.toNat)] _ rfl rfl ?_
          refine r_iq rfl rfl rfl rfl rfl rfl (xe_of (xa_r (xa_l (xa_l xa_0))) rfl rfl) (r_d0 hd rfl) (a_X3_isMet (hR h (a1 + 1) x2.toNat) (hL h 49 x2.toNat) p0 (r_d1 hd rfl)  w t0 (fun x23 rx23 vx23 w => ?_))
          refine r_fI (pc1 := 48) rfl ?_
          have w := w rx23 vx23
          refine r_iz (t := 53) (pc1 := 51) rfl rfl rfl rx23 (fun c24 => ?_) (fun c24 => ?_)
          · have w := w.1 c24
            exact Q21     w
          · have w := w.2 c24
            refine r_n (pc1 := 52) [.int (J 0)] _ rfl rfl ?_
            exact r_retB rfl rfl rfl (.inl rfl) (k _ (rgk rfl) (.inl rfl) w)
  exact Q3 _  0  (rgk rfl) (Nat.lt_succ_self _) w
def w_X12_fitting  (K : Int → XH → Prop) (h : XH) : Prop :=
  (w_X12_knowMet (fun h1 => HT h1 → HX h h1 → (w_X3_setsToGoThrough (fun x2 => rg x2 → (((x2 ≤ 5000 → ((∃ (I5 : Int → Int → Prop) (m5 : Int → Int → Nat), I5 0 0 ∧ ∀ (x3 : Int) (x4 : Int), rg x3 → rg x4 → I5 x3 x4 → (((x2 ≤ x4 → (K x3 h1)) ∧ (¬ (x2 ≤ x4) → (w_X3_setNumber x4 (fun b6 => (w_X3_isFitting b6 (fun x7 => rg x7 → (x7 = 0 ∨ x7 = 1) → (∃ J9 : Int → Prop, (∀ (x8 : Int), rg x8 → J9 x8 → (∀ x10 : Int, x10 = wr (x3 + x8) → rg x10 → ∀ x11 : Int, x11 = wr (x4 + 1) → rg x11 → (I5 x10 x11 ∧ m5 x10 x11 < m5 x3 x4))) ∧ ((x7 = 0 → (J9 0)) ∧ (¬ (x7 = 0) → (J9 1))))) h1)) h1))))))) ∧ (¬ (x2 ≤ 5000) → (K (-1) h1))))) h1)) h)
set_option maxHeartbeats 4000000 in
theorem a_X12_fitting {sc : Nat × (Nat → Int32)} {goal : XO → XH → Prop} {fs : List XF} {h : XH}  {K : Int → XH → Prop} (hd : fs.length + 6 ≤ 1000) (w : w_X12_fitting  K h) (t0 : HT h) (k : ∀ (r : Int) (h1 : XH), HT h1 → HX h h1 → rg r → K r h1 → XFin xP sc goal fs (.inl (some (.int (J r)))) h1) : RR sc goal fs 109 0 [some (rv 2), none, none, none] [] h := by
  unfold w_X12_fitting at w
  refine r_aldn (pc1 := 1) rfl rfl rfl ?_
  refine r_iv rfl rfl rfl rfl rfl rfl t0 (lyk t0 rfl) rfl (xe_of (xa_r xa_0) rfl rfl) (r_d0 hd rfl) (a_X12_knowMet  (r_d1 hd rfl)  w t0 (fun h1 t1 u1 w => ?_))
  refine r_fV (pc1 := 4) rfl ?_
  have s1 := HX_trans (HX_refl h) u1
  have w := w t1 u1
  refine r_aldn (pc1 := 5) rfl rfl rfl ?_
  refine r_gfC (pc1 := 8) (q := 44) rfl rfl rfl t1 (lyk t1 rfl) rfl rfl (lyR t1 rfl rfl) ?_
  refine r_iv rfl rfl rfl rfl rfl rfl t1 (lyk t1 rfl) rfl (xe_of (xa_r xa_0) rfl rfl) (r_d0 hd rfl) (a_X3_setsToGoThrough  (r_d1 hd rfl)  w t1 (fun x2 rx2 w => ?_))
  refine r_fI (pc1 := 11) rfl ?_
  have w := w rx2
  refine r_istn (pc1 := 12) (ls1 := [some (rv 2), some (.int (J x2)), none, none]) rfl rfl rfl rfl ?_
  refine r_n (pc1 := 13) [.int (J x2)] _ rfl rfl ?_
  refine r_n (pc1 := 16) [.int (J 5000), .int (J x2)] _ rfl rfl ?_
  refine r_ic (t := 21) (pc1 := 19) rfl rfl rfl rx2 (rgk rfl) (fun c14 => ?_) (fun c14 => ?_)
  · have w := w.1 c14
    refine r_n (pc1 := 22) [.int (J 0)] _ rfl rfl ?_
    refine r_istn (pc1 := 23) (ls1 := [some (rv 2), some (.int (J x2)), some (.int (J 0)), none]) rfl rfl rfl rfl ?_
    refine r_n (pc1 := 24) [.int (J 0)] _ rfl rfl ?_
    refine r_istn (pc1 := 25) (ls1 := [some (rv 2), some (.int (J x2)), some (.int (J 0)), some (.int (J 0))]) rfl rfl rfl rfl ?_
    obtain ⟨I5, m5, w, y5⟩ := w
    have Q5 : ∀ (n : Nat)  (x3 : Int) (x4 : Int), rg x3 → rg x4 → m5 x3 x4 < n → I5 x3 x4 → RR sc goal fs 109 25 [some (rv 2), some (.int (J x2)), some (.int (J x3)), some (.int (J x4))] [] h1 := by
      intro n
      induction n with
      | zero => intro x3 x4 rx3 rx4 q5 _; exact absurd q5 (Nat.not_lt_zero _)
      | succ n ih5 =>
        intro x3 x4 rx3 rx4 q5 z5
        have w := y5 x3 x4 rx3 rx4 z5
        refine r_n (pc1 := 26) [.int (J x4)] _ rfl rfl ?_
        refine r_n (pc1 := 27) [.int (J x2), .int (J x4)] _ rfl rfl ?_
        refine r_ic (t := 62) (pc1 := 30) rfl rfl rfl rx4 rx2 (fun c13 => ?_) (fun c13 => ?_)
        · have w := w.1 c13
          refine r_n (pc1 := 63) [.int (J x3)] _ rfl rfl ?_
          exact r_retI rfl rfl rfl (k _ _ t1 s1 rx3 w)
        · have w := w.2 c13
          refine r_n (pc1 := 31) [.int (J x3)] _ rfl rfl ?_
          refine r_aldn (pc1 := 32) rfl rfl rfl ?_
          refine r_gfC (pc1 := 35) (q := 44) rfl rfl rfl t1 (lyk t1 rfl) rfl rfl (lyR t1 rfl rfl) ?_
          refine r_aldn (pc1 := 36) rfl rfl rfl ?_
          refine r_gfC (pc1 := 39) (q := 44) rfl rfl rfl t1 (lyk t1 rfl) rfl rfl (lyR t1 rfl rfl) ?_
          refine r_n (pc1 := 40) [.int (J x4), rv 44, rv 44, .int (J x3)] _ rfl rfl ?_
          refine r_iv rfl rfl rfl rfl rfl rfl t1 (lyk t1 rfl) rfl (xe_of (xa_r (xa_i xa_0)) rfl rfl) (r_d0 hd rfl) (a_X3_setNumber x4 (r_d1 hd rfl) rx4 w t1 (fun b6 w => ?_))
          refine r_fL (pc1 := 43) rfl ?_
          refine r_iv rfl rfl rfl rfl rfl rfl t1 (lyk t1 rfl) rfl (xe_of (xa_r (xa_l xa_0)) rfl rfl) (r_d0 hd rfl) (a_X3_isFitting b6 (r_d1 hd rfl)  w t1 (fun x7 rx7 vx7 w => ?_))
          refine r_fI (pc1 := 46) rfl ?_
          have w := w rx7 vx7
          obtain ⟨J9, j9, w⟩ := w
          have Q9 : ∀ (x8 : Int), rg x8 → J9 x8 → RR sc goal fs 109 54 [some (rv 2), some (.int (J x2)), some (.int (J x3)), some (.int (J x4))] [.int (J x8), .int (J x3)] h1 := by
            intro x8 rx8 z9
            have w := j9 x8 rx8 z9
            refine r_iadd (pc1 := 55) rfl rfl ?_
            refine r_vI (rgw _) (fun x10 ex10 rx10 => ?_)
            have w := w x10 ex10 rx10
            refine r_istn (pc1 := 56) (ls1 := [some (rv 2), some (.int (J x2)), some (.int (J x10)), some (.int (J x4))]) rfl rfl rfl rfl ?_
            refine r_inc (pc1 := 59) (g := fun zz => [some (rv 2), some (.int (J x2)), some (.int (J x10)), some (.int (J zz))]) rfl rfl rfl rfl (fun _ => rfl) (fun x11 ex11 rx11 => ?_)
            have w := w x11 ex11 rx11
            refine r_goto (t := 25) rfl rfl ?_
            exact ih5  x10 x11  rx10 rx11 (Nat.lt_of_lt_of_le w.2 (Nat.le_of_lt_succ q5)) w.1
          refine r_iz (t := 53) (pc1 := 49) rfl rfl rfl rx7 (fun c12 => ?_) (fun c12 => ?_)
          · have w := w.1 c12
            refine r_n (pc1 := 54) [.int (J 0), .int (J x3)] _ rfl rfl ?_
            exact Q9  0  (rgk rfl) w
          · have w := w.2 c12
            refine r_n (pc1 := 50) [.int (J 1), .int (J x3)] _ rfl rfl ?_
            refine r_goto (t := 54) rfl rfl ?_
            exact Q9  1  (rgk rfl) w
    exact Q5 _  0 0  (rgk rfl) (rgk rfl) (Nat.lt_succ_self _) w
  · have w := w.2 c14
    refine r_n (pc1 := 20) [.int (J (-1))] _ rfl rfl ?_
    exact r_retI rfl rfl rfl (k _ _ t1 s1 (rgk rfl) w)
def w_X14_hasOption (p0 : Int) (K : Int → Prop) (h : XH) : Prop :=
  ((∃ (I3 : Int → Int → Prop) (m3 : Int → Int → Nat), I3 0 0 ∧ ∀ (x1 : Int) (x2 : Int), rg x1 → rg x2 → I3 x1 x2 → (((hI h 438 4 ≤ x2 → ((x1 = 0 ∨ x1 = 1) ∧ K x1)) ∧ (¬ (hI h 438 4 ≤ x2) → (∃ J6 : Int → Prop, (∀ (x5 : Int), rg x5 → J6 x5 → (∀ x7 : Int, x7 = wr (x2 + 1) → rg x7 → (I3 x5 x7 ∧ m3 x5 x7 < m3 x1 x2))) ∧ ∃ J8 : Prop, (J8 → (J6 1)) ∧ ((¬ x1 = 0 → J8) ∧ (¬ (¬ x1 = 0) → (w_X14_ver x2 0 (fun x9 => rg x9 → (∃ J10 : Prop, (J10 → (J6 0)) ∧ ((¬ x9 = p0 → J10) ∧ (¬ (¬ x9 = p0) → (w_X14_ver x2 6 (fun x11 => rg x11 → (((x11 ≤ 0 → J10) ∧ (¬ (x11 ≤ 0) → J8)))) h))))) h)))))))))
set_option maxHeartbeats 4000000 in
theorem a_X14_hasOption {sc : Nat × (Nat → Int32)} {goal : XO → XH → Prop} {fs : List XF} {h : XH} (p0 : Int) {K : Int → Prop} (hd : fs.length + 1 ≤ 1000) (rp0 : rg p0) (w : w_X14_hasOption p0 K h) (t0 : HT h) (k : ∀ (r : Int), rg r → (r = 0 ∨ r = 1) → K r → XFin xP sc goal fs (.inl (some (.int (J r)))) h) : RR sc goal fs 215 0 [some (rv 437), some (.int (J p0)), none, none] [] h := by
  unfold w_X14_hasOption at w
  refine r_n (pc1 := 1) [.int (J 0)] _ rfl rfl ?_
  refine r_istn (pc1 := 2) (ls1 := [some (rv 437), some (.int (J p0)), some (.int (J 0)), none]) rfl rfl rfl rfl ?_
  refine r_n (pc1 := 3) [.int (J 0)] _ rfl rfl ?_
  refine r_istn (pc1 := 4) (ls1 := [some (rv 437), some (.int (J p0)), some (.int (J 0)), some (.int (J 0))]) rfl rfl rfl rfl ?_
  obtain ⟨I3, m3, w, y3⟩ := w
  have Q3 : ∀ (n : Nat)  (x1 : Int) (x2 : Int), rg x1 → rg x2 → m3 x1 x2 < n → I3 x1 x2 → RR sc goal fs 215 4 [some (rv 437), some (.int (J p0)), some (.int (J x1)), some (.int (J x2))] [] h := by
    intro n
    induction n with
    | zero => intro x1 x2 rx1 rx2 q3 _; exact absurd q3 (Nat.not_lt_zero _)
    | succ n ih3 =>
      intro x1 x2 rx1 rx2 q3 z3
      have w := y3 x1 x2 rx1 rx2 z3
      refine r_n (pc1 := 5) [.int (J x2)] _ rfl rfl ?_
      refine r_aldn (pc1 := 6) rfl rfl rfl ?_
      refine r_gfC (pc1 := 9) (q := 438) rfl rfl rfl t0 (lyk t0 rfl) rfl rfl (lyR t0 rfl rfl) ?_
      refine r_n (pc1 := 10) [.int (J 4), rv 438, .int (J x2)] _ rfl rfl ?_
      refine r_ial (pc1 := 11) rfl rfl t0 (lyk t0 rfl) (rgk rfl) (by decide) (lt_len (lyn t0 rfl) (by decide)) ?_
      refine r_ic (t := 50) (pc1 := 14) rfl rfl rfl rx2 (rgh _ _ _) (fun c15 => ?_) (fun c15 => ?_)
      · have w := w.1 c15
        refine r_n (pc1 := 51) [.int (J x1)] _ rfl rfl ?_
        obtain ⟨c4, w⟩ := w
        exact r_retB rfl rfl rfl c4 (k _ rx1 c4 w)
      · have w := w.2 c15
        refine r_n (pc1 := 15) [.int (J x1)] _ rfl rfl ?_
        obtain ⟨J6, j6, w⟩ := w
        have Q6 : ∀ (x5 : Int), rg x5 → J6 x5 → RR sc goal fs 215 43 [some (rv 437), some (.int (J p0)), some (.int (J x1)), some (.int (J x2))] [.int (J x5)] h := by
          intro x5 rx5 z6
          have w := j6 x5 rx5 z6
          refine r_istn (pc1 := 44) (ls1 := [some (rv 437), some (.int (J p0)), some (.int (J x5)), some (.int (J x2))]) rfl rfl rfl rfl ?_
          refine r_inc (pc1 := 47) (g := fun zz => [some (rv 437), some (.int (J p0)), some (.int (J x5)), some (.int (J zz))]) rfl rfl rfl rfl (fun _ => rfl) (fun x7 ex7 rx7 => ?_)
          have w := w x7 ex7 rx7
          refine r_goto (t := 4) rfl rfl ?_
          exact ih3  x5 x7  rx5 rx7 (Nat.lt_of_lt_of_le w.2 (Nat.le_of_lt_succ q3)) w.1
        obtain ⟨J8, j8, w⟩ := w
        have Q8 : J8 → RR sc goal fs 215 38 [some (rv 437), some (.int (J p0)), some (.int (J x1)), some (.int (J x2))] [] h := by
          intro z8
          have w := j8 z8
          refine r_n (pc1 := 39) [.int (J 1)] _ rfl rfl ?_
          refine r_goto (t := 43) rfl rfl ?_
          exact Q6  1  (rgk rfl) w
        refine r_iz (t := 38) (pc1 := 18) rfl rfl rfl rx1 (fun c14 => ?_) (fun c14 => ?_)
        · have w := w.1 c14
          exact Q8     w
        · have w := w.2 c14
          refine r_aldn (pc1 := 19) rfl rfl rfl ?_
          refine r_n (pc1 := 20) [.int (J x2), rv 437] _ rfl rfl ?_
          refine r_n (pc1 := 21) [.int (J 0), .int (J x2), rv 437] _ rfl rfl ?_
          refine r_iv rfl rfl rfl rfl rfl rfl t0 (lyk t0 rfl) rfl (xe_of (xa_r (xa_i (xa_i xa_0))) rfl rfl) (r_d0 hd rfl) (a_X14_ver x2 0 (r_d1 hd rfl) rx2 (rgk rfl) w t0 (fun x9 rx9 w => ?_))
          refine r_fI (pc1 := 24) rfl ?_
          have w := w rx9
          refine r_n (pc1 := 25) [.int (J p0), .int (J x9)] _ rfl rfl ?_
          obtain ⟨J10, j10, w⟩ := w
          have Q10 : J10 → RR sc goal fs 215 42 [some (rv 437), some (.int (J p0)), some (.int (J x1)), some (.int (J x2))] [] h := by
            intro z10
            have w := j10 z10
            refine r_n (pc1 := 43) [.int (J 0)] _ rfl rfl ?_
            exact Q6  0  (rgk rfl) w
          refine r_ic (t := 42) (pc1 := 28) rfl rfl rfl rx9 rp0 (fun c13 => ?_) (fun c13 => ?_)
          · have w := w.1 c13
            exact Q10     w
          · have w := w.2 c13
            refine r_aldn (pc1 := 29) rfl rfl rfl ?_
            refine r_n (pc1 := 30) [.int (J x2), rv 437] _ rfl rfl ?_
            refine r_n (pc1 := 32) [.int (J 6), .int (J x2), rv 437] _ rfl rfl ?_
            refine r_iv rfl rfl rfl rfl rfl rfl t0 (lyk t0 rfl) rfl (xe_of (xa_r (xa_i (xa_i xa_0))) rfl rfl) (r_d0 hd rfl) (a_X14_ver x2 6 (r_d1 hd rfl) rx2 (rgk rfl) w t0 (fun x11 rx11 w => ?_))
            refine r_fI (pc1 := 35) rfl ?_
            have w := w rx11
            refine r_iz (t := 42) (pc1 := 38) rfl rfl rfl rx11 (fun c12 => ?_) (fun c12 => ?_)
            · have w := w.1 c12
              exact Q10     w
            · have w := w.2 c12
              exact Q8     w
  exact Q3 _  0 0  (rgk rfl) (rgk rfl) (Nat.lt_succ_self _) w
def w_X14_setMany  (K : Int → XH → Prop) (h : XH) : Prop :=
  ((∃ (I4 : Int → Int → XH → Prop) (m4 : Int → Int → XH → Nat), I4 1 0 h ∧ ∀ (x1 : Int) (x2 : Int) (h3 : XH), HT h3 → HX h h3 → rg x1 → rg x2 → I4 x1 x2 h3 → (∃ J5 : Prop, (J5 → (K x1 h3)) ∧ ((hI h3 438 0 ≤ x2 → J5) ∧ (¬ (hI h3 438 0 ≤ x2) → (((5000 < x1 → J5) ∧ (¬ (5000 < x1) → (w_X14_versionsOf x2 (fun a6 h7 => HT h7 → HX h3 h7 → (hk h7 a6 = 100 ∧ (hn h7 a6 : Int) < 2147483648 ∧ w_X14_hasOption x2 (fun x10 => rg x10 → (x10 = 0 ∨ x10 = 1) → (∃ J12 : Int → Prop, (∀ (x11 : Int), rg x11 → J12 x11 → (∀ x13 : Int, x13 = wr (x1 * (wr ((wr ((hn h7 a6 : Int) + 1)) * x11))) → rg x13 → ∀ x14 : Int, x14 = wr (x2 + 1) → rg x14 → (I4 x13 x14 h7 ∧ m4 x13 x14 h7 < m4 x1 x2 h3))) ∧ ((x10 = 0 → (J12 1)) ∧ (¬ (x10 = 0) → (J12 2))))) h7)) h3)))))))))
set_option maxHeartbeats 4000000 in
theorem a_X14_setMany {sc : Nat × (Nat → Int32)} {goal : XO → XH → Prop} {fs : List XF} {h : XH}  {K : Int → XH → Prop} (hd : fs.length + 3 ≤ 1000) (w : w_X14_setMany  K h) (t0 : HT h) (k : ∀ (r : Int) (h1 : XH), HT h1 → HX h h1 → rg r → K r h1 → XFin xP sc goal fs (.inl (some (.int (J r)))) h1) : RR sc goal fs 297 0 [some (rv 437), none, none] [] h := by
  unfold w_X14_setMany at w
  refine r_n (pc1 := 1) [.int (J 1)] _ rfl rfl ?_
  refine r_istn (pc1 := 2) (ls1 := [some (rv 437), some (.int (J 1)), none]) rfl rfl rfl rfl ?_
  refine r_n (pc1 := 3) [.int (J 0)] _ rfl rfl ?_
  refine r_istn (pc1 := 4) (ls1 := [some (rv 437), some (.int (J 1)), some (.int (J 0))]) rfl rfl rfl rfl ?_
  obtain ⟨I4, m4, w, y4⟩ := w
  have Q4 : ∀ (n : Nat)  (x1 : Int) (x2 : Int) (h3 : XH), HT h3 → HX h h3 → rg x1 → rg x2 → m4 x1 x2 h3 < n → I4 x1 x2 h3 → RR sc goal fs 297 4 [some (rv 437), some (.int (J x1)), some (.int (J x2))] [] h3 := by
    intro n
    induction n with
    | zero => intro x1 x2 h3 t3 s3 rx1 rx2 q4 _; exact absurd q4 (Nat.not_lt_zero _)
    | succ n ih4 =>
      intro x1 x2 h3 t3 s3 rx1 rx2 q4 z4
      have w := y4 x1 x2 h3 t3 s3 rx1 rx2 z4
      refine r_n (pc1 := 5) [.int (J x2)] _ rfl rfl ?_
      refine r_aldn (pc1 := 6) rfl rfl rfl ?_
      refine r_gfC (pc1 := 9) (q := 438) rfl rfl rfl t3 (lyk t3 rfl) rfl rfl (lyR t3 rfl rfl) ?_
      refine r_n (pc1 := 10) [.int (J 0), rv 438, .int (J x2)] _ rfl rfl ?_
      refine r_ial (pc1 := 11) rfl rfl t3 (lyk t3 rfl) (rgk rfl) (by decide) (lt_len (lyn t3 rfl) (by decide)) ?_
      obtain ⟨J5, j5, w⟩ := w
      have Q5 : J5 → RR sc goal fs 297 52 [some (rv 437), some (.int (J x1)), some (.int (J x2))] [] h3 := by
        intro z5
        have w := j5 z5
        refine r_n (pc1 := 53) [.int (J x1)] _ rfl rfl ?_
        exact r_retI rfl rfl rfl (k _ _ t3 s3 rx1 w)
      refine r_ic (t := 52) (pc1 := 14) rfl rfl rfl rx2 (rgh _ _ _) (fun c17 => ?_) (fun c17 => ?_)
      · have w := w.1 c17
        exact Q5     w
      · have w := w.2 c17
        refine r_n (pc1 := 15) [.int (J x1)] _ rfl rfl ?_
        refine r_n (pc1 := 18) [.int (J 5000), .int (J x1)] _ rfl rfl ?_
        refine r_ic (t := 52) (pc1 := 21) rfl rfl rfl rx1 (rgk rfl) (fun c16 => ?_) (fun c16 => ?_)
        · have w := w.1 c16
          exact Q5     w
        · have w := w.2 c16
          refine r_n (pc1 := 22) [.int (J x1)] _ rfl rfl ?_
          refine r_aldn (pc1 := 23) rfl rfl rfl ?_
          refine r_n (pc1 := 24) [.int (J x2), rv 437, .int (J x1)] _ rfl rfl ?_
          refine r_iv rfl rfl rfl rfl rfl rfl t3 (lyk t3 rfl) rfl (xe_of (xa_r (xa_i xa_0)) rfl rfl) (r_d0 hd rfl) (a_X14_versionsOf x2 (r_d1 hd rfl) rx2 w t3 (fun a6 h7 t7 u7 w => ?_))
          refine r_fR (pc1 := 27) rfl ?_
          have s7 := HX_trans s3 u7
          have w := w t7 u7
          obtain ⟨c8, w⟩ := w
          obtain ⟨c9, w⟩ := w
          refine r_len (pc1 := 28) (u := 0) rfl rfl t7 c8 (by decide) (fun rc9 => ?_) c9
          refine r_n (pc1 := 29) [.int (J 1), .int (J (hn h7 a6 : Int)), .int (J x1)] _ rfl rfl ?_
          refine r_iadd (pc1 := 30) rfl rfl ?_
          refine r_aldn (pc1 := 31) rfl rfl rfl ?_
          refine r_n (pc1 := 32) [.int (J x2), rv 437, .int (J (wr ((hn h7 a6 : Int) + 1))), .int (J x1)] _ rfl rfl ?_
          refine r_iv rfl rfl rfl rfl rfl rfl t7 (lyk t7 rfl) rfl (xe_of (xa_r (xa_i xa_0)) rfl rfl) (r_d0 hd rfl) (a_X14_hasOption x2 (r_d1 hd rfl) rx2 w t7 (fun x10 rx10 vx10 w => ?_))
          refine r_fI (pc1 := 35) rfl ?_
          have w := w rx10 vx10
          obtain ⟨J12, j12, w⟩ := w
          have Q12 : ∀ (x11 : Int), rg x11 → J12 x11 → RR sc goal fs 297 43 [some (rv 437), some (.int (J x1)), some (.int (J x2))] [.int (J x11), .int (J (wr ((hn h7 a6 : Int) + 1))), .int (J x1)] h7 := by
            intro x11 rx11 z12
            have w := j12 x11 rx11 z12
            refine r_imul (pc1 := 44) rfl rfl ?_
            refine r_imul (pc1 := 45) rfl rfl ?_
            refine r_vI (rgw _) (fun x13 ex13 rx13 => ?_)
            have w := w x13 ex13 rx13
            refine r_istn (pc1 := 46) (ls1 := [some (rv 437), some (.int (J x13)), some (.int (J x2))]) rfl rfl rfl rfl ?_
            refine r_inc (pc1 := 49) (g := fun zz => [some (rv 437), some (.int (J x13)), some (.int (J zz))]) rfl rfl rfl rfl (fun _ => rfl) (fun x14 ex14 rx14 => ?_)
            have w := w x14 ex14 rx14
            refine r_goto (t := 4) rfl rfl ?_
            exact ih4  x13 x14 h7 t7 s7 rx13 rx14 (Nat.lt_of_lt_of_le w.2 (Nat.le_of_lt_succ q4)) w.1
          refine r_iz (t := 42) (pc1 := 38) rfl rfl rfl rx10 (fun c15 => ?_) (fun c15 => ?_)
          · have w := w.1 c15
            refine r_n (pc1 := 43) [.int (J 1), .int (J (wr ((hn h7 a6 : Int) + 1))), .int (J x1)] _ rfl rfl ?_
            exact Q12  1  (rgk rfl) w
          · have w := w.2 c15
            refine r_n (pc1 := 39) [.int (J 2), .int (J (wr ((hn h7 a6 : Int) + 1))), .int (J x1)] _ rfl rfl ?_
            refine r_goto (t := 43) rfl rfl ?_
            exact Q12  2  (rgk rfl) w
  exact Q4 _  1 0 h t0 (HX_refl h) (rgk rfl) (rgk rfl) (Nat.lt_succ_self _) w
def w_X14_laySet (p0 : Int) (p1 : Nat) (K : Int → XH → Prop) (h : XH) : Prop :=
  ((∃ (I8 : Int → Int → Int → XH → Prop) (m8 : Int → Int → Int → XH → Nat), I8 p0 1 0 h ∧ ∀ (x1 : Int) (x2 : Int) (x3 : Int) (h7 : XH), HT h7 → HX h h7 → rg x1 → rg x2 → rg x3 → I8 x1 x2 x3 h7 → (((12 ≤ x3 → ((x2 = 0 ∨ x2 = 1) ∧ K x2 h7)) ∧ (¬ (12 ≤ x3) → (hk h7 p1 = 100 ∧ (0 ≤ x3 ∧ x3 < (hn h7 p1 : Int)) ∧ ∀ h12 : XH, h12 = sI h7 p1 x3.toNat (-1) → HT h12 → HX h7 h12 → ∃ J19 : Int → Int → XH → Prop, (∀ (x13 : Int) (x14 : Int) (h18 : XH), HT h18 → HX h h18 → rg x13 → rg x14 → J19 x13 x14 h18 → (∀ x20 : Int, x20 = wr (x3 + 1) → rg x20 → (I8 x13 x14 x20 h18 ∧ m8 x13 x14 x20 h18 < m8 x1 x2 x3 h7))) ∧ ((x3 < hI h12 438 0 → (w_X14_versionsOf x3 (fun a21 h22 => HT h22 → HX h12 h22 → (hk h22 a21 = 100 ∧ (hn h22 a21 : Int) < 2147483648 ∧ ¬ wr ((hn h22 a21 : Int) + 1) = 0 ∧ ∀ x26 : Int, x26 = irem x1 (wr ((hn h22 a21 : Int) + 1)) → rg x26 → (hn h22 a21 : Int) < 2147483648 ∧ ¬ wr ((hn h22 a21 : Int) + 1) = 0 ∧ ∀ x29 : Int, x29 = idiv x1 (wr ((hn h22 a21 : Int) + 1)) → rg x29 → w_X14_hasOption x3 (fun x30 => rg x30 → (x30 = 0 ∨ x30 = 1) → (∃ J32 : Int → Prop, (∀ (x31 : Int), rg x31 → J32 x31 → (w_X14_hasOption x3 (fun x33 => rg x33 → (x33 = 0 ∨ x33 = 1) → (∃ J35 : Int → Prop, (∀ (x34 : Int), rg x34 → J35 x34 → (¬ x34 = 0 ∧ ∀ x37 : Int, x37 = idiv x29 x34 → rg x37 → ∃ J39 : Int → Prop, (∀ (x38 : Int), rg x38 → J39 x38 → ((0 ≤ x3 ∧ x3 < (hn h22 p1 : Int)) ∧ ∀ h41 : XH, h41 = sI h22 p1 x3.toNat x38 → HT h41 → HX h22 h41 → ∃ J43 : Int → Prop, (∀ (x42 : Int), rg x42 → J43 x42 → (J19 x37 x42 h41)) ∧ ∃ J44 : Prop, (J44 → (J43 0)) ∧ ((x2 = 0 → J44) ∧ (¬ (x2 = 0) → (∃ J45 : Prop, (J45 → (J43 1)) ∧ ((0 < x26 → J45) ∧ (¬ (0 < x26) → (((¬ x31 = 0 → J44) ∧ (¬ (¬ x31 = 0) → J45)))))))))) ∧ ((¬ x26 = 0 → (∀ x49 : Int, x49 = wr (x26 - 1) → rg x49 → (0 ≤ x49 ∧ x49 < (hn h22 a21 : Int)) ∧ w_X14_ver (hI h22 a21 x49.toNat) 1 (fun x51 => rg x51 → (∃ J53 : Int → Prop, (∀ (x52 : Int), rg x52 → J53 x52 → (J39 (wr (x51 + x52)))) ∧ ((x31 = 0 → (J53 0)) ∧ (¬ (x31 = 0) → (J53 1000000))))) h22)) ∧ (¬ (¬ x26 = 0) → (J39 (-1)))))) ∧ ((x33 = 0 → (J35 1)) ∧ (¬ (x33 = 0) → (J35 2))))) h22)) ∧ ∃ J57 : Prop, (J57 → (J32 0)) ∧ ((x30 = 0 → J57) ∧ (¬ (x30 = 0) → (((¬ irem x29 2 = 1 → J57) ∧ (¬ (¬ irem x29 2 = 1) → (J32 1)))))))) h22)) h12)) ∧ (¬ (x3 < hI h12 438 0) → (J19 x1 x2 h12)))))))))
set_option maxHeartbeats 4000000 in
theorem a_X14_laySet {sc : Nat × (Nat → Int32)} {goal : XO → XH → Prop} {fs : List XF} {h : XH} (p0 : Int) (p1 : Nat) {K : Int → XH → Prop} (hd : fs.length + 3 ≤ 1000) (rp0 : rg p0) (w : w_X14_laySet p0 p1 K h) (t0 : HT h) (k : ∀ (r : Int) (h1 : XH), HT h1 → HX h h1 → rg r → (r = 0 ∨ r = 1) → K r h1 → XFin xP sc goal fs (.inl (some (.int (J r)))) h1) : RR sc goal fs 245 0 [some (rv 437), some (.int (J p0)), some (rv p1), none, none, none, none, none, none] [] h := by
  unfold w_X14_laySet at w
  refine r_n (pc1 := 1) [.int (J p0)] _ rfl rfl ?_
  refine r_istn (pc1 := 2) (ls1 := [some (rv 437), some (.int (J p0)), some (rv p1), some (.int (J p0)), none, none, none, none, none]) rfl rfl rfl (xput1_rv rfl rfl) ?_
  refine r_n (pc1 := 3) [.int (J 1)] _ rfl rfl ?_
  refine r_ist (pc1 := 5) (ls1 := [some (rv 437), some (.int (J p0)), some (rv p1), some (.int (J p0)), some (.int (J 1)), none, none, none, none]) rfl rfl rfl rfl ?_
  refine r_n (pc1 := 6) [.int (J 0)] _ rfl rfl ?_
  refine r_ist (pc1 := 8) (ls1 := [some (rv 437), some (.int (J p0)), some (rv p1), some (.int (J p0)), some (.int (J 1)), some (.int (J 0)), none, none, none]) rfl rfl rfl rfl ?_
  obtain ⟨I8, m8, w, y8⟩ := w
  have Q8 : ∀ (n : Nat) (d4 : Option Value) (d5 : Option Value) (d6 : Option Value) (x1 : Int) (x2 : Int) (x3 : Int) (h7 : XH), HT h7 → HX h h7 → rg x1 → rg x2 → rg x3 → m8 x1 x2 x3 h7 < n → I8 x1 x2 x3 h7 → RR sc goal fs 245 8 [some (rv 437), some (.int (J p0)), some (rv p1), some (.int (J x1)), some (.int (J x2)), some (.int (J x3)), d4, d5, d6] [] h7 := by
    intro n
    induction n with
    | zero => intro d4 d5 d6 x1 x2 x3 h7 t7 s7 rx1 rx2 rx3 q8 _; exact absurd q8 (Nat.not_lt_zero _)
    | succ n ih8 =>
      intro d4 d5 d6 x1 x2 x3 h7 t7 s7 rx1 rx2 rx3 q8 z8
      have w := y8 x1 x2 x3 h7 t7 s7 rx1 rx2 rx3 z8
      refine r_n (pc1 := 10) [.int (J x3)] _ rfl rfl ?_
      refine r_n (pc1 := 12) [.int (J 12), .int (J x3)] _ rfl rfl ?_
      refine r_ic (t := 165) (pc1 := 15) rfl rfl rfl rx3 (rgk rfl) (fun c61 => ?_) (fun c61 => ?_)
      · have w := w.1 c61
        refine r_n (pc1 := 167) [.int (J x2)] _ rfl rfl ?_
        obtain ⟨c9, w⟩ := w
        exact r_retB rfl rfl rfl c9 (k _ _ t7 s7 rx2 c9 w)
      · have w := w.2 c61
        refine r_aldn (pc1 := 16) rfl rfl rfl ?_
        refine r_n (pc1 := 18) [.int (J x3), rv p1] _ rfl rfl ?_
        refine r_n (pc1 := 19) [.int (J (-1)), .int (J x3), rv p1] _ rfl rfl ?_
        obtain ⟨c10, w⟩ := w
        obtain ⟨c11, w⟩ := w
        refine r_iast (pc1 := 20) rfl rfl t7 c10 rx3 c11.1 c11.2 (fun h12 eh12 t12 u12 => ?_)
        have w := w h12 eh12 t12 u12
        have s12 := HX_trans s7 u12
        refine r_n (pc1 := 22) [.int (J x3)] _ rfl rfl ?_
        refine r_aldn (pc1 := 23) rfl rfl rfl ?_
        refine r_gfC (pc1 := 26) (q := 438) rfl rfl rfl t12 (lyk t12 rfl) rfl rfl (lyR t12 rfl rfl) ?_
        refine r_n (pc1 := 27) [.int (J 0), rv 438, .int (J x3)] _ rfl rfl ?_
        refine r_ial (pc1 := 28) rfl rfl t12 (lyk t12 rfl) (rgk rfl) (by decide) (lt_len (lyn t12 rfl) (by decide)) ?_
        obtain ⟨J19, j19, w⟩ := w
        have Q19 : ∀ (d15 : Option Value) (d16 : Option Value) (d17 : Option Value) (x13 : Int) (x14 : Int) (h18 : XH), HT h18 → HX h h18 → rg x13 → rg x14 → J19 x13 x14 h18 → RR sc goal fs 245 159 [some (rv 437), some (.int (J p0)), some (rv p1), some (.int (J x13)), some (.int (J x14)), some (.int (J x3)), d15, d16, d17] [] h18 := by
          intro d15 d16 d17 x13 x14 h18 t18 s18 rx13 rx14 z19
          have w := j19 x13 x14 h18 t18 s18 rx13 rx14 z19
          refine r_inc (pc1 := 162) (g := fun zz => [some (rv 437), some (.int (J p0)), some (rv p1), some (.int (J x13)), some (.int (J x14)), some (.int (J zz)), d15, d16, d17]) rfl rfl rfl rfl (fun _ => rfl) (fun x20 ex20 rx20 => ?_)
          have w := w x20 ex20 rx20
          refine r_goto (t := 8) rfl rfl ?_
          exact ih8 _ _ _ x13 x14 x20 h18 t18 s18 rx13 rx14 rx20 (Nat.lt_of_lt_of_le w.2 (Nat.le_of_lt_succ q8)) w.1
        refine r_ic (t := 34) (pc1 := 31) rfl rfl rfl rx3 (rgh _ _ _) (fun c60 => ?_) (fun c60 => ?_)
        · have w := w.1 c60
          refine r_aldn (pc1 := 35) rfl rfl rfl ?_
          refine r_n (pc1 := 37) [.int (J x3), rv 437] _ rfl rfl ?_
          refine r_iv rfl rfl rfl rfl rfl rfl t12 (lyk t12 rfl) rfl (xe_of (xa_r (xa_i xa_0)) rfl rfl) (r_d0 hd rfl) (a_X14_versionsOf x3 (r_d1 hd rfl) rx3 w t12 (fun a21 h22 t22 u22 w => ?_))
          refine r_fR (pc1 := 40) rfl ?_
          have s22 := HX_trans s12 u22
          have w := w t22 u22
          refine r_ast (pc1 := 42) (ls1 := [some (rv 437), some (.int (J p0)), some (rv p1), some (.int (J x1)), some (.int (J x2)), some (.int (J x3)), some (rv a21), d5, d6]) rfl rfl rfl rfl ?_
          refine r_n (pc1 := 43) [.int (J x1)] _ rfl rfl ?_
          refine r_ald (pc1 := 45) rfl rfl rfl ?_
          obtain ⟨c23, w⟩ := w
          obtain ⟨c24, w⟩ := w
          refine r_len (pc1 := 46) (u := 0) rfl rfl t22 c23 (by decide) (fun rc24 => ?_) c24
          refine r_n (pc1 := 47) [.int (J 1), .int (J (hn h22 a21 : Int)), .int (J x1)] _ rfl rfl ?_
          refine r_iadd (pc1 := 48) rfl rfl ?_
          obtain ⟨c25, w⟩ := w
          refine r_irem (pc1 := 49) rfl rfl (rgw _) c25 ?_
          refine r_vI (rgt _) (fun x26 ex26 rx26 => ?_)
          have w := w x26 ex26 rx26
          refine r_ist (pc1 := 51) (ls1 := [some (rv 437), some (.int (J p0)), some (rv p1), some (.int (J x1)), some (.int (J x2)), some (.int (J x3)), some (rv a21), some (.int (J x26)), d6]) rfl rfl rfl (xput1_rv rfl rfl) ?_
          refine r_n (pc1 := 52) [.int (J x1)] _ rfl rfl ?_
          refine r_ald (pc1 := 54) rfl rfl rfl ?_
          obtain ⟨c27, w⟩ := w
          refine r_len (pc1 := 55) (u := 0) rfl rfl t22 c23 (by decide) (fun rc27 => ?_) c27
          refine r_n (pc1 := 56) [.int (J 1), .int (J (hn h22 a21 : Int)), .int (J x1)] _ rfl rfl ?_
          refine r_iadd (pc1 := 57) rfl rfl ?_
          obtain ⟨c28, w⟩ := w
          refine r_idiv (pc1 := 58) rfl rfl (rgw _) c28 ?_
          refine r_vI (rgt _) (fun x29 ex29 rx29 => ?_)
          have w := w x29 ex29 rx29
          refine r_istn (pc1 := 59) (ls1 := [some (rv 437), some (.int (J p0)), some (rv p1), some (.int (J x29)), some (.int (J x2)), some (.int (J x3)), some (rv a21), some (.int (J x26)), d6]) rfl rfl rfl (xput1_rv rfl rfl) ?_
          refine r_aldn (pc1 := 60) rfl rfl rfl ?_
          refine r_n (pc1 := 62) [.int (J x3), rv 437] _ rfl rfl ?_
          refine r_iv rfl rfl rfl rfl rfl rfl t22 (lyk t22 rfl) rfl (xe_of (xa_r (xa_i xa_0)) rfl rfl) (r_d0 hd rfl) (a_X14_hasOption x3 (r_d1 hd rfl) rx3 w t22 (fun x30 rx30 vx30 w => ?_))
          refine r_fI (pc1 := 65) rfl ?_
          have w := w rx30 vx30
          obtain ⟨J32, j32, w⟩ := w
          have Q32 : ∀ (x31 : Int), rg x31 → J32 x31 → RR sc goal fs 245 80 [some (rv 437), some (.int (J p0)), some (rv p1), some (.int (J x29)), some (.int (J x2)), some (.int (J x3)), some (rv a21), some (.int (J x26)), d6] [.int (J x31)] h22 := by
            intro x31 rx31 z32
            have w := j32 x31 rx31 z32
            refine r_ist (pc1 := 82) (ls1 := [some (rv 437), some (.int (J p0)), some (rv p1), some (.int (J x29)), some (.int (J x2)), some (.int (J x3)), some (rv a21), some (.int (J x26)), some (.int (J x31))]) rfl rfl rfl rfl ?_
            refine r_n (pc1 := 83) [.int (J x29)] _ rfl rfl ?_
            refine r_aldn (pc1 := 84) rfl rfl rfl ?_
            refine r_n (pc1 := 86) [.int (J x3), rv 437, .int (J x29)] _ rfl rfl ?_
            refine r_iv rfl rfl rfl rfl rfl rfl t22 (lyk t22 rfl) rfl (xe_of (xa_r (xa_i xa_0)) rfl rfl) (r_d0 hd rfl) (a_X14_hasOption x3 (r_d1 hd rfl) rx3 w t22 (fun x33 rx33 vx33 w => ?_))
            refine r_fI (pc1 := 89) rfl ?_
            have w := w rx33 vx33
            obtain ⟨J35, j35, w⟩ := w
            have Q35 : ∀ (x34 : Int), rg x34 → J35 x34 → RR sc goal fs 245 97 [some (rv 437), some (.int (J p0)), some (rv p1), some (.int (J x29)), some (.int (J x2)), some (.int (J x3)), some (rv a21), some (.int (J x26)), some (.int (J x31))] [.int (J x34), .int (J x29)] h22 := by
              intro x34 rx34 z35
              have w := j35 x34 rx34 z35
              obtain ⟨c36, w⟩ := w
              refine r_idiv (pc1 := 98) rfl rfl rx34 c36 ?_
              refine r_vI (rgt _) (fun x37 ex37 rx37 => ?_)
              have w := w x37 ex37 rx37
              refine r_istn (pc1 := 99) (ls1 := [some (rv 437), some (.int (J p0)), some (rv p1), some (.int (J x37)), some (.int (J x2)), some (.int (J x3)), some (rv a21), some (.int (J x26)), some (.int (J x31))]) rfl rfl rfl (xput1_rv rfl rfl) ?_
              refine r_aldn (pc1 := 100) rfl rfl rfl ?_
              refine r_n (pc1 := 102) [.int (J x3), rv p1] _ rfl rfl ?_
              refine r_n (pc1 := 104) [.int (J x26), .int (J x3), rv p1] _ rfl rfl ?_
              obtain ⟨J39, j39, w⟩ := w
              have Q39 : ∀ (x38 : Int), rg x38 → J39 x38 → RR sc goal fs 245 136 [some (rv 437), some (.int (J p0)), some (rv p1), some (.int (J x37)), some (.int (J x2)), some (.int (J x3)), some (rv a21), some (.int (J x26)), some (.int (J x31))] [.int (J x38), .int (J x3), rv p1] h22 := by
                intro x38 rx38 z39
                have w := j39 x38 rx38 z39
                obtain ⟨c40, w⟩ := w
                refine r_iast (pc1 := 137) rfl rfl t22 (HXk u22 (HXk u12 c10 rfl) rfl) rx3 c40.1 c40.2 (fun h41 eh41 t41 u41 => ?_)
                have w := w h41 eh41 t41 u41
                have s41 := HX_trans s22 u41
                refine r_n (pc1 := 139) [.int (J x2)] _ rfl rfl ?_
                obtain ⟨J43, j43, w⟩ := w
                have Q43 : ∀ (x42 : Int), rg x42 → J43 x42 → RR sc goal fs 245 157 [some (rv 437), some (.int (J p0)), some (rv p1), some (.int (J x37)), some (.int (J x2)), some (.int (J x3)), some (rv a21), some (.int (J x26)), some (.int (J x31))] [.int (J x42)] h41 := by
                  intro x42 rx42 z43
                  have w := j43 x42 rx42 z43
                  refine r_ist (pc1 := 159) (ls1 := [some (rv 437), some (.int (J p0)), some (rv p1), some (.int (J x37)), some (.int (J x42)), some (.int (J x3)), some (rv a21), some (.int (J x26)), some (.int (J x31))]) rfl rfl rfl rfl ?_
                  exact Q19 _ _ _ x37 x42 h41 t41 s41 rx37 rx42 w
                obtain ⟨J44, j44, w⟩ := w
                have Q44 : J44 → RR sc goal fs 245 156 [some (rv 437), some (.int (J p0)), some (rv p1), some (.int (J x37)), some (.int (J x2)), some (.int (J x3)), some (rv a21), some (.int (J x26)), some (.int (J x31))] [] h41 := by
                  intro z44
                  have w := j44 z44
                  refine r_n (pc1 := 157) [.int (J 0)] _ rfl rfl ?_
                  exact Q43  0  (rgk rfl) w
                refine r_iz (t := 156) (pc1 := 142) rfl rfl rfl rx2 (fun c48 => ?_) (fun c48 => ?_)
                · have w := w.1 c48
                  exact Q44     w
                · have w := w.2 c48
                  refine r_n (pc1 := 144) [.int (J x26)] _ rfl rfl ?_
                  obtain ⟨J45, j45, w⟩ := w
                  have Q45 : J45 → RR sc goal fs 245 152 [some (rv 437), some (.int (J p0)), some (rv p1), some (.int (J x37)), some (.int (J x2)), some (.int (J x3)), some (rv a21), some (.int (J x26)), some (.int (J x31))] [] h41 := by
                    intro z45
                    have w := j45 z45
                    refine r_n (pc1 := 153) [.int (J 1)] _ rfl rfl ?_
                    refine r_goto (t := 157) rfl rfl ?_
                    exact Q43  1  (rgk rfl) w
                  refine r_iz (t := 152) (pc1 := 147) rfl rfl rfl rx26 (fun c47 => ?_) (fun c47 => ?_)
                  · have w := w.1 c47
                    exact Q45     w
                  · have w := w.2 c47
                    refine r_n (pc1 := 149) [.int (J x31)] _ rfl rfl ?_
                    refine r_iz (t := 156) (pc1 := 152) rfl rfl rfl rx31 (fun c46 => ?_) (fun c46 => ?_)
                    · have w := w.1 c46
                      exact Q44     w
                    · have w := w.2 c46
                      exact Q45     w
              refine r_iz (t := 111) (pc1 := 107) rfl rfl rfl rx26 (fun c55 => ?_) (fun c55 => ?_)
              · have w := w.1 c55
                refine r_aldn (pc1 := 112) rfl rfl rfl ?_
                refine r_ald (pc1 := 114) rfl rfl rfl ?_
                refine r_n (pc1 := 116) [.int (J x26), rv a21, rv 437, .int (J x3), rv p1] _ rfl rfl ?_
                refine r_n (pc1 := 117) [.int (J 1), .int (J x26), rv a21, rv 437, .int (J x3), rv p1] _ rfl rfl ?_
                refine r_isub (pc1 := 118) rfl rfl ?_
                refine r_vI (rgw _) (fun x49 ex49 rx49 => ?_)
                have w := w x49 ex49 rx49
                obtain ⟨c50, w⟩ := w
                refine r_ial (pc1 := 119) rfl rfl t22 c23 rx49 c50.1 c50.2 ?_
                refine r_n (pc1 := 120) [.int (J 1), .int (J (hI h22 a21 x49.toNat)), rv 437, .int (J x3), rv p1] _ rfl rfl ?_
                refine r_iv rfl rfl rfl rfl rfl rfl t22 (lyk t22 rfl) rfl (xe_of (xa_r (xa_i (xa_i xa_0))) rfl rfl) (r_d0 hd rfl) (a_X14_ver (hI h22 a21 x49.toNat) 1 (r_d1 hd rfl) (rgh _ _ _) (rgk rfl) w t22 (fun x51 rx51 w => ?_))
                refine r_fI (pc1 := 123) rfl ?_
                have w := w rx51
                refine r_n (pc1 := 125) [.int (J x31), .int (J x51), .int (J x3), rv p1] _ rfl rfl ?_
                obtain ⟨J53, j53, w⟩ := w
                have Q53 : ∀ (x52 : Int), rg x52 → J53 x52 → RR sc goal fs 245 135 [some (rv 437), some (.int (J p0)), some (rv p1), some (.int (J x37)), some (.int (J x2)), some (.int (J x3)), some (rv a21), some (.int (J x26)), some (.int (J x31))] [.int (J x52), .int (J x51), .int (J x3), rv p1] h22 := by
                  intro x52 rx52 z53
                  have w := j53 x52 rx52 z53
                  refine r_iadd (pc1 := 136) rfl rfl ?_
                  exact Q39  (wr (x51 + x52))  (rgw _) w
                refine r_iz (t := 134) (pc1 := 128) rfl rfl rfl rx31 (fun c54 => ?_) (fun c54 => ?_)
                · have w := w.1 c54
                  refine r_n (pc1 := 135) [.int (J 0), .int (J x51), .int (J x3), rv p1] _ rfl rfl ?_
                  exact Q53  0  (rgk rfl) w
                · have w := w.2 c54
                  refine r_n (pc1 := 131) [.int (J 1000000), .int (J x51), .int (J x3), rv p1] _ rfl rfl ?_
                  refine r_goto (t := 135) rfl rfl ?_
                  exact Q53  1000000  (rgk rfl) w
              · have w := w.2 c55
                refine r_n (pc1 := 108) [.int (J (-1)), .int (J x3), rv p1] _ rfl rfl ?_
                refine r_goto (t := 136) rfl rfl ?_
                exact Q39  (-1)  (rgk rfl) w
            refine r_iz (t := 96) (pc1 := 92) rfl rfl rfl rx33 (fun c56 => ?_) (fun c56 => ?_)
            · have w := w.1 c56
              refine r_n (pc1 := 97) [.int (J 1), .int (J x29)] _ rfl rfl ?_
              exact Q35  1  (rgk rfl) w
            · have w := w.2 c56
              refine r_n (pc1 := 93) [.int (J 2), .int (J x29)] _ rfl rfl ?_
              refine r_goto (t := 97) rfl rfl ?_
              exact Q35  2  (rgk rfl) w
          obtain ⟨J57, j57, w⟩ := w
          have Q57 : J57 → RR sc goal fs 245 79 [some (rv 437), some (.int (J p0)), some (rv p1), some (.int (J x29)), some (.int (J x2)), some (.int (J x3)), some (rv a21), some (.int (J x26)), d6] [] h22 := by
            intro z57
            have w := j57 z57
            refine r_n (pc1 := 80) [.int (J 0)] _ rfl rfl ?_
            exact Q32  0  (rgk rfl) w
          refine r_iz (t := 79) (pc1 := 68) rfl rfl rfl rx30 (fun c59 => ?_) (fun c59 => ?_)
          · have w := w.1 c59
            exact Q57     w
          · have w := w.2 c59
            refine r_n (pc1 := 69) [.int (J x29)] _ rfl rfl ?_
            refine r_n (pc1 := 70) [.int (J 2), .int (J x29)] _ rfl rfl ?_
            refine r_irem (pc1 := 71) rfl rfl (rgk rfl) (by decide) ?_
            refine r_n (pc1 := 72) [.int (J 1), .int (J (irem x29 2))] _ rfl rfl ?_
            refine r_ic (t := 79) (pc1 := 75) rfl rfl rfl (rgt _) (rgk rfl) (fun c58 => ?_) (fun c58 => ?_)
            · have w := w.1 c58
              exact Q57     w
            · have w := w.2 c58
              refine r_n (pc1 := 76) [.int (J 1)] _ rfl rfl ?_
              refine r_goto (t := 80) rfl rfl ?_
              exact Q32  1  (rgk rfl) w
        · have w := w.2 c60
          refine r_goto (t := 159) rfl rfl ?_
          exact Q19 _ _ _ x1 x2 h12 t12 s12 rx1 rx2 w
  exact Q8 _ _ _ _ p0 1 0 h t0 (HX_refl h) rp0 (rgk rfl) (rgk rfl) (Nat.lt_succ_self _) w
