/-! printed by dec.py: what each method wants, and that the machine keeps it -/ 
def w_X8_idIn (p0 : BitVec 64) (p1 : Int) (K : Int → Prop) (h : XH) : Prop :=
  ((∃ (I2 : Int → Prop) (m2 : Int → Nat), I2 0 ∧ ∀ (x1 : Int), rg x1 → I2 x1 → (((hI h 9 1 ≤ x1 → (K (-1))) ∧ (¬ (hI h 9 1 ≤ x1) → ((0 ≤ x1 ∧ x1 < 40) ∧ ∃ J4 : Prop, (J4 → (∀ x5 : Int, x5 = wr (x1 + 1) → rg x5 → (I2 x5 ∧ m2 x5 < m2 x1))) ∧ ((¬ hI h 13 x1.toNat = p1 → J4) ∧ (¬ (¬ hI h 13 x1.toNat = p1) → (w_X12_has p0 x1 (fun x6 => rg x6 → (x6 = 0 ∨ x6 = 1) → (((x6 = 0 → J4) ∧ (¬ (x6 = 0) → (K x1))))) h)))))))))
set_option maxHeartbeats 4000000 in
theorem a_X8_idIn {sc : Nat × (Nat → Int32)} {goal : XO → XH → Prop} {fs : List XF} {h : XH} (p0 : BitVec 64) (p1 : Int) {K : Int → Prop} (hd : fs.length + 1 ≤ 1000) (rp1 : rg p1) (w : w_X8_idIn p0 p1 K h) (t0 : HT h) (k : ∀ (r : Int), rg r → K r → XFin xP sc goal fs (.inl (some (.int (J r)))) h) : RR sc goal fs 458 0 [some (rv 9), some (.long (G p0)), none, some (.int (J p1)), none] [] h := by
  unfold w_X8_idIn at w
  refine r_n (pc1 := 1) [.int (J 0)] _ rfl rfl ?_
  refine r_ist (pc1 := 3) (ls1 := [some (rv 9), some (.long (G p0)), none, some (.int (J p1)), some (.int (J 0))]) rfl rfl rfl rfl ?_
  obtain ⟨I2, m2, w, y2⟩ := w
  have Q2 : ∀ (n : Nat)  (x1 : Int), rg x1 → m2 x1 < n → I2 x1 → RR sc goal fs 458 3 [some (rv 9), some (.long (G p0)), none, some (.int (J p1)), some (.int (J x1))] [] h := by
    intro n
    induction n with
    | zero => intro x1 rx1 q2 _; exact absurd q2 (Nat.not_lt_zero _)
    | succ n ih2 =>
      intro x1 rx1 q2 z2
      have w := y2 x1 rx1 z2
      refine r_n (pc1 := 5) [.int (J x1)] _ rfl rfl ?_
      refine r_aldn (pc1 := 6) rfl rfl rfl ?_
      refine r_gfI (pc1 := 9) rfl rfl rfl t0 (lyk t0 rfl) rfl rfl ?_
      refine r_ic (t := 41) (pc1 := 12) rfl rfl rfl rx1 (rgh _ _ _) (fun c9 => ?_) (fun c9 => ?_)
      · have w := w.1 c9
        refine r_n (pc1 := 42) [.int (J (-1))] _ rfl rfl ?_
        exact r_retI rfl rfl rfl (k _ (rgk rfl) w)
      · have w := w.2 c9
        refine r_aldn (pc1 := 13) rfl rfl rfl ?_
        refine r_gfC (pc1 := 16) (q := 13) rfl rfl rfl t0 (lyk t0 rfl) rfl rfl (lyR t0 rfl rfl) ?_
        refine r_n (pc1 := 18) [.int (J x1), rv 13] _ rfl rfl ?_
        obtain ⟨c3, w⟩ := w
        refine r_ial (pc1 := 19) rfl rfl t0 (lyk t0 rfl) rx1 c3.1 (lt_len (lyn t0 rfl) c3.2) ?_
        refine r_n (pc1 := 20) [.int (J p1), .int (J (hI h 13 x1.toNat))] _ rfl rfl ?_
        obtain ⟨J4, j4, w⟩ := w
        have Q4 : J4 → RR sc goal fs 458 35 [some (rv 9), some (.long (G p0)), none, some (.int (J p1)), some (.int (J x1))] [] h := by
          intro z4
          have w := j4 z4
          refine r_inc (pc1 := 38) (g := fun zz => [some (rv 9), some (.long (G p0)), none, some (.int (J p1)), some (.int (J zz))]) rfl rfl rfl rfl (fun _ => rfl) (fun x5 ex5 rx5 => ?_)
          have w := w x5 ex5 rx5
          refine r_goto (t := 3) rfl rfl ?_
          exact ih2  x5  rx5 (Nat.lt_of_lt_of_le w.2 (Nat.le_of_lt_succ q2)) w.1
        refine r_ic (t := 35) (pc1 := 23) rfl rfl rfl (rgh _ _ _) rp1 (fun c8 => ?_) (fun c8 => ?_)
        · have w := w.1 c8
          exact Q4     w
        · have w := w.2 c8
          refine r_n (pc1 := 24) [.long (G p0)] _ rfl rfl ?_
          refine r_n (pc1 := 26) [.int (J x1), .long (G p0)] _ rfl rfl ?_
          refine r_iq rfl rfl rfl rfl rfl rfl (xe_of (xa_l (xa_i xa_0)) rfl rfl) (r_d0 hd rfl) (a_X12_has p0 x1 (r_d1 hd rfl) rx1 w t0 (fun x6 rx6 vx6 w => ?_))
          refine r_fI (pc1 := 29) rfl ?_
          have w := w rx6 vx6
          refine r_iz (t := 35) (pc1 := 32) rfl rfl rfl rx6 (fun c7 => ?_) (fun c7 => ?_)
          · have w := w.1 c7
            exact Q4     w
          · have w := w.2 c7
            refine r_n (pc1 := 34) [.int (J x1)] _ rfl rfl ?_
            exact r_retI rfl rfl rfl (k _ rx1 w)
  exact Q2 _  0  (rgk rfl) (Nat.lt_succ_self _) w
def w_X2_firstWishFor (p0 : Int) (K : Int → Prop) (h : XH) : Prop :=
  (w_X11_atHand (fun a1 => ((∃ (I3 : Int → Prop) (m3 : Int → Nat), I3 0 ∧ ∀ (x2 : Int), rg x2 → I3 x2 → (hk h a1 = 7 ∧ ∃ J5 : Prop, (J5 → (K (-1))) ∧ ((hI h a1 0 ≤ x2 → J5) ∧ (¬ (hI h a1 0 ≤ x2) → (((p0 = (-1) → J5) ∧ (¬ (p0 = (-1)) → ((0 ≤ x2 ∧ x2 < 8) ∧ ∃ J7 : Prop, (J7 → (∀ x8 : Int, x8 = wr (x2 + 1) → rg x8 → (I3 x8 ∧ m3 x8 < m3 x2))) ∧ ((hR h (a1 + 1) x2.toNat = 0 → J7) ∧ (¬ (hR h (a1 + 1) x2.toNat = 0) → (w_X12_has (hL h 49 x2.toNat) p0 (fun x9 => rg x9 → (x9 = 0 ∨ x9 = 1) → (((x9 = 0 → J7) ∧ (¬ (x9 = 0) → (K x2))))) h))))))))))))) h)
set_option maxHeartbeats 4000000 in
theorem a_X2_firstWishFor {sc : Nat × (Nat → Int32)} {goal : XO → XH → Prop} {fs : List XF} {h : XH} (p0 : Int) {K : Int → Prop} (hd : fs.length + 2 ≤ 1000) (rp0 : rg p0) (w : w_X2_firstWishFor p0 K h) (t0 : HT h) (k : ∀ (r : Int), rg r → K r → XFin xP sc goal fs (.inl (some (.int (J r)))) h) : RR sc goal fs 348 0 [some (rv 79), some (.int (J p0)), none, none] [] h := by
  unfold w_X2_firstWishFor at w
  refine r_aldn (pc1 := 1) rfl rfl rfl ?_
  refine r_gfC (pc1 := 4) (q := 8) rfl rfl rfl t0 (lyk t0 rfl) rfl rfl (lyR t0 rfl rfl) ?_
  refine r_iv rfl rfl rfl rfl rfl rfl t0 (lyk t0 rfl) rfl (xe_of (xa_r xa_0) rfl rfl) (r_d0 hd rfl) (a_X11_atHand  (r_d1 hd rfl)  w t0 (fun a1 w => ?_))
  refine r_fR (pc1 := 7) rfl ?_
  refine r_astn (pc1 := 8) (ls1 := [some (rv 79), some (.int (J p0)), some (rv a1), none]) rfl rfl rfl rfl ?_
  refine r_n (pc1 := 9) [.int (J 0)] _ rfl rfl ?_
  refine r_istn (pc1 := 10) (ls1 := [some (rv 79), some (.int (J p0)), some (rv a1), some (.int (J 0))]) rfl rfl rfl (xput1_rv rfl rfl) ?_
  obtain ⟨I3, m3, w, y3⟩ := w
  have Q3 : ∀ (n : Nat)  (x2 : Int), rg x2 → m3 x2 < n → I3 x2 → RR sc goal fs 348 10 [some (rv 79), some (.int (J p0)), some (rv a1), some (.int (J x2))] [] h := by
    intro n
    induction n with
    | zero => intro x2 rx2 q3 _; exact absurd q3 (Nat.not_lt_zero _)
    | succ n ih3 =>
      intro x2 rx2 q3 z3
      have w := y3 x2 rx2 z3
      refine r_n (pc1 := 11) [.int (J x2)] _ rfl rfl ?_
      refine r_aldn (pc1 := 12) rfl rfl rfl ?_
      obtain ⟨c4, w⟩ := w
      refine r_gfI (pc1 := 15) rfl rfl rfl t0 c4 rfl rfl ?_
      obtain ⟨J5, j5, w⟩ := w
      have Q5 : J5 → RR sc goal fs 348 56 [some (rv 79), some (.int (J p0)), some (rv a1), some (.int (J x2))] [] h := by
        intro z5
        have w := j5 z5
        refine r_n (pc1 := 57) [.int (J (-1))] _ rfl rfl ?_
        exact r_retI rfl rfl rfl (k _ (rgk rfl) w)
      refine r_ic (t := 56) (pc1 := 18) rfl rfl rfl rx2 (rgh _ _ _) (fun c13 => ?_) (fun c13 => ?_)
      · have w := w.1 c13
        exact Q5     w
      · have w := w.2 c13
        refine r_n (pc1 := 19) [.int (J p0)] _ rfl rfl ?_
        refine r_n (pc1 := 20) [.int (J (-1)), .int (J p0)] _ rfl rfl ?_
        refine r_ic (t := 56) (pc1 := 23) rfl rfl rfl rp0 (rgk rfl) (fun c12 => ?_) (fun c12 => ?_)
        · have w := w.1 c12
          exact Q5     w
        · have w := w.2 c12
          refine r_aldn (pc1 := 24) rfl rfl rfl ?_
          refine r_gfC (pc1 := 27) (q := (a1 + 1)) rfl rfl rfl t0 c4 rfl rfl (lyr_7_1 t0 c4) ?_
          refine r_n (pc1 := 28) [.int (J x2), rv (a1 + 1)] _ rfl rfl ?_
          obtain ⟨c6, w⟩ := w
          refine r_aal (pc1 := 29) (u := 3) rfl rfl t0 (lyo_7_1 t0 c4).1 rfl rfl rx2 c6.1 (lt_len (lyo_7_1 t0 c4).2 c6.2) ?_
          obtain ⟨J7, j7, w⟩ := w
          have Q7 : J7 → RR sc goal fs 348 50 [some (rv 79), some (.int (J p0)), some (rv a1), some (.int (J x2))] [] h := by
            intro z7
            have w := j7 z7
            refine r_inc (pc1 := 53) (g := fun zz => [some (rv 79), some (.int (J p0)), some (rv a1), some (.int (J zz))]) rfl rfl rfl rfl (fun _ => xput1_rv rfl rfl) (fun x8 ex8 rx8 => ?_)
            have w := w x8 ex8 rx8
            refine r_goto (t := 10) rfl rfl ?_
            exact ih3  x8  rx8 (Nat.lt_of_lt_of_le w.2 (Nat.le_of_lt_succ q3)) w.1
          refine r_null (t := 50) (pc1 := 32) rfl rfl rfl (fun c11 => ?_) (fun c11 => ?_)
          · have w := w.1 c11
            exact Q7     w
          · have w := w.2 c11
            refine r_aldn (pc1 := 33) rfl rfl rfl ?_
            refine r_gfC (pc1 := 36) (q := 44) rfl rfl rfl t0 (lyk t0 rfl) rfl rfl (lyR t0 rfl rfl) ?_
            refine r_gfC (pc1 := 39) (q := 49) rfl rfl rfl t0 (lyk t0 rfl) rfl rfl (lyR t0 rfl rfl) ?_
            refine r_n (pc1 := 40) [.int (J x2), rv 49] _ rfl rfl ?_
            refine r_lal (pc1 := 41) rfl rfl t0 (lyk t0 rfl) rx2 c6.1 (lt_len (lyn t0 rfl) c6.2) ?_
            refine r_n (pc1 := 42) [.int (J p0), .long (G (hL h 49 x2.toNat))] _ rfl rfl ?_
            refine r_iq rfl rfl rfl rfl rfl rfl (xe_of (xa_l (xa_i xa_0)) rfl rfl) (r_d0 hd rfl) (a_X12_has (hL h 49 x2.toNat) p0 (r_d1 hd rfl) rp0 w t0 (fun x9 rx9 vx9 w => ?_))
            refine r_fI (pc1 := 45) rfl ?_
            have w := w rx9 vx9
            refine r_iz (t := 50) (pc1 := 48) rfl rfl rfl rx9 (fun c10 => ?_) (fun c10 => ?_)
            · have w := w.1 c10
              exact Q7     w
            · have w := w.2 c10
              refine r_n (pc1 := 49) [.int (J x2)] _ rfl rfl ?_
              exact r_retI rfl rfl rfl (k _ rx2 w)
  exact Q3 _  0  (rgk rfl) (Nat.lt_succ_self _) w
def w_X12_switchOf (p0 : Int) (K : BitVec 64 → Prop) (h : XH) : Prop :=
  (K (lshl (1#64) (wr (40 + p0))))
set_option maxHeartbeats 4000000 in
theorem a_X12_switchOf {sc : Nat × (Nat → Int32)} {goal : XO → XH → Prop} {fs : List XF} {h : XH} (p0 : Int) {K : BitVec 64 → Prop} (hd : fs.length + 0 ≤ 1000) (rp0 : rg p0) (w : w_X12_switchOf p0 K h) (t0 : HT h) (k : ∀ (r : BitVec 64), K r → XFin xP sc goal fs (.inl (some (.long (G r)))) h) : RR sc goal fs 153 0 [some (.int (J p0))] [] h := by
  unfold w_X12_switchOf at w
  refine r_n (pc1 := 1) [.long (G (1#64))] _ rfl rfl ?_
  refine r_n (pc1 := 3) [.int (J 40), .long (G (1#64))] _ rfl rfl ?_
  refine r_n (pc1 := 4) [.int (J p0), .int (J 40), .long (G (1#64))] _ rfl rfl ?_
  refine r_iadd (pc1 := 5) rfl rfl ?_
  refine r_lshl (pc1 := 6) rfl rfl ?_
  exact r_retL rfl rfl rfl (k _ w)
def w_X3_isOptionOn (p0 : Int) (p1 : BitVec 64) (K : Int → Prop) (h : XH) : Prop :=
  ((0 ≤ p0 ∧ p0 < 40) ∧ ∃ J3 : Int → Prop, (∀ (x2 : Int), rg x2 → J3 x2 → ((x2 = 0 ∨ x2 = 1) ∧ K x2)) ∧ ∃ J5 : Prop, (J5 → (J3 0)) ∧ ((hR h 26 p0.toNat = 0 → J5) ∧ (¬ (hR h 26 p0.toNat = 0) → (w_X12_switchOf (hI h 13 p0.toNat) (fun b6 => (((p1 &&& b6 = (0#64) → J5) ∧ (¬ (p1 &&& b6 = (0#64)) → (J3 1))))) h))))
set_option maxHeartbeats 4000000 in
theorem a_X3_isOptionOn {sc : Nat × (Nat → Int32)} {goal : XO → XH → Prop} {fs : List XF} {h : XH} (p0 : Int) (p1 : BitVec 64) {K : Int → Prop} (hd : fs.length + 1 ≤ 1000) (rp0 : rg p0) (w : w_X3_isOptionOn p0 p1 K h) (t0 : HT h) (k : ∀ (r : Int), rg r → (r = 0 ∨ r = 1) → K r → XFin xP sc goal fs (.inl (some (.int (J r)))) h) : RR sc goal fs 369 0 [some (rv 44), some (.int (J p0)), some (.long (G p1)), none] [] h := by
  unfold w_X3_isOptionOn at w
  refine r_aldn (pc1 := 1) rfl rfl rfl ?_
  refine r_gfC (pc1 := 4) (q := 9) rfl rfl rfl t0 (lyk t0 rfl) rfl rfl (lyR t0 rfl rfl) ?_
  refine r_gfC (pc1 := 7) (q := 26) rfl rfl rfl t0 (lyk t0 rfl) rfl rfl (lyR t0 rfl rfl) ?_
  refine r_n (pc1 := 8) [.int (J p0), rv 26] _ rfl rfl ?_
  obtain ⟨c1, w⟩ := w
  refine r_aal (pc1 := 9) (u := 3) rfl rfl t0 (lyk t0 rfl) rfl rfl rp0 c1.1 (lt_len (lyn t0 rfl) c1.2) ?_
  obtain ⟨J3, j3, w⟩ := w
  have Q3 : ∀ (x2 : Int), rg x2 → J3 x2 → RR sc goal fs 369 36 [some (rv 44), some (.int (J p0)), some (.long (G p1)), none] [.int (J x2)] h := by
    intro x2 rx2 z3
    have w := j3 x2 rx2 z3
    obtain ⟨c4, w⟩ := w
    exact r_retB rfl rfl rfl c4 (k _ rx2 c4 w)
  obtain ⟨J5, j5, w⟩ := w
  have Q5 : J5 → RR sc goal fs 369 35 [some (rv 44), some (.int (J p0)), some (.long (G p1)), none] [] h := by
    intro z5
    have w := j5 z5
    refine r_n (pc1 := 36) [.int (J 0)] _ rfl rfl ?_
    exact Q3  0  (rgk rfl) w
  refine r_null (t := 35) (pc1 := 12) rfl rfl rfl (fun c8 => ?_) (fun c8 => ?_)
  · have w := w.1 c8
    exact Q5     w
  · have w := w.2 c8
    refine r_n (pc1 := 13) [.long (G p1)] _ rfl rfl ?_
    refine r_aldn (pc1 := 14) rfl rfl rfl ?_
    refine r_gfC (pc1 := 17) (q := 9) rfl rfl rfl t0 (lyk t0 rfl) rfl rfl (lyR t0 rfl rfl) ?_
    refine r_gfC (pc1 := 20) (q := 13) rfl rfl rfl t0 (lyk t0 rfl) rfl rfl (lyR t0 rfl rfl) ?_
    refine r_n (pc1 := 21) [.int (J p0), rv 13, .long (G p1)] _ rfl rfl ?_
    refine r_ial (pc1 := 22) rfl rfl t0 (lyk t0 rfl) rp0 c1.1 (lt_len (lyn t0 rfl) c1.2) ?_
    refine r_iq rfl rfl rfl rfl rfl rfl (xe_of (xa_i xa_0) rfl rfl) (r_d0 hd rfl) (a_X12_switchOf (hI h 13 p0.toNat) (r_d1 hd rfl) (rgh _ _ _) w t0 (fun b6 w => ?_))
    refine r_fL (pc1 := 25) rfl ?_
    refine r_land (pc1 := 26) rfl rfl ?_
    refine r_n (pc1 := 27) [.long (G (0#64)), .long (G (p1 &&& b6))] _ rfl rfl ?_
    refine r_lc (pc2 := 28) (t := 35) (pc1 := 31) rfl rfl rfl rfl rfl (fun c7 => ?_) (fun c7 => ?_)
    · have w := w.1 c7
      exact Q5     w
    · have w := w.2 c7
      refine r_n (pc1 := 32) [.int (J 1)] _ rfl rfl ?_
      refine r_goto (t := 36) rfl rfl ?_
      exact Q3  1  (rgk rfl) w
def w_X2_packsWith (p0 : BitVec 64) (K : Int → Prop) (h : XH) : Prop :=
  ((∃ (I3 : Int → Int → Prop) (m3 : Int → Int → Nat), I3 0 0 ∧ ∀ (x1 : Int) (x2 : Int), rg x1 → rg x2 → I3 x1 x2 → (((hI h 9 1 ≤ x2 → (K x1)) ∧ (¬ (hI h 9 1 ≤ x2) → (w_X12_has p0 x2 (fun x4 => rg x4 → (x4 = 0 ∨ x4 = 1) → (∃ J6 : Int → Prop, (∀ (x5 : Int), rg x5 → J6 x5 → (∀ x7 : Int, x7 = ior x1 x5 → rg x7 → ∀ x8 : Int, x8 = wr (x2 + 1) → rg x8 → (I3 x7 x8 ∧ m3 x7 x8 < m3 x1 x2))) ∧ ((x4 = 0 → (J6 0)) ∧ (¬ (x4 = 0) → ((0 ≤ x2 ∧ x2 < 40) ∧ J6 (ishl 1 (hI h 13 x2.toNat))))))) h))))))
set_option maxHeartbeats 4000000 in
theorem a_X2_packsWith {sc : Nat × (Nat → Int32)} {goal : XO → XH → Prop} {fs : List XF} {h : XH} (p0 : BitVec 64) {K : Int → Prop} (hd : fs.length + 1 ≤ 1000) (w : w_X2_packsWith p0 K h) (t0 : HT h) (k : ∀ (r : Int), rg r → K r → XFin xP sc goal fs (.inl (some (.int (J r)))) h) : RR sc goal fs 356 0 [some (rv 79), some (.long (G p0)), none, none, none] [] h := by
  unfold w_X2_packsWith at w
  refine r_n (pc1 := 1) [.int (J 0)] _ rfl rfl ?_
  refine r_istn (pc1 := 2) (ls1 := [some (rv 79), some (.long (G p0)), none, some (.int (J 0)), none]) rfl rfl rfl rfl ?_
  refine r_n (pc1 := 3) [.int (J 0)] _ rfl rfl ?_
  refine r_ist (pc1 := 5) (ls1 := [some (rv 79), some (.long (G p0)), none, some (.int (J 0)), some (.int (J 0))]) rfl rfl rfl rfl ?_
  obtain ⟨I3, m3, w, y3⟩ := w
  have Q3 : ∀ (n : Nat)  (x1 : Int) (x2 : Int), rg x1 → rg x2 → m3 x1 x2 < n → I3 x1 x2 → RR sc goal fs 356 5 [some (rv 79), some (.long (G p0)), none, some (.int (J x1)), some (.int (J x2))] [] h := by
    intro n
    induction n with
    | zero => intro x1 x2 rx1 rx2 q3 _; exact absurd q3 (Nat.not_lt_zero _)
    | succ n ih3 =>
      intro x1 x2 rx1 rx2 q3 z3
      have w := y3 x1 x2 rx1 rx2 z3
      refine r_n (pc1 := 7) [.int (J x2)] _ rfl rfl ?_
      refine r_aldn (pc1 := 8) rfl rfl rfl ?_
      refine r_gfC (pc1 := 11) (q := 9) rfl rfl rfl t0 (lyk t0 rfl) rfl rfl (lyR t0 rfl rfl) ?_
      refine r_gfI (pc1 := 14) rfl rfl rfl t0 (lyk t0 rfl) rfl rfl ?_
      refine r_ic (t := 51) (pc1 := 17) rfl rfl rfl rx2 (rgh _ _ _) (fun c11 => ?_) (fun c11 => ?_)
      · have w := w.1 c11
        refine r_n (pc1 := 52) [.int (J x1)] _ rfl rfl ?_
        exact r_retI rfl rfl rfl (k _ rx1 w)
      · have w := w.2 c11
        refine r_n (pc1 := 18) [.int (J x1)] _ rfl rfl ?_
        refine r_n (pc1 := 19) [.long (G p0), .int (J x1)] _ rfl rfl ?_
        refine r_n (pc1 := 21) [.int (J x2), .long (G p0), .int (J x1)] _ rfl rfl ?_
        refine r_iq rfl rfl rfl rfl rfl rfl (xe_of (xa_l (xa_i xa_0)) rfl rfl) (r_d0 hd rfl) (a_X12_has p0 x2 (r_d1 hd rfl) rx2 w t0 (fun x4 rx4 vx4 w => ?_))
        refine r_fI (pc1 := 24) rfl ?_
        have w := w rx4 vx4
        obtain ⟨J6, j6, w⟩ := w
        have Q6 : ∀ (x5 : Int), rg x5 → J6 x5 → RR sc goal fs 356 43 [some (rv 79), some (.long (G p0)), none, some (.int (J x1)), some (.int (J x2))] [.int (J x5), .int (J x1)] h := by
          intro x5 rx5 z6
          have w := j6 x5 rx5 z6
          refine r_ior (pc1 := 44) rfl rfl ?_
          refine r_vI (rgt _) (fun x7 ex7 rx7 => ?_)
          have w := w x7 ex7 rx7
          refine r_istn (pc1 := 45) (ls1 := [some (rv 79), some (.long (G p0)), none, some (.int (J x7)), some (.int (J x2))]) rfl rfl rfl rfl ?_
          refine r_inc (pc1 := 48) (g := fun zz => [some (rv 79), some (.long (G p0)), none, some (.int (J x7)), some (.int (J zz))]) rfl rfl rfl rfl (fun _ => rfl) (fun x8 ex8 rx8 => ?_)
          have w := w x8 ex8 rx8
          refine r_goto (t := 5) rfl rfl ?_
          exact ih3  x7 x8  rx7 rx8 (Nat.lt_of_lt_of_le w.2 (Nat.le_of_lt_succ q3)) w.1
        refine r_iz (t := 42) (pc1 := 27) rfl rfl rfl rx4 (fun c10 => ?_) (fun c10 => ?_)
        · have w := w.1 c10
          refine r_n (pc1 := 43) [.int (J 0), .int (J x1)] _ rfl rfl ?_
          exact Q6  0  (rgk rfl) w
        · have w := w.2 c10
          refine r_n (pc1 := 28) [.int (J 1), .int (J x1)] _ rfl rfl ?_
          refine r_aldn (pc1 := 29) rfl rfl rfl ?_
          refine r_gfC (pc1 := 32) (q := 9) rfl rfl rfl t0 (lyk t0 rfl) rfl rfl (lyR t0 rfl rfl) ?_
          refine r_gfC (pc1 := 35) (q := 13) rfl rfl rfl t0 (lyk t0 rfl) rfl rfl (lyR t0 rfl rfl) ?_
          refine r_n (pc1 := 37) [.int (J x2), rv 13, .int (J 1), .int (J x1)] _ rfl rfl ?_
          obtain ⟨c9, w⟩ := w
          refine r_ial (pc1 := 38) rfl rfl t0 (lyk t0 rfl) rx2 c9.1 (lt_len (lyn t0 rfl) c9.2) ?_
          refine r_ishl (pc1 := 39) rfl rfl ?_
          refine r_goto (t := 43) rfl rfl ?_
          exact Q6  (ishl 1 (hI h 13 x2.toNat))  (rgt _) w
  exact Q3 _  0 0  (rgk rfl) (rgk rfl) (Nat.lt_succ_self _) w
def w_X2_reachFrom (p0 : Int) (p1 : BitVec 64) (p2 : Int) (K : XH → Prop) (h : XH) : Prop :=
  (w_X8_idIn p1 p0 (fun x1 => rg x1 → (((¬ x1 = (-1) → (w_X3_isOptionOn x1 p1 (fun x2 => rg x2 → (x2 = 0 ∨ x2 = 1) → (∃ J4 : BitVec 64 → Prop, (∀ (b3 : BitVec 64), J4 b3 → ((∃ (I7 : BitVec 64 → Int → Prop) (m7 : BitVec 64 → Int → Nat), I7 b3 0 ∧ ∀ (b5 : BitVec 64) (x6 : Int), rg x6 → I7 b5 x6 → ((0 ≤ x1 ∧ x1 < 40) ∧ ((hI h 18 x1.toNat ≤ x6 → (w_X2_packsWith (b5 &&& p1) (fun x9 => rg x9 → ((∃ (I12 : Int → XH → Prop) (m12 : Int → XH → Nat), I12 0 h ∧ ∀ (x10 : Int) (h11 : XH), HT h11 → HX h h11 → rg x10 → I12 x10 h11 → (((hI h11 9 0 ≤ x10 → (K h11)) ∧ (¬ (hI h11 9 0 ≤ x10) → (∃ J14 : XH → Prop, (∀ (h13 : XH), HT h13 → HX h h13 → J14 h13 → (∀ x15 : Int, x15 = wr (x10 + 1) → rg x15 → (I12 x15 h13 ∧ m12 x15 h13 < m12 x10 h11))) ∧ ((iand (ishr x9 x10) 1 = 0 → J14 h11) ∧ (¬ (iand (ishr x9 x10) 1 = 0) → ((0 ≤ x10 ∧ x10 < 12) ∧ ((¬ hI h11 84 x10.toNat = (-1) → J14 h11) ∧ (¬ (¬ hI h11 84 x10.toNat = (-1)) → (∀ h17 : XH, h17 = sI h11 83 x10.toNat p0 → HT h17 → HX h11 h17 → ∀ h18 : XH, h18 = sI h17 84 x10.toNat (wr (p2 + 1)) → HT h18 → HX h17 h18 → J14 h18))))))))))))) h)) ∧ (¬ (hI h 18 x1.toNat ≤ x6) → (∀ x22 : Int, x22 = wr ((wr (x1 * 3)) + x6) → rg x22 → (0 ≤ x22 ∧ x22 < 120) ∧ ∀ b24 : BitVec 64, b24 = b5 ||| (hL h 45 x22.toNat) → ∀ x25 : Int, x25 = wr (x6 + 1) → rg x25 → (I7 b24 x25 ∧ m7 b24 x25 < m7 b5 x6)))))))) ∧ ((x2 = 0 → (J4 (0#64))) ∧ (¬ (x2 = 0) → ((0 ≤ x1 ∧ x1 < 40) ∧ J4 (hL h 47 x1.toNat)))))) h)) ∧ (¬ (¬ x1 = (-1)) → (K h))))) h)
set_option maxHeartbeats 4000000 in
theorem a_X2_reachFrom {sc : Nat × (Nat → Int32)} {goal : XO → XH → Prop} {fs : List XF} {h : XH} (p0 : Int) (p1 : BitVec 64) (p2 : Int) {K : XH → Prop} (hd : fs.length + 2 ≤ 1000) (rp0 : rg p0) (rp2 : rg p2) (w : w_X2_reachFrom p0 p1 p2 K h) (t0 : HT h) (k : ∀ (h1 : XH), HT h1 → HX h h1 → K h1 → XFin xP sc goal fs (.inl none) h1) : RR sc goal fs 358 0 [some (rv 79), some (.int (J p0)), some (.long (G p1)), none, some (.int (J p2)), none, none, none, none, none] [] h := by
  unfold w_X2_reachFrom at w
  refine r_aldn (pc1 := 1) rfl rfl rfl ?_
  refine r_gfC (pc1 := 4) (q := 9) rfl rfl rfl t0 (lyk t0 rfl) rfl rfl (lyR t0 rfl rfl) ?_
  refine r_n (pc1 := 5) [.long (G p1), rv 9] _ rfl rfl ?_
  refine r_n (pc1 := 6) [.int (J p0), .long (G p1), rv 9] _ rfl rfl ?_
  refine r_iv rfl rfl rfl rfl rfl rfl t0 (lyk t0 rfl) rfl (xe_of (xa_r (xa_l (xa_i xa_0))) rfl rfl) (r_d0 hd rfl) (a_X8_idIn p1 p0 (r_d1 hd rfl) rp0 w t0 (fun x1 rx1 w => ?_))
  refine r_fI (pc1 := 9) rfl ?_
  have w := w rx1
  refine r_ist (pc1 := 11) (ls1 := [some (rv 79), some (.int (J p0)), some (.long (G p1)), none, some (.int (J p2)), some (.int (J x1)), none, none, none, none]) rfl rfl rfl rfl ?_
  refine r_n (pc1 := 13) [.int (J x1)] _ rfl rfl ?_
  refine r_n (pc1 := 14) [.int (J (-1)), .int (J x1)] _ rfl rfl ?_
  refine r_ic (t := 18) (pc1 := 17) rfl rfl rfl rx1 (rgk rfl) (fun c29 => ?_) (fun c29 => ?_)
  · have w := w.1 c29
    refine r_aldn (pc1 := 19) rfl rfl rfl ?_
    refine r_gfC (pc1 := 22) (q := 44) rfl rfl rfl t0 (lyk t0 rfl) rfl rfl (lyR t0 rfl rfl) ?_
    refine r_n (pc1 := 24) [.int (J x1), rv 44] _ rfl rfl ?_
    refine r_n (pc1 := 25) [.long (G p1), .int (J x1), rv 44] _ rfl rfl ?_
    refine r_iv rfl rfl rfl rfl rfl rfl t0 (lyk t0 rfl) rfl (xe_of (xa_r (xa_i (xa_l xa_0))) rfl rfl) (r_d0 hd rfl) (a_X3_isOptionOn x1 p1 (r_d1 hd rfl) rx1 w t0 (fun x2 rx2 vx2 w => ?_))
    refine r_fI (pc1 := 28) rfl ?_
    have w := w rx2 vx2
    obtain ⟨J4, j4, w⟩ := w
    have Q4 : ∀ (b3 : BitVec 64), J4 b3 → RR sc goal fs 358 45 [some (rv 79), some (.int (J p0)), some (.long (G p1)), none, some (.int (J p2)), some (.int (J x1)), none, none, none, none] [.long (G b3)] h := by
      intro b3 z4
      have w := j4 b3 z4
      refine r_lst (pc1 := 47) (ls1 := [some (rv 79), some (.int (J p0)), some (.long (G p1)), none, some (.int (J p2)), some (.int (J x1)), some (.long (G b3)), none, none, none]) rfl rfl rfl rfl ?_
      refine r_n (pc1 := 48) [.int (J 0)] _ rfl rfl ?_
      refine r_ist (pc1 := 50) (ls1 := [some (rv 79), some (.int (J p0)), some (.long (G p1)), none, some (.int (J p2)), some (.int (J x1)), some (.long (G b3)), none, some (.int (J 0)), none]) rfl rfl rfl rfl ?_
      obtain ⟨I7, m7, w, y7⟩ := w
      have Q7 : ∀ (n : Nat)  (b5 : BitVec 64) (x6 : Int), rg x6 → m7 b5 x6 < n → I7 b5 x6 → RR sc goal fs 358 50 [some (rv 79), some (.int (J p0)), some (.long (G p1)), none, some (.int (J p2)), some (.int (J x1)), some (.long (G b5)), none, some (.int (J x6)), none] [] h := by
        intro n
        induction n with
        | zero => intro b5 x6 rx6 q7 _; exact absurd q7 (Nat.not_lt_zero _)
        | succ n ih7 =>
          intro b5 x6 rx6 q7 z7
          have w := y7 b5 x6 rx6 z7
          refine r_n (pc1 := 52) [.int (J x6)] _ rfl rfl ?_
          refine r_aldn (pc1 := 53) rfl rfl rfl ?_
          refine r_gfC (pc1 := 56) (q := 9) rfl rfl rfl t0 (lyk t0 rfl) rfl rfl (lyR t0 rfl rfl) ?_
          refine r_gfC (pc1 := 59) (q := 18) rfl rfl rfl t0 (lyk t0 rfl) rfl rfl (lyR t0 rfl rfl) ?_
          refine r_n (pc1 := 61) [.int (J x1), rv 18, .int (J x6)] _ rfl rfl ?_
          obtain ⟨c8, w⟩ := w
          refine r_ial (pc1 := 62) rfl rfl t0 (lyk t0 rfl) rx1 c8.1 (lt_len (lyn t0 rfl) c8.2) ?_
          refine r_ic (t := 91) (pc1 := 65) rfl rfl rfl rx6 (rgh _ _ _) (fun c26 => ?_) (fun c26 => ?_)
          · have w := w.1 c26
            refine r_aldn (pc1 := 92) rfl rfl rfl ?_
            refine r_n (pc1 := 94) [.long (G b5), rv 79] _ rfl rfl ?_
            refine r_n (pc1 := 95) [.long (G p1), .long (G b5), rv 79] _ rfl rfl ?_
            refine r_land (pc1 := 96) rfl rfl ?_
            refine r_iv rfl rfl rfl rfl rfl rfl t0 (lyk t0 rfl) rfl (xe_of (xa_r (xa_l xa_0)) rfl rfl) (r_d0 hd rfl) (a_X2_packsWith (b5 &&& p1) (r_d1 hd rfl)  w t0 (fun x9 rx9 w => ?_))
            refine r_fI (pc1 := 99) rfl ?_
            have w := w rx9
            refine r_ist (pc1 := 101) (ls1 := [some (rv 79), some (.int (J p0)), some (.long (G p1)), none, some (.int (J p2)), some (.int (J x1)), some (.long (G b5)), none, some (.int (J x9)), none]) rfl rfl rfl rfl ?_
            refine r_n (pc1 := 102) [.int (J 0)] _ rfl rfl ?_
            refine r_ist (pc1 := 104) (ls1 := [some (rv 79), some (.int (J p0)), some (.long (G p1)), none, some (.int (J p2)), some (.int (J x1)), some (.long (G b5)), none, some (.int (J x9)), some (.int (J 0))]) rfl rfl rfl rfl ?_
            obtain ⟨I12, m12, w, y12⟩ := w
            have Q12 : ∀ (n : Nat)  (x10 : Int) (h11 : XH), HT h11 → HX h h11 → rg x10 → m12 x10 h11 < n → I12 x10 h11 → RR sc goal fs 358 104 [some (rv 79), some (.int (J p0)), some (.long (G p1)), none, some (.int (J p2)), some (.int (J x1)), some (.long (G b5)), none, some (.int (J x9)), some (.int (J x10))] [] h11 := by
              intro n
              induction n with
              | zero => intro x10 h11 t11 s11 rx10 q12 _; exact absurd q12 (Nat.not_lt_zero _)
              | succ n ih12 =>
                intro x10 h11 t11 s11 rx10 q12 z12
                have w := y12 x10 h11 t11 s11 rx10 z12
                refine r_n (pc1 := 106) [.int (J x10)] _ rfl rfl ?_
                refine r_aldn (pc1 := 107) rfl rfl rfl ?_
                refine r_gfC (pc1 := 110) (q := 9) rfl rfl rfl t11 (lyk t11 rfl) rfl rfl (lyR t11 rfl rfl) ?_
                refine r_gfI (pc1 := 113) rfl rfl rfl t11 (lyk t11 rfl) rfl rfl ?_
                refine r_ic (t := 162) (pc1 := 116) rfl rfl rfl rx10 (rgh _ _ _) (fun c21 => ?_) (fun c21 => ?_)
                · have w := w.1 c21
                  exact r_retV rfl rfl rfl (k _ t11 s11 w)
                · have w := w.2 c21
                  refine r_n (pc1 := 118) [.int (J x9)] _ rfl rfl ?_
                  refine r_n (pc1 := 120) [.int (J x10), .int (J x9)] _ rfl rfl ?_
                  refine r_ishr (pc1 := 121) rfl rfl ?_
                  refine r_n (pc1 := 122) [.int (J 1), .int (J (ishr x9 x10))] _ rfl rfl ?_
                  refine r_iand (pc1 := 123) rfl rfl ?_
                  obtain ⟨J14, j14, w⟩ := w
                  have Q14 : ∀ (h13 : XH), HT h13 → HX h h13 → J14 h13 → RR sc goal fs 358 156 [some (rv 79), some (.int (J p0)), some (.long (G p1)), none, some (.int (J p2)), some (.int (J x1)), some (.long (G b5)), none, some (.int (J x9)), some (.int (J x10))] [] h13 := by
                    intro h13 t13 s13 z14
                    have w := j14 h13 t13 s13 z14
                    refine r_inc (pc1 := 159) (g := fun zz => [some (rv 79), some (.int (J p0)), some (.long (G p1)), none, some (.int (J p2)), some (.int (J x1)), some (.long (G b5)), none, some (.int (J x9)), some (.int (J zz))]) rfl rfl rfl rfl (fun _ => rfl) (fun x15 ex15 rx15 => ?_)
                    have w := w x15 ex15 rx15
                    refine r_goto (t := 104) rfl rfl ?_
                    exact ih12  x15 h13 t13 s13 rx15 (Nat.lt_of_lt_of_le w.2 (Nat.le_of_lt_succ q12)) w.1
                  refine r_iz (t := 156) (pc1 := 126) rfl rfl rfl (rgt _) (fun c20 => ?_) (fun c20 => ?_)
                  · have w := w.1 c20
                    exact Q14   h11 t11 s11  w
                  · have w := w.2 c20
                    refine r_aldn (pc1 := 127) rfl rfl rfl ?_
                    refine r_gfC (pc1 := 130) (q := 84) rfl rfl rfl t11 (lyk t11 rfl) rfl rfl (lyR t11 rfl rfl) ?_
                    refine r_n (pc1 := 132) [.int (J x10), rv 84] _ rfl rfl ?_
                    obtain ⟨c16, w⟩ := w
                    refine r_ial (pc1 := 133) rfl rfl t11 (lyk t11 rfl) rx10 c16.1 (lt_len (lyn t11 rfl) c16.2) ?_
                    refine r_n (pc1 := 134) [.int (J (-1)), .int (J (hI h11 84 x10.toNat))] _ rfl rfl ?_
                    refine r_ic (t := 156) (pc1 := 137) rfl rfl rfl (rgh _ _ _) (rgk rfl) (fun c19 => ?_) (fun c19 => ?_)
                    · have w := w.1 c19
                      exact Q14   h11 t11 s11  w
                    · have w := w.2 c19
                      refine r_aldn (pc1 := 138) rfl rfl rfl ?_
                      refine r_gfC (pc1 := 141) (q := 83) rfl rfl rfl t11 (lyk t11 rfl) rfl rfl (lyR t11 rfl rfl) ?_
                      refine r_n (pc1 := 143) [.int (J x10), rv 83] _ rfl rfl ?_
                      refine r_n (pc1 := 144) [.int (J p0), .int (J x10), rv 83] _ rfl rfl ?_
                      refine r_iast (pc1 := 145) rfl rfl t11 (lyk t11 rfl) rx10 c16.1 (lt_len (lyn t11 rfl) c16.2) (fun h17 eh17 t17 u17 => ?_)
                      have w := w h17 eh17 t17 u17
                      have s17 := HX_trans s11 u17
                      refine r_aldn (pc1 := 146) rfl rfl rfl ?_
                      refine r_gfC (pc1 := 149) (q := 84) rfl rfl rfl t17 (lyk t17 rfl) rfl rfl (lyR t17 rfl rfl) ?_
                      refine r_n (pc1 := 151) [.int (J x10), rv 84] _ rfl rfl ?_
                      refine r_n (pc1 := 153) [.int (J p2), .int (J x10), rv 84] _ rfl rfl ?_
                      refine r_n (pc1 := 154) [.int (J 1), .int (J p2), .int (J x10), rv 84] _ rfl rfl ?_
                      refine r_iadd (pc1 := 155) rfl rfl ?_
                      refine r_iast (pc1 := 156) rfl rfl t17 (lyk t17 rfl) rx10 c16.1 (lt_len (lyn t17 rfl) c16.2) (fun h18 eh18 t18 u18 => ?_)
                      have w := w h18 eh18 t18 u18
                      have s18 := HX_trans s17 u18
                      exact Q14   h18 t18 s18  w
            exact Q12 _  0 h t0 (HX_refl h) (rgk rfl) (Nat.lt_succ_self _) w
          · have w := w.2 c26
            refine r_n (pc1 := 67) [.long (G b5)] _ rfl rfl ?_
            refine r_aldn (pc1 := 68) rfl rfl rfl ?_
            refine r_gfC (pc1 := 71) (q := 44) rfl rfl rfl t0 (lyk t0 rfl) rfl rfl (lyR t0 rfl rfl) ?_
            refine r_gfC (pc1 := 74) (q := 45) rfl rfl rfl t0 (lyk t0 rfl) rfl rfl (lyR t0 rfl rfl) ?_
            refine r_n (pc1 := 76) [.int (J x1), rv 45, .long (G b5)] _ rfl rfl ?_
            refine r_n (pc1 := 77) [.int (J 3), .int (J x1), rv 45, .long (G b5)] _ rfl rfl ?_
            refine r_imul (pc1 := 78) rfl rfl ?_
            refine r_n (pc1 := 80) [.int (J x6), .int (J (wr (x1 * 3))), rv 45, .long (G b5)] _ rfl rfl ?_
            refine r_iadd (pc1 := 81) rfl rfl ?_
            refine r_vI (rgw _) (fun x22 ex22 rx22 => ?_)
            have w := w x22 ex22 rx22
            obtain ⟨c23, w⟩ := w
            refine r_lal (pc1 := 82) rfl rfl t0 (lyk t0 rfl) rx22 c23.1 (lt_len (lyn t0 rfl) c23.2) ?_
            refine r_lor (pc1 := 83) rfl rfl ?_
            refine r_vL (fun b24 eb24 => ?_)
            have w := w b24 eb24
            refine r_lst (pc1 := 85) (ls1 := [some (rv 79), some (.int (J p0)), some (.long (G p1)), none, some (.int (J p2)), some (.int (J x1)), some (.long (G b24)), none, some (.int (J x6)), none]) rfl rfl rfl rfl ?_
            refine r_inc (pc1 := 88) (g := fun zz => [some (rv 79), some (.int (J p0)), some (.long (G p1)), none, some (.int (J p2)), some (.int (J x1)), some (.long (G b24)), none, some (.int (J zz)), none]) rfl rfl rfl rfl (fun _ => rfl) (fun x25 ex25 rx25 => ?_)
            have w := w x25 ex25 rx25
            refine r_goto (t := 50) rfl rfl ?_
            exact ih7  b24 x25  rx25 (Nat.lt_of_lt_of_le w.2 (Nat.le_of_lt_succ q7)) w.1
      exact Q7 _  b3 0  (rgk rfl) (Nat.lt_succ_self _) w
    refine r_iz (t := 44) (pc1 := 31) rfl rfl rfl rx2 (fun c28 => ?_) (fun c28 => ?_)
    · have w := w.1 c28
      refine r_n (pc1 := 45) [.long (G (0#64))] _ rfl rfl ?_
      exact Q4  (0#64)   w
    · have w := w.2 c28
      refine r_aldn (pc1 := 32) rfl rfl rfl ?_
      refine r_gfC (pc1 := 35) (q := 44) rfl rfl rfl t0 (lyk t0 rfl) rfl rfl (lyR t0 rfl rfl) ?_
      refine r_gfC (pc1 := 38) (q := 47) rfl rfl rfl t0 (lyk t0 rfl) rfl rfl (lyR t0 rfl rfl) ?_
      refine r_n (pc1 := 40) [.int (J x1), rv 47] _ rfl rfl ?_
      obtain ⟨c27, w⟩ := w
      refine r_lal (pc1 := 41) rfl rfl t0 (lyk t0 rfl) rx1 c27.1 (lt_len (lyn t0 rfl) c27.2) ?_
      refine r_goto (t := 45) rfl rfl ?_
      exact Q4  (hL h 47 x1.toNat)   w
  · have w := w.2 c29
    exact r_retV rfl rfl rfl (k _ t0 (HX_refl h) w)
def w_X2_reach (p0 : BitVec 64) (K : XH → Prop) (h : XH) : Prop :=
  (w_J7_fill_53178 83 (-1) (fun h1 => HT h1 → HX h h1 → (w_J7_fill_53178 84 (-1) (fun h2 => HT h2 → HX h1 h2 → ((∃ (I6 : Int → XH → Prop) (m6 : Int → XH → Nat), I6 0 h2 ∧ ∀ (x3 : Int) (h5 : XH), HT h5 → HX h h5 → rg x3 → I6 x3 h5 → (((hI h5 9 0 ≤ x3 → ((∃ (I10 : Int → XH → Prop) (m10 : Int → XH → Nat), I10 1 h5 ∧ ∀ (x7 : Int) (h9 : XH), HT h9 → HX h h9 → rg x7 → I10 x7 h9 → (((12 < x7 → (K h9)) ∧ (¬ (12 < x7) → ((∃ (I13 : Int → XH → Prop) (m13 : Int → XH → Nat), I13 0 h9 ∧ ∀ (x11 : Int) (h12 : XH), HT h12 → HX h h12 → rg x11 → I13 x11 h12 → (((hI h12 9 0 ≤ x11 → (∀ x14 : Int, x14 = wr (x7 + 1) → rg x14 → (I10 x14 h12 ∧ m10 x14 h12 < m10 x7 h9))) ∧ (¬ (hI h12 9 0 ≤ x11) → ((0 ≤ x11 ∧ x11 < 12) ∧ ∃ J17 : XH → Prop, (∀ (h16 : XH), HT h16 → HX h h16 → J17 h16 → (∀ x18 : Int, x18 = wr (x11 + 1) → rg x18 → (I13 x18 h16 ∧ m13 x18 h16 < m13 x11 h12))) ∧ ((¬ hI h12 84 x11.toNat = x7 → J17 h12) ∧ (¬ (¬ hI h12 84 x11.toNat = x7) → (w_X2_reachFrom x11 p0 x7 (fun h19 => HT h19 → HX h12 h19 → J17 h19) h12))))))))))))))) ∧ (¬ (hI h5 9 0 ≤ x3) → (w_X8_idIn p0 x3 (fun x23 => rg x23 → (w_X2_firstWishFor x23 (fun x24 => rg x24 → (∃ J26 : XH → Prop, (∀ (h25 : XH), HT h25 → HX h h25 → J26 h25 → (∀ x27 : Int, x27 = wr (x3 + 1) → rg x27 → (I6 x27 h25 ∧ m6 x27 h25 < m6 x3 h5))) ∧ ((x24 = (-1) → J26 h5) ∧ (¬ (x24 = (-1)) → ((0 ≤ x3 ∧ x3 < 12) ∧ ∀ h29 : XH, h29 = sI h5 83 x3.toNat (wr (100 + x24)) → HT h29 → HX h5 h29 → ∀ h30 : XH, h30 = sI h29 84 x3.toNat 1 → HT h30 → HX h29 h30 → J26 h30))))) h5)) h5))))))) h1)) h)
set_option maxHeartbeats 4000000 in
theorem a_X2_reach {sc : Nat × (Nat → Int32)} {goal : XO → XH → Prop} {fs : List XF} {h : XH} (p0 : BitVec 64) {K : XH → Prop} (hd : fs.length + 3 ≤ 1000) (w : w_X2_reach p0 K h) (t0 : HT h) (k : ∀ (h1 : XH), HT h1 → HX h h1 → K h1 → XFin xP sc goal fs (.inl none) h1) : RR sc goal fs 357 0 [some (rv 79), some (.long (G p0)), none, none, none] [] h := by
  unfold w_X2_reach at w
  refine r_aldn (pc1 := 1) rfl rfl rfl ?_
  refine r_gfC (pc1 := 4) (q := 83) rfl rfl rfl t0 (lyk t0 rfl) rfl rfl (lyR t0 rfl rfl) ?_
  refine r_n (pc1 := 5) [.int (J (-1)), rv 83] _ rfl rfl ?_
  refine r_iq rfl rfl rfl rfl rfl rfl (xe_of (xa_r (xa_i xa_0)) rfl rfl) (r_d0 hd rfl) (a_J7_fill_53178 83 (-1) (r_d1 hd rfl) (rgk rfl) w t0 (fun h1 t1 u1 w => ?_))
  refine r_fV (pc1 := 8) rfl ?_
  have s1 := HX_trans (HX_refl h) u1
  have w := w t1 u1
  refine r_aldn (pc1 := 9) rfl rfl rfl ?_
  refine r_gfC (pc1 := 12) (q := 84) rfl rfl rfl t1 (lyk t1 rfl) rfl rfl (lyR t1 rfl rfl) ?_
  refine r_n (pc1 := 13) [.int (J (-1)), rv 84] _ rfl rfl ?_
  refine r_iq rfl rfl rfl rfl rfl rfl (xe_of (xa_r (xa_i xa_0)) rfl rfl) (r_d0 hd rfl) (a_J7_fill_53178 84 (-1) (r_d1 hd rfl) (rgk rfl) w t1 (fun h2 t2 u2 w => ?_))
  refine r_fV (pc1 := 16) rfl ?_
  have s2 := HX_trans s1 u2
  have w := w t2 u2
  refine r_n (pc1 := 17) [.int (J 0)] _ rfl rfl ?_
  refine r_istn (pc1 := 18) (ls1 := [some (rv 79), some (.long (G p0)), none, some (.int (J 0)), none]) rfl rfl rfl rfl ?_
  obtain ⟨I6, m6, w, y6⟩ := w
  have Q6 : ∀ (n : Nat) (d4 : Option Value) (x3 : Int) (h5 : XH), HT h5 → HX h h5 → rg x3 → m6 x3 h5 < n → I6 x3 h5 → RR sc goal fs 357 18 [some (rv 79), some (.long (G p0)), none, some (.int (J x3)), d4] [] h5 := by
    intro n
    induction n with
    | zero => intro d4 x3 h5 t5 s5 rx3 q6 _; exact absurd q6 (Nat.not_lt_zero _)
    | succ n ih6 =>
      intro d4 x3 h5 t5 s5 rx3 q6 z6
      have w := y6 x3 h5 t5 s5 rx3 z6
      refine r_n (pc1 := 19) [.int (J x3)] _ rfl rfl ?_
      refine r_aldn (pc1 := 20) rfl rfl rfl ?_
      refine r_gfC (pc1 := 23) (q := 9) rfl rfl rfl t5 (lyk t5 rfl) rfl rfl (lyR t5 rfl rfl) ?_
      refine r_gfI (pc1 := 26) rfl rfl rfl t5 (lyk t5 rfl) rfl rfl ?_
      refine r_ic (t := 74) (pc1 := 29) rfl rfl rfl rx3 (rgh _ _ _) (fun c32 => ?_) (fun c32 => ?_)
      · have w := w.1 c32
        refine r_n (pc1 := 75) [.int (J 1)] _ rfl rfl ?_
        refine r_istn (pc1 := 76) (ls1 := [some (rv 79), some (.long (G p0)), none, some (.int (J 1)), d4]) rfl rfl rfl rfl ?_
        obtain ⟨I10, m10, w, y10⟩ := w
        have Q10 : ∀ (n : Nat) (d8 : Option Value) (x7 : Int) (h9 : XH), HT h9 → HX h h9 → rg x7 → m10 x7 h9 < n → I10 x7 h9 → RR sc goal fs 357 76 [some (rv 79), some (.long (G p0)), none, some (.int (J x7)), d8] [] h9 := by
          intro n
          induction n with
          | zero => intro d8 x7 h9 t9 s9 rx7 q10 _; exact absurd q10 (Nat.not_lt_zero _)
          | succ n ih10 =>
            intro d8 x7 h9 t9 s9 rx7 q10 z10
            have w := y10 x7 h9 t9 s9 rx7 z10
            refine r_n (pc1 := 77) [.int (J x7)] _ rfl rfl ?_
            refine r_n (pc1 := 79) [.int (J 12), .int (J x7)] _ rfl rfl ?_
            refine r_ic (t := 128) (pc1 := 82) rfl rfl rfl rx7 (rgk rfl) (fun c22 => ?_) (fun c22 => ?_)
            · have w := w.1 c22
              exact r_retV rfl rfl rfl (k _ t9 s9 w)
            · have w := w.2 c22
              refine r_n (pc1 := 83) [.int (J 0)] _ rfl rfl ?_
              refine r_ist (pc1 := 85) (ls1 := [some (rv 79), some (.long (G p0)), none, some (.int (J x7)), some (.int (J 0))]) rfl rfl rfl rfl ?_
              obtain ⟨I13, m13, w, y13⟩ := w
              have Q13 : ∀ (n : Nat)  (x11 : Int) (h12 : XH), HT h12 → HX h h12 → rg x11 → m13 x11 h12 < n → I13 x11 h12 → RR sc goal fs 357 85 [some (rv 79), some (.long (G p0)), none, some (.int (J x7)), some (.int (J x11))] [] h12 := by
                intro n
                induction n with
                | zero => intro x11 h12 t12 s12 rx11 q13 _; exact absurd q13 (Nat.not_lt_zero _)
                | succ n ih13 =>
                  intro x11 h12 t12 s12 rx11 q13 z13
                  have w := y13 x11 h12 t12 s12 rx11 z13
                  refine r_n (pc1 := 87) [.int (J x11)] _ rfl rfl ?_
                  refine r_aldn (pc1 := 88) rfl rfl rfl ?_
                  refine r_gfC (pc1 := 91) (q := 9) rfl rfl rfl t12 (lyk t12 rfl) rfl rfl (lyR t12 rfl rfl) ?_
                  refine r_gfI (pc1 := 94) rfl rfl rfl t12 (lyk t12 rfl) rfl rfl ?_
                  refine r_ic (t := 122) (pc1 := 97) rfl rfl rfl rx11 (rgh _ _ _) (fun c21 => ?_) (fun c21 => ?_)
                  · have w := w.1 c21
                    refine r_inc (pc1 := 125) (g := fun zz => [some (rv 79), some (.long (G p0)), none, some (.int (J zz)), some (.int (J x11))]) rfl rfl rfl rfl (fun _ => rfl) (fun x14 ex14 rx14 => ?_)
                    have w := w x14 ex14 rx14
                    refine r_goto (t := 76) rfl rfl ?_
                    exact ih10 _ x14 h12 t12 s12 rx14 (Nat.lt_of_lt_of_le w.2 (Nat.le_of_lt_succ q10)) w.1
                  · have w := w.2 c21
                    refine r_aldn (pc1 := 98) rfl rfl rfl ?_
                    refine r_gfC (pc1 := 101) (q := 84) rfl rfl rfl t12 (lyk t12 rfl) rfl rfl (lyR t12 rfl rfl) ?_
                    refine r_n (pc1 := 103) [.int (J x11), rv 84] _ rfl rfl ?_
                    obtain ⟨c15, w⟩ := w
                    refine r_ial (pc1 := 104) rfl rfl t12 (lyk t12 rfl) rx11 c15.1 (lt_len (lyn t12 rfl) c15.2) ?_
                    refine r_n (pc1 := 105) [.int (J x7), .int (J (hI h12 84 x11.toNat))] _ rfl rfl ?_
                    obtain ⟨J17, j17, w⟩ := w
                    have Q17 : ∀ (h16 : XH), HT h16 → HX h h16 → J17 h16 → RR sc goal fs 357 116 [some (rv 79), some (.long (G p0)), none, some (.int (J x7)), some (.int (J x11))] [] h16 := by
                      intro h16 t16 s16 z17
                      have w := j17 h16 t16 s16 z17
                      refine r_inc (pc1 := 119) (g := fun zz => [some (rv 79), some (.long (G p0)), none, some (.int (J x7)), some (.int (J zz))]) rfl rfl rfl rfl (fun _ => rfl) (fun x18 ex18 rx18 => ?_)
                      have w := w x18 ex18 rx18
                      refine r_goto (t := 85) rfl rfl ?_
                      exact ih13  x18 h16 t16 s16 rx18 (Nat.lt_of_lt_of_le w.2 (Nat.le_of_lt_succ q13)) w.1
                    refine r_ic (t := 116) (pc1 := 108) rfl rfl rfl (rgh _ _ _) rx7 (fun c20 => ?_) (fun c20 => ?_)
                    · have w := w.1 c20
                      exact Q17   h12 t12 s12  w
                    · have w := w.2 c20
                      refine r_aldn (pc1 := 109) rfl rfl rfl ?_
                      refine r_n (pc1 := 111) [.int (J x11), rv 79] _ rfl rfl ?_
                      refine r_n (pc1 := 112) [.long (G p0), .int (J x11), rv 79] _ rfl rfl ?_
                      refine r_n (pc1 := 113) [.int (J x7), .long (G p0), .int (J x11), rv 79] _ rfl rfl ?_
                      refine r_iv rfl rfl rfl rfl rfl rfl t12 (lyk t12 rfl) rfl (xe_of (xa_r (xa_i (xa_l (xa_i xa_0)))) rfl rfl) (r_d0 hd rfl) (a_X2_reachFrom x11 p0 x7 (r_d1 hd rfl) rx11 rx7 w t12 (fun h19 t19 u19 w => ?_))
                      refine r_fV (pc1 := 116) rfl ?_
                      have s19 := HX_trans s12 u19
                      have w := w t19 u19
                      exact Q17   h19 t19 s19  w
              exact Q13 _  0 h9 t9 s9 (rgk rfl) (Nat.lt_succ_self _) w
        exact Q10 _ _ 1 h5 t5 s5 (rgk rfl) (Nat.lt_succ_self _) w
      · have w := w.2 c32
        refine r_aldn (pc1 := 30) rfl rfl rfl ?_
        refine r_aldn (pc1 := 31) rfl rfl rfl ?_
        refine r_gfC (pc1 := 34) (q := 9) rfl rfl rfl t5 (lyk t5 rfl) rfl rfl (lyR t5 rfl rfl) ?_
        refine r_n (pc1 := 35) [.long (G p0), rv 9, rv 79] _ rfl rfl ?_
        refine r_n (pc1 := 36) [.int (J x3), .long (G p0), rv 9, rv 79] _ rfl rfl ?_
        refine r_iv rfl rfl rfl rfl rfl rfl t5 (lyk t5 rfl) rfl (xe_of (xa_r (xa_l (xa_i xa_0))) rfl rfl) (r_d0 hd rfl) (a_X8_idIn p0 x3 (r_d1 hd rfl) rx3 w t5 (fun x23 rx23 w => ?_))
        refine r_fI (pc1 := 39) rfl ?_
        have w := w rx23
        refine r_iv rfl rfl rfl rfl rfl rfl t5 (lyk t5 rfl) rfl (xe_of (xa_r (xa_i xa_0)) rfl rfl) (r_d0 hd rfl) (a_X2_firstWishFor x23 (r_d1 hd rfl) rx23 w t5 (fun x24 rx24 w => ?_))
        refine r_fI (pc1 := 42) rfl ?_
        have w := w rx24
        refine r_ist (pc1 := 44) (ls1 := [some (rv 79), some (.long (G p0)), none, some (.int (J x3)), some (.int (J x24))]) rfl rfl rfl rfl ?_
        refine r_n (pc1 := 46) [.int (J x24)] _ rfl rfl ?_
        refine r_n (pc1 := 47) [.int (J (-1)), .int (J x24)] _ rfl rfl ?_
        obtain ⟨J26, j26, w⟩ := w
        have Q26 : ∀ (h25 : XH), HT h25 → HX h h25 → J26 h25 → RR sc goal fs 357 68 [some (rv 79), some (.long (G p0)), none, some (.int (J x3)), some (.int (J x24))] [] h25 := by
          intro h25 t25 s25 z26
          have w := j26 h25 t25 s25 z26
          refine r_inc (pc1 := 71) (g := fun zz => [some (rv 79), some (.long (G p0)), none, some (.int (J zz)), some (.int (J x24))]) rfl rfl rfl rfl (fun _ => rfl) (fun x27 ex27 rx27 => ?_)
          have w := w x27 ex27 rx27
          refine r_goto (t := 18) rfl rfl ?_
          exact ih6 _ x27 h25 t25 s25 rx27 (Nat.lt_of_lt_of_le w.2 (Nat.le_of_lt_succ q6)) w.1
        refine r_ic (t := 68) (pc1 := 50) rfl rfl rfl rx24 (rgk rfl) (fun c31 => ?_) (fun c31 => ?_)
        · have w := w.1 c31
          exact Q26   h5 t5 s5  w
        · have w := w.2 c31
          refine r_aldn (pc1 := 51) rfl rfl rfl ?_
          refine r_gfC (pc1 := 54) (q := 83) rfl rfl rfl t5 (lyk t5 rfl) rfl rfl (lyR t5 rfl rfl) ?_
          refine r_n (pc1 := 55) [.int (J x3), rv 83] _ rfl rfl ?_
          refine r_n (pc1 := 57) [.int (J 100), .int (J x3), rv 83] _ rfl rfl ?_
          refine r_n (pc1 := 59) [.int (J x24), .int (J 100), .int (J x3), rv 83] _ rfl rfl ?_
          refine r_iadd (pc1 := 60) rfl rfl ?_
          obtain ⟨c28, w⟩ := w
          refine r_iast (pc1 := 61) rfl rfl t5 (lyk t5 rfl) rx3 c28.1 (lt_len (lyn t5 rfl) c28.2) (fun h29 eh29 t29 u29 => ?_)
          have w := w h29 eh29 t29 u29
          have s29 := HX_trans s5 u29
          refine r_aldn (pc1 := 62) rfl rfl rfl ?_
          refine r_gfC (pc1 := 65) (q := 84) rfl rfl rfl t29 (lyk t29 rfl) rfl rfl (lyR t29 rfl rfl) ?_
          refine r_n (pc1 := 66) [.int (J x3), rv 84] _ rfl rfl ?_
          refine r_n (pc1 := 67) [.int (J 1), .int (J x3), rv 84] _ rfl rfl ?_
          refine r_iast (pc1 := 68) rfl rfl t29 (lyk t29 rfl) rx3 c28.1 (lt_len (lyn t29 rfl) c28.2) (fun h30 eh30 t30 u30 => ?_)
          have w := w h30 eh30 t30 u30
          have s30 := HX_trans s29 u30
          exact Q26   h30 t30 s30  w
  exact Q6 _ _ 0 h2 t2 s2 (rgk rfl) (Nat.lt_succ_self _) w
def w_X12_because (p0 : Int) (K : Int → XH → Prop) (E : Nat → XH → Prop) (h : XH) : Prop :=
  (w_X12_checkPack p0 ((w_X12_knowMet (fun h1 => HT h1 → HX h h1 → (w_X11_atHand (fun a2 => (hk h1 a2 = 7 ∧ w_X2_reach (hL h1 a2 5) (fun h4 => HT h4 → HX h1 h4 → ((0 ≤ p0 ∧ p0 < 12) ∧ K (hI h4 83 p0.toNat) h4)) h1)) h1)) h)) E h)
set_option maxHeartbeats 4000000 in
theorem a_X12_because {sc : Nat × (Nat → Int32)} {goal : XO → XH → Prop} {fs : List XF} {h : XH} (p0 : Int) {K : Int → XH → Prop} {E : Nat → XH → Prop} (hd : fs.length + 6 ≤ 1000) (rp0 : rg p0) (w : w_X12_because p0 K E h) (t0 : HT h) (k : ∀ (r : Int) (h1 : XH), HT h1 → HX h h1 → rg r → K r h1 → XFin xP sc goal fs (.inl (some (.int (J r)))) h1) (kE : ∀ (x : Nat) (h1 : XH), HT h1 → HX h h1 → E x h1 → XFin xP sc goal fs (.inr x) h1) : RR sc goal fs 86 0 [some (rv 2), some (.int (J p0))] [] h := by
  unfold w_X12_because at w
  refine r_aldn (pc1 := 1) rfl rfl rfl ?_
  refine r_n (pc1 := 2) [.int (J p0), rv 2] _ rfl rfl ?_
  refine r_iv rfl rfl rfl rfl rfl rfl t0 (lyk t0 rfl) rfl (xe_of (xa_r (xa_i xa_0)) rfl rfl) (r_d0 hd rfl) (a_X12_checkPack p0 (r_d1 hd rfl) rp0 w t0 (fun w => ?_) (fun x y ty uy w => r_finx rfl rfl (kE x y ty (HX_trans (HX_refl h) uy) w)))
  refine r_fV (pc1 := 5) rfl ?_
  refine r_aldn (pc1 := 6) rfl rfl rfl ?_
  refine r_iv rfl rfl rfl rfl rfl rfl t0 (lyk t0 rfl) rfl (xe_of (xa_r xa_0) rfl rfl) (r_d0 hd rfl) (a_X12_knowMet  (r_d1 hd rfl)  w t0 (fun h1 t1 u1 w => ?_))
  refine r_fV (pc1 := 9) rfl ?_
  have s1 := HX_trans (HX_refl h) u1
  have w := w t1 u1
  refine r_aldn (pc1 := 10) rfl rfl rfl ?_
  refine r_gfC (pc1 := 13) (q := 79) rfl rfl rfl t1 (lyk t1 rfl) rfl rfl (lyR t1 rfl rfl) ?_
  refine r_aldn (pc1 := 14) rfl rfl rfl ?_
  refine r_gfC (pc1 := 17) (q := 8) rfl rfl rfl t1 (lyk t1 rfl) rfl rfl (lyR t1 rfl rfl) ?_
  refine r_iv rfl rfl rfl rfl rfl rfl t1 (lyk t1 rfl) rfl (xe_of (xa_r xa_0) rfl rfl) (r_d0 hd rfl) (a_X11_atHand  (r_d1 hd rfl)  w t1 (fun a2 w => ?_))
  refine r_fR (pc1 := 20) rfl ?_
  obtain ⟨c3, w⟩ := w
  refine r_gfL (pc1 := 23) rfl rfl rfl t1 c3 rfl rfl ?_
  refine r_iv rfl rfl rfl rfl rfl rfl t1 (lyk t1 rfl) rfl (xe_of (xa_r (xa_l xa_0)) rfl rfl) (r_d0 hd rfl) (a_X2_reach (hL h1 a2 5) (r_d1 hd rfl)  w t1 (fun h4 t4 u4 w => ?_))
  refine r_fV (pc1 := 26) rfl ?_
  have s4 := HX_trans s1 u4
  have w := w t4 u4
  refine r_aldn (pc1 := 27) rfl rfl rfl ?_
  refine r_gfC (pc1 := 30) (q := 79) rfl rfl rfl t4 (lyk t4 rfl) rfl rfl (lyR t4 rfl rfl) ?_
  refine r_gfC (pc1 := 33) (q := 83) rfl rfl rfl t4 (lyk t4 rfl) rfl rfl (lyR t4 rfl rfl) ?_
  refine r_n (pc1 := 34) [.int (J p0), rv 83] _ rfl rfl ?_
  obtain ⟨c5, w⟩ := w
  refine r_ial (pc1 := 35) rfl rfl t4 (lyk t4 rfl) rp0 c5.1 (lt_len (lyn t4 rfl) c5.2) ?_
  exact r_retI rfl rfl rfl (k _ _ t4 s4 (rgh _ _ _) w)
def w_L_because (p1 : Int) (K : Int → XH → Prop) (h : XH) : Prop :=
  (w_X12_because p1 (fun x1 h2 => HT h2 → HX h h2 → rg x1 → (∀ h5 : XH, h5 = sL h2 467 0 (i2l x1) → HT h5 → HX h2 h5 → (K 0 h5))) (fun y4 h3 => ((y4 = 2 ∧ K 1 h3))) h)
set_option maxHeartbeats 4000000 in
theorem a_L_because {sc : Nat × (Nat → Int32)} {goal : XO → XH → Prop} {fs : List XF} {h : XH} (p1 : Int) {K : Int → XH → Prop} (hd : fs.length + 7 ≤ 1000) (rp1 : rg p1) (w : w_L_because p1 K h) (t0 : HT h) (k : ∀ (r : Int) (h1 : XH), HT h1 → HX h h1 → rg r → K r h1 → XFin xP sc goal fs (.inl (some (.int (J r)))) h1) : RR sc goal fs 30 0 [some (rv 2), some (.int (J p1)), some (rv 467), none] [] h := by
  unfold w_L_because at w
  refine r_aldn (pc1 := 1) rfl rfl rfl ?_
  refine r_n (pc1 := 2) [.int (J 0), rv 467] _ rfl rfl ?_
  refine r_aldn (pc1 := 3) rfl rfl rfl ?_
  refine r_n (pc1 := 4) [.int (J p1), rv 2, .int (J 0), rv 467] _ rfl rfl ?_
  refine r_iv rfl rfl rfl rfl rfl rfl t0 (lyk t0 rfl) rfl (xe_of (xa_r (xa_i xa_0)) rfl rfl) (r_d0 hd rfl) (a_X12_because p1 (r_d1 hd rfl) rp1 w t0 (fun x1 h2 t2 u2 rx1 w => ?_) (fun y4 h3 ty uy w => ?_))
  · refine r_fI (pc1 := 7) rfl ?_
    have s2 := HX_trans (HX_refl h) u2
    have w := w t2 u2
    have w := w rx1
    refine r_i2l (pc1 := 8) rfl rfl ?_
    refine r_last (pc1 := 9) rfl rfl t2 (lyk t2 rfl) (rgk rfl) (by decide) (lt_len (lyn t2 rfl) (by decide)) (fun h5 eh5 t5 u5 => ?_)
    have w := w h5 eh5 t5 u5
    have s5 := HX_trans s2 u5
    refine r_goto (t := 15) rfl rfl ?_
    refine r_n (pc1 := 16) [.int (J 0)] _ rfl rfl ?_
    exact r_retI rfl rfl rfl (k _ _ t5 s5 (rgk rfl) w)
  · obtain ⟨rfl, w⟩ := w
    exact r_fink (z := 1) rfl (by decide) rfl rfl (k _ _ ty (HX_trans (HX_refl h) uy) (rgk rfl) w)
def w_X1_add (p0 : Int) (p1 : Int) (p2 : Int) (p3 : BitVec 64) (p4 : BitVec 64) (K : XH → Prop) (h : XH) : Prop :=
  (∃ J2 : XH → Prop, (∀ (h1 : XH), HT h1 → HX h h1 → J2 h1 → (K h1)) ∧ ((3712 ≤ hI h 51 3 → J2 h) ∧ (¬ (3712 ≤ hI h 51 3) → ((0 ≤ hI h 51 3 ∧ hI h 51 3 < 3712) ∧ ∀ h4 : XH, h4 = sI h 54 (hI h 51 3).toNat p0 → HT h4 → HX h h4 → (0 ≤ hI h4 51 3 ∧ hI h4 51 3 < 3712) ∧ ∀ h6 : XH, h6 = sI h4 55 (hI h4 51 3).toNat p1 → HT h6 → HX h4 h6 → (0 ≤ hI h6 51 3 ∧ hI h6 51 3 < 3712) ∧ ∀ h8 : XH, h8 = sI h6 56 (hI h6 51 3).toNat p2 → HT h8 → HX h6 h8 → (0 ≤ hI h8 51 3 ∧ hI h8 51 3 < 3712) ∧ ∀ h10 : XH, h10 = sL h8 52 (hI h8 51 3).toNat p3 → HT h10 → HX h8 h10 → (0 ≤ hI h10 51 3 ∧ hI h10 51 3 < 3712) ∧ ∀ h12 : XH, h12 = sL h10 53 (hI h10 51 3).toNat p4 → HT h12 → HX h10 h12 → ∀ h13 : XH, h13 = sI h12 51 3 (wr ((hI h12 51 3) + 1)) → HT h13 → HX h12 h13 → J2 h13))))
set_option maxHeartbeats 4000000 in
theorem a_X1_add {sc : Nat × (Nat → Int32)} {goal : XO → XH → Prop} {fs : List XF} {h : XH} (p0 : Int) (p1 : Int) (p2 : Int) (p3 : BitVec 64) (p4 : BitVec 64) {K : XH → Prop} (hd : fs.length + 0 ≤ 1000) (rp0 : rg p0) (rp1 : rg p1) (rp2 : rg p2) (w : w_X1_add p0 p1 p2 p3 p4 K h) (t0 : HT h) (k : ∀ (h1 : XH), HT h1 → HX h h1 → K h1 → XFin xP sc goal fs (.inl none) h1) : RR sc goal fs 328 0 [some (rv 51), some (.int (J p0)), some (.int (J p1)), some (.int (J p2)), some (.long (G p3)), none, some (.long (G p4)), none] [] h := by
  unfold w_X1_add at w
  refine r_aldn (pc1 := 1) rfl rfl rfl ?_
  refine r_gfI (pc1 := 4) rfl rfl rfl t0 (lyk t0 rfl) rfl rfl ?_
  refine r_n (pc1 := 7) [.int (J 3712), .int (J (hI h 51 3))] _ rfl rfl ?_
  obtain ⟨J2, j2, w⟩ := w
  have Q2 : ∀ (h1 : XH), HT h1 → HX h h1 → J2 h1 → RR sc goal fs 328 72 [some (rv 51), some (.int (J p0)), some (.int (J p1)), some (.int (J p2)), some (.long (G p3)), none, some (.long (G p4)), none] [] h1 := by
    intro h1 t1 s1 z2
    have w := j2 h1 t1 s1 z2
    exact r_retV rfl rfl rfl (k _ t1 s1 w)
  refine r_ic (t := 72) (pc1 := 10) rfl rfl rfl (rgh _ _ _) (rgk rfl) (fun c14 => ?_) (fun c14 => ?_)
  · have w := w.1 c14
    exact Q2   h t0 (HX_refl h)  w
  · have w := w.2 c14
    refine r_aldn (pc1 := 11) rfl rfl rfl ?_
    refine r_gfC (pc1 := 14) (q := 54) rfl rfl rfl t0 (lyk t0 rfl) rfl rfl (lyR t0 rfl rfl) ?_
    refine r_aldn (pc1 := 15) rfl rfl rfl ?_
    refine r_gfI (pc1 := 18) rfl rfl rfl t0 (lyk t0 rfl) rfl rfl ?_
    refine r_n (pc1 := 19) [.int (J p0), .int (J (hI h 51 3)), rv 54] _ rfl rfl ?_
    obtain ⟨c3, w⟩ := w
    refine r_iast (pc1 := 20) rfl rfl t0 (lyk t0 rfl) (rgh _ _ _) c3.1 (lt_len (lyn t0 rfl) c3.2) (fun h4 eh4 t4 u4 => ?_)
    have w := w h4 eh4 t4 u4
    have s4 := HX_trans (HX_refl h) u4
    refine r_aldn (pc1 := 21) rfl rfl rfl ?_
    refine r_gfC (pc1 := 24) (q := 55) rfl rfl rfl t4 (lyk t4 rfl) rfl rfl (lyR t4 rfl rfl) ?_
    refine r_aldn (pc1 := 25) rfl rfl rfl ?_
    refine r_gfI (pc1 := 28) rfl rfl rfl t4 (lyk t4 rfl) rfl rfl ?_
    refine r_n (pc1 := 29) [.int (J p1), .int (J (hI h4 51 3)), rv 55] _ rfl rfl ?_
    obtain ⟨c5, w⟩ := w
    refine r_iast (pc1 := 30) rfl rfl t4 (lyk t4 rfl) (rgh _ _ _) c5.1 (lt_len (lyn t4 rfl) c5.2) (fun h6 eh6 t6 u6 => ?_)
    have w := w h6 eh6 t6 u6
    have s6 := HX_trans s4 u6
    refine r_aldn (pc1 := 31) rfl rfl rfl ?_
    refine r_gfC (pc1 := 34) (q := 56) rfl rfl rfl t6 (lyk t6 rfl) rfl rfl (lyR t6 rfl rfl) ?_
    refine r_aldn (pc1 := 35) rfl rfl rfl ?_
    refine r_gfI (pc1 := 38) rfl rfl rfl t6 (lyk t6 rfl) rfl rfl ?_
    refine r_n (pc1 := 39) [.int (J p2), .int (J (hI h6 51 3)), rv 56] _ rfl rfl ?_
    obtain ⟨c7, w⟩ := w
    refine r_iast (pc1 := 40) rfl rfl t6 (lyk t6 rfl) (rgh _ _ _) c7.1 (lt_len (lyn t6 rfl) c7.2) (fun h8 eh8 t8 u8 => ?_)
    have w := w h8 eh8 t8 u8
    have s8 := HX_trans s6 u8
    refine r_aldn (pc1 := 41) rfl rfl rfl ?_
    refine r_gfC (pc1 := 44) (q := 52) rfl rfl rfl t8 (lyk t8 rfl) rfl rfl (lyR t8 rfl rfl) ?_
    refine r_aldn (pc1 := 45) rfl rfl rfl ?_
    refine r_gfI (pc1 := 48) rfl rfl rfl t8 (lyk t8 rfl) rfl rfl ?_
    refine r_n (pc1 := 50) [.long (G p3), .int (J (hI h8 51 3)), rv 52] _ rfl rfl ?_
    obtain ⟨c9, w⟩ := w
    refine r_last (pc1 := 51) rfl rfl t8 (lyk t8 rfl) (rgh _ _ _) c9.1 (lt_len (lyn t8 rfl) c9.2) (fun h10 eh10 t10 u10 => ?_)
    have w := w h10 eh10 t10 u10
    have s10 := HX_trans s8 u10
    refine r_aldn (pc1 := 52) rfl rfl rfl ?_
    refine r_gfC (pc1 := 55) (q := 53) rfl rfl rfl t10 (lyk t10 rfl) rfl rfl (lyR t10 rfl rfl) ?_
    refine r_aldn (pc1 := 56) rfl rfl rfl ?_
    refine r_gfI (pc1 := 59) rfl rfl rfl t10 (lyk t10 rfl) rfl rfl ?_
    refine r_n (pc1 := 61) [.long (G p4), .int (J (hI h10 51 3)), rv 53] _ rfl rfl ?_
    obtain ⟨c11, w⟩ := w
    refine r_last (pc1 := 62) rfl rfl t10 (lyk t10 rfl) (rgh _ _ _) c11.1 (lt_len (lyn t10 rfl) c11.2) (fun h12 eh12 t12 u12 => ?_)
    have w := w h12 eh12 t12 u12
    have s12 := HX_trans s10 u12
    refine r_aldn (pc1 := 63) rfl rfl rfl ?_
    refine r_dupR (pc1 := 64) rfl rfl ?_
    refine r_gfI (pc1 := 67) rfl rfl rfl t12 (lyk t12 rfl) rfl rfl ?_
    refine r_n (pc1 := 68) [.int (J 1), .int (J (hI h12 51 3)), rv 51] _ rfl rfl ?_
    refine r_iadd (pc1 := 69) rfl rfl ?_
    refine r_pfI (pc1 := 72) rfl rfl rfl t12 (lyk t12 rfl) rfl rfl rfl (fun h13 eh13 t13 u13 => ?_)
    have w := w h13 eh13 t13 u13
    have s13 := HX_trans s12 u13
    exact Q2   h13 t13 s13  w
def w_X1_tellNeed (p0 : Int) (p1 : Int) (p2 : Int) (p3 : Nat) (p4 : BitVec 64) (p5 : BitVec 64) (K : XH → Prop) (h : XH) : Prop :=
  (((¬ p3 = 0 → (w_X1_add p0 p1 p2 p4 p5 (fun h1 => HT h1 → HX h h1 → (hk h1 p3 = 1 ∧ ∃ J4 : XH → Prop, (∀ (h3 : XH), HT h3 → HX h h3 → J4 h3 → (K h3)) ∧ ((hI h1 p3 1 = 0 → J4 h1) ∧ (¬ (hI h1 p3 1 = 0) → (w_X12_switchOf (hI h1 p3 0) (fun b5 => (w_X1_add p0 p1 p2 b5 p5 (fun h6 => HT h6 → HX h1 h6 → J4 h6) h1)) h1))))) h)) ∧ (¬ (¬ p3 = 0) → (K h))))
set_option maxHeartbeats 4000000 in
theorem a_X1_tellNeed {sc : Nat × (Nat → Int32)} {goal : XO → XH → Prop} {fs : List XF} {h : XH} (p0 : Int) (p1 : Int) (p2 : Int) (p3 : Nat) (p4 : BitVec 64) (p5 : BitVec 64) {K : XH → Prop} (hd : fs.length + 1 ≤ 1000) (rp0 : rg p0) (rp1 : rg p1) (rp2 : rg p2) (w : w_X1_tellNeed p0 p1 p2 p3 p4 p5 K h) (t0 : HT h) (k : ∀ (h1 : XH), HT h1 → HX h h1 → K h1 → XFin xP sc goal fs (.inl none) h1) : RR sc goal fs 334 0 [some (rv 51), some (.int (J p0)), some (.int (J p1)), some (.int (J p2)), some (rv p3), some (.long (G p4)), none, some (.long (G p5)), none] [] h := by
  unfold w_X1_tellNeed at w
  refine r_ald (pc1 := 2) rfl rfl rfl ?_
  refine r_nonnull (t := 6) (pc1 := 5) rfl rfl rfl (fun c8 => ?_) (fun c8 => ?_)
  · have w := w.1 c8
    refine r_aldn (pc1 := 7) rfl rfl rfl ?_
    refine r_n (pc1 := 8) [.int (J p0), rv 51] _ rfl rfl ?_
    refine r_n (pc1 := 9) [.int (J p1), .int (J p0), rv 51] _ rfl rfl ?_
    refine r_n (pc1 := 10) [.int (J p2), .int (J p1), .int (J p0), rv 51] _ rfl rfl ?_
    refine r_n (pc1 := 12) [.long (G p4), .int (J p2), .int (J p1), .int (J p0), rv 51] _ rfl rfl ?_
    refine r_n (pc1 := 14) [.long (G p5), .long (G p4), .int (J p2), .int (J p1), .int (J p0), rv 51] _ rfl rfl ?_
    refine r_iv rfl rfl rfl rfl rfl rfl t0 (lyk t0 rfl) rfl (xe_of (xa_r (xa_i (xa_i (xa_i (xa_l (xa_l xa_0)))))) rfl rfl) (r_d0 hd rfl) (a_X1_add p0 p1 p2 p4 p5 (r_d1 hd rfl) rp0 rp1 rp2 w t0 (fun h1 t1 u1 w => ?_))
    refine r_fV (pc1 := 17) rfl ?_
    have s1 := HX_trans (HX_refl h) u1
    have w := w t1 u1
    refine r_ald (pc1 := 19) rfl rfl rfl ?_
    obtain ⟨c2, w⟩ := w
    refine r_gfI (pc1 := 22) rfl rfl rfl t1 c2 rfl rfl ?_
    obtain ⟨J4, j4, w⟩ := w
    have Q4 : ∀ (h3 : XH), HT h3 → HX h h3 → J4 h3 → RR sc goal fs 334 42 [some (rv 51), some (.int (J p0)), some (.int (J p1)), some (.int (J p2)), some (rv p3), some (.long (G p4)), none, some (.long (G p5)), none] [] h3 := by
      intro h3 t3 s3 z4
      have w := j4 h3 t3 s3 z4
      exact r_retV rfl rfl rfl (k _ t3 s3 w)
    refine r_iz (t := 42) (pc1 := 25) rfl rfl rfl (rgh _ _ _) (fun c7 => ?_) (fun c7 => ?_)
    · have w := w.1 c7
      exact Q4   h1 t1 s1  w
    · have w := w.2 c7
      refine r_aldn (pc1 := 26) rfl rfl rfl ?_
      refine r_n (pc1 := 27) [.int (J p0), rv 51] _ rfl rfl ?_
      refine r_n (pc1 := 28) [.int (J p1), .int (J p0), rv 51] _ rfl rfl ?_
      refine r_n (pc1 := 29) [.int (J p2), .int (J p1), .int (J p0), rv 51] _ rfl rfl ?_
      refine r_ald (pc1 := 31) rfl rfl rfl ?_
      refine r_gfI (pc1 := 34) rfl rfl rfl t1 c2 rfl rfl ?_
      refine r_iq rfl rfl rfl rfl rfl rfl (xe_of (xa_i xa_0) rfl rfl) (r_d0 hd rfl) (a_X12_switchOf (hI h1 p3 0) (r_d1 hd rfl) (rgh _ _ _) w t1 (fun b5 w => ?_))
      refine r_fL (pc1 := 37) rfl ?_
      refine r_n (pc1 := 39) [.long (G p5), .long (G b5), .int (J p2), .int (J p1), .int (J p0), rv 51] _ rfl rfl ?_
      refine r_iv rfl rfl rfl rfl rfl rfl t1 (lyk t1 rfl) rfl (xe_of (xa_r (xa_i (xa_i (xa_i (xa_l (xa_l xa_0)))))) rfl rfl) (r_d0 hd rfl) (a_X1_add p0 p1 p2 b5 p5 (r_d1 hd rfl) rp0 rp1 rp2 w t1 (fun h6 t6 u6 w => ?_))
      refine r_fV (pc1 := 42) rfl ?_
      have s6 := HX_trans s1 u6
      have w := w t6 u6
      exact Q4   h6 t6 s6  w
  · have w := w.2 c8
    exact r_retV rfl rfl rfl (k _ t0 (HX_refl h) w)
def w_X8_idAt (p0 : Int) (p1 : Int) (K : Int → Prop) (h : XH) : Prop :=
  (∀ x1 : Int, x1 = wr ((wr (p0 * 8)) + p1) → rg x1 → (0 ≤ x1 ∧ x1 < 96) ∧ K (hI h 12 x1.toNat))
set_option maxHeartbeats 4000000 in
theorem a_X8_idAt {sc : Nat × (Nat → Int32)} {goal : XO → XH → Prop} {fs : List XF} {h : XH} (p0 : Int) (p1 : Int) {K : Int → Prop} (hd : fs.length + 0 ≤ 1000) (rp0 : rg p0) (rp1 : rg p1) (w : w_X8_idAt p0 p1 K h) (t0 : HT h) (k : ∀ (r : Int), rg r → K r → XFin xP sc goal fs (.inl (some (.int (J r)))) h) : RR sc goal fs 457 0 [some (rv 9), some (.int (J p0)), some (.int (J p1))] [] h := by
  unfold w_X8_idAt at w
  refine r_aldn (pc1 := 1) rfl rfl rfl ?_
  refine r_gfC (pc1 := 4) (q := 12) rfl rfl rfl t0 (lyk t0 rfl) rfl rfl (lyR t0 rfl rfl) ?_
  refine r_n (pc1 := 5) [.int (J p0), rv 12] _ rfl rfl ?_
  refine r_n (pc1 := 7) [.int (J 8), .int (J p0), rv 12] _ rfl rfl ?_
  refine r_imul (pc1 := 8) rfl rfl ?_
  refine r_n (pc1 := 9) [.int (J p1), .int (J (wr (p0 * 8))), rv 12] _ rfl rfl ?_
  refine r_iadd (pc1 := 10) rfl rfl ?_
  refine r_vI (rgw _) (fun x1 ex1 rx1 => ?_)
  have w := w x1 ex1 rx1
  obtain ⟨c2, w⟩ := w
  refine r_ial (pc1 := 11) rfl rfl t0 (lyk t0 rfl) rx1 c2.1 (lt_len (lyn t0 rfl) c2.2) ?_
  exact r_retI rfl rfl rfl (k _ (rgh _ _ _) w)
def w_X1_tellNone (p0 : Int) (p1 : Int) (p2 : BitVec 64) (K : XH → Prop) (h : XH) : Prop :=
  ((∃ (I4 : Int → XH → Prop) (m4 : Int → XH → Nat), I4 0 h ∧ ∀ (x1 : Int) (h3 : XH), HT h3 → HX h h3 → rg x1 → I4 x1 h3 → ((0 ≤ p1 ∧ p1 < 12) ∧ ((hI h3 10 p1.toNat ≤ x1 → (K h3)) ∧ (¬ (hI h3 10 p1.toNat ≤ x1) → (w_X8_idAt p1 x1 (fun x6 => rg x6 → (w_X12_has p2 x6 (fun x7 => rg x7 → (x7 = 0 ∨ x7 = 1) → (∃ J9 : XH → Prop, (∀ (h8 : XH), HT h8 → HX h h8 → J9 h8 → (∀ x10 : Int, x10 = wr (x1 + 1) → rg x10 → (I4 x10 h8 ∧ m4 x10 h8 < m4 x1 h3))) ∧ ((x7 = 0 → J9 h3) ∧ (¬ (x7 = 0) → (w_X1_add p0 p1 (-1) (0#64) (lshl (1#64) x6) (fun h11 => HT h11 → HX h3 h11 → J9 h11) h3))))) h3)) h3))))))
set_option maxHeartbeats 4000000 in
theorem a_X1_tellNone {sc : Nat × (Nat → Int32)} {goal : XO → XH → Prop} {fs : List XF} {h : XH} (p0 : Int) (p1 : Int) (p2 : BitVec 64) {K : XH → Prop} (hd : fs.length + 1 ≤ 1000) (rp0 : rg p0) (rp1 : rg p1) (w : w_X1_tellNone p0 p1 p2 K h) (t0 : HT h) (k : ∀ (h1 : XH), HT h1 → HX h h1 → K h1 → XFin xP sc goal fs (.inl none) h1) : RR sc goal fs 335 0 [some (rv 51), some (.int (J p0)), some (.int (J p1)), some (.long (G p2)), none, none, none] [] h := by
  unfold w_X1_tellNone at w
  refine r_n (pc1 := 1) [.int (J 0)] _ rfl rfl ?_
  refine r_ist (pc1 := 3) (ls1 := [some (rv 51), some (.int (J p0)), some (.int (J p1)), some (.long (G p2)), none, some (.int (J 0)), none]) rfl rfl rfl rfl ?_
  obtain ⟨I4, m4, w, y4⟩ := w
  have Q4 : ∀ (n : Nat) (d2 : Option Value) (x1 : Int) (h3 : XH), HT h3 → HX h h3 → rg x1 → m4 x1 h3 < n → I4 x1 h3 → RR sc goal fs 335 3 [some (rv 51), some (.int (J p0)), some (.int (J p1)), some (.long (G p2)), none, some (.int (J x1)), d2] [] h3 := by
    intro n
    induction n with
    | zero => intro d2 x1 h3 t3 s3 rx1 q4 _; exact absurd q4 (Nat.not_lt_zero _)
    | succ n ih4 =>
      intro d2 x1 h3 t3 s3 rx1 q4 z4
      have w := y4 x1 h3 t3 s3 rx1 z4
      refine r_n (pc1 := 5) [.int (J x1)] _ rfl rfl ?_
      refine r_aldn (pc1 := 6) rfl rfl rfl ?_
      refine r_gfC (pc1 := 9) (q := 9) rfl rfl rfl t3 (lyk t3 rfl) rfl rfl (lyR t3 rfl rfl) ?_
      refine r_gfC (pc1 := 12) (q := 10) rfl rfl rfl t3 (lyk t3 rfl) rfl rfl (lyR t3 rfl rfl) ?_
      refine r_n (pc1 := 13) [.int (J p1), rv 10, .int (J x1)] _ rfl rfl ?_
      obtain ⟨c5, w⟩ := w
      refine r_ial (pc1 := 14) rfl rfl t3 (lyk t3 rfl) rp1 c5.1 (lt_len (lyn t3 rfl) c5.2) ?_
      refine r_ic (t := 56) (pc1 := 17) rfl rfl rfl rx1 (rgh _ _ _) (fun c13 => ?_) (fun c13 => ?_)
      · have w := w.1 c13
        exact r_retV rfl rfl rfl (k _ t3 s3 w)
      · have w := w.2 c13
        refine r_aldn (pc1 := 18) rfl rfl rfl ?_
        refine r_gfC (pc1 := 21) (q := 9) rfl rfl rfl t3 (lyk t3 rfl) rfl rfl (lyR t3 rfl rfl) ?_
        refine r_n (pc1 := 22) [.int (J p1), rv 9] _ rfl rfl ?_
        refine r_n (pc1 := 24) [.int (J x1), .int (J p1), rv 9] _ rfl rfl ?_
        refine r_iv rfl rfl rfl rfl rfl rfl t3 (lyk t3 rfl) rfl (xe_of (xa_r (xa_i (xa_i xa_0))) rfl rfl) (r_d0 hd rfl) (a_X8_idAt p1 x1 (r_d1 hd rfl) rp1 rx1 w t3 (fun x6 rx6 w => ?_))
        refine r_fI (pc1 := 27) rfl ?_
        have w := w rx6
        refine r_ist (pc1 := 29) (ls1 := [some (rv 51), some (.int (J p0)), some (.int (J p1)), some (.long (G p2)), none, some (.int (J x1)), some (.int (J x6))]) rfl rfl rfl rfl ?_
        refine r_n (pc1 := 30) [.long (G p2)] _ rfl rfl ?_
        refine r_n (pc1 := 32) [.int (J x6), .long (G p2)] _ rfl rfl ?_
        refine r_iq rfl rfl rfl rfl rfl rfl (xe_of (xa_l (xa_i xa_0)) rfl rfl) (r_d0 hd rfl) (a_X12_has p2 x6 (r_d1 hd rfl) rx6 w t3 (fun x7 rx7 vx7 w => ?_))
        refine r_fI (pc1 := 35) rfl ?_
        have w := w rx7 vx7
        obtain ⟨J9, j9, w⟩ := w
        have Q9 : ∀ (h8 : XH), HT h8 → HX h h8 → J9 h8 → RR sc goal fs 335 50 [some (rv 51), some (.int (J p0)), some (.int (J p1)), some (.long (G p2)), none, some (.int (J x1)), some (.int (J x6))] [] h8 := by
          intro h8 t8 s8 z9
          have w := j9 h8 t8 s8 z9
          refine r_inc (pc1 := 53) (g := fun zz => [some (rv 51), some (.int (J p0)), some (.int (J p1)), some (.long (G p2)), none, some (.int (J zz)), some (.int (J x6))]) rfl rfl rfl rfl (fun _ => rfl) (fun x10 ex10 rx10 => ?_)
          have w := w x10 ex10 rx10
          refine r_goto (t := 3) rfl rfl ?_
          exact ih4 _ x10 h8 t8 s8 rx10 (Nat.lt_of_lt_of_le w.2 (Nat.le_of_lt_succ q4)) w.1
        refine r_iz (t := 50) (pc1 := 38) rfl rfl rfl rx7 (fun c12 => ?_) (fun c12 => ?_)
        · have w := w.1 c12
          exact Q9   h3 t3 s3  w
        · have w := w.2 c12
          refine r_aldn (pc1 := 39) rfl rfl rfl ?_
          refine r_n (pc1 := 40) [.int (J p0), rv 51] _ rfl rfl ?_
          refine r_n (pc1 := 41) [.int (J p1), .int (J p0), rv 51] _ rfl rfl ?_
          refine r_n (pc1 := 42) [.int (J (-1)), .int (J p1), .int (J p0), rv 51] _ rfl rfl ?_
          refine r_n (pc1 := 43) [.long (G (0#64)), .int (J (-1)), .int (J p1), .int (J p0), rv 51] _ rfl rfl ?_
          refine r_n (pc1 := 44) [.long (G (1#64)), .long (G (0#64)), .int (J (-1)), .int (J p1), .int (J p0), rv 51] _ rfl rfl ?_
          refine r_n (pc1 := 46) [.int (J x6), .long (G (1#64)), .long (G (0#64)), .int (J (-1)), .int (J p1), .int (J p0), rv 51] _ rfl rfl ?_
          refine r_lshl (pc1 := 47) rfl rfl ?_
          refine r_iv rfl rfl rfl rfl rfl rfl t3 (lyk t3 rfl) rfl (xe_of (xa_r (xa_i (xa_i (xa_i (xa_l (xa_l xa_0)))))) rfl rfl) (r_d0 hd rfl) (a_X1_add p0 p1 (-1) (0#64) (lshl (1#64) x6) (r_d1 hd rfl) rp0 rp1 (rgk rfl) w t3 (fun h11 t11 u11 w => ?_))
          refine r_fV (pc1 := 50) rfl ?_
          have s11 := HX_trans s3 u11
          have w := w t11 u11
          exact Q9   h11 t11 s11  w
  exact Q4 _ _ 0 h t0 (HX_refl h) (rgk rfl) (Nat.lt_succ_self _) w
def w_X1_tellHold (p0 : Int) (p1 : BitVec 64) (K : XH → Prop) (h : XH) : Prop :=
  (w_X8_versionsOf p0 (fun b1 => (∀ b2 : BitVec 64, b2 = p1 &&& b1 → ((¬ b2 = (0#64) → (w_X12_switchOf p0 (fun b3 => (∃ J5 : Int → Prop, (∀ (x4 : Int), rg x4 → J5 x4 → (w_X1_add 1 p0 (-1) b2 (0#64) (fun h6 => HT h6 → HX h h6 → (∃ J8 : BitVec 64 → Prop, (∀ (b7 : BitVec 64), J8 b7 → (∃ J10 : BitVec 64 → Prop, (∀ (b9 : BitVec 64), J10 b9 → (w_X1_add 1 p0 (-1) b7 b9 (fun h11 => HT h11 → HX h6 h11 → (K h11)) h6)) ∧ ((x4 = 0 → (w_X12_switchOf p0 (fun b12 => J10 b12) h6)) ∧ (¬ (x4 = 0) → (J10 (0#64)))))) ∧ ((x4 = 0 → (J8 (0#64))) ∧ (¬ (x4 = 0) → (w_X12_switchOf p0 (fun b14 => (J8 b14)) h6))))) h)) ∧ ((p1 &&& b3 = (0#64) → (J5 0)) ∧ (¬ (p1 &&& b3 = (0#64)) → (J5 1))))) h)) ∧ (¬ (¬ b2 = (0#64)) → (w_X8_versionsOf p0 (fun b17 => (w_X1_tellNone 1 p0 b17 (fun h18 => HT h18 → HX h h18 → (K h18)) h)) h))))) h)
set_option maxHeartbeats 4000000 in
theorem a_X1_tellHold {sc : Nat × (Nat → Int32)} {goal : XO → XH → Prop} {fs : List XF} {h : XH} (p0 : Int) (p1 : BitVec 64) {K : XH → Prop} (hd : fs.length + 2 ≤ 1000) (rp0 : rg p0) (w : w_X1_tellHold p0 p1 K h) (t0 : HT h) (k : ∀ (h1 : XH), HT h1 → HX h h1 → K h1 → XFin xP sc goal fs (.inl none) h1) : RR sc goal fs 333 0 [some (rv 51), some (.int (J p0)), some (.long (G p1)), none, none, none, none] [] h := by
  unfold w_X1_tellHold at w
  refine r_n (pc1 := 1) [.long (G p1)] _ rfl rfl ?_
  refine r_aldn (pc1 := 2) rfl rfl rfl ?_
  refine r_gfC (pc1 := 5) (q := 9) rfl rfl rfl t0 (lyk t0 rfl) rfl rfl (lyR t0 rfl rfl) ?_
  refine r_n (pc1 := 6) [.int (J p0), rv 9, .long (G p1)] _ rfl rfl ?_
  refine r_iv rfl rfl rfl rfl rfl rfl t0 (lyk t0 rfl) rfl (xe_of (xa_r (xa_i xa_0)) rfl rfl) (r_d0 hd rfl) (a_X8_versionsOf p0 (r_d1 hd rfl) rp0 w t0 (fun b1 w => ?_))
  refine r_fL (pc1 := 9) rfl ?_
  refine r_land (pc1 := 10) rfl rfl ?_
  refine r_vL (fun b2 eb2 => ?_)
  have w := w b2 eb2
  refine r_lst (pc1 := 12) (ls1 := [some (rv 51), some (.int (J p0)), some (.long (G p1)), none, some (.long (G b2)), none, none]) rfl rfl rfl rfl ?_
  refine r_n (pc1 := 14) [.long (G b2)] _ rfl rfl ?_
  refine r_n (pc1 := 15) [.long (G (0#64)), .long (G b2)] _ rfl rfl ?_
  refine r_lc (pc2 := 16) (t := 34) (pc1 := 19) rfl rfl rfl rfl rfl (fun c19 => ?_) (fun c19 => ?_)
  · have w := w.1 c19
    refine r_n (pc1 := 35) [.long (G p1)] _ rfl rfl ?_
    refine r_n (pc1 := 36) [.int (J p0), .long (G p1)] _ rfl rfl ?_
    refine r_iq rfl rfl rfl rfl rfl rfl (xe_of (xa_i xa_0) rfl rfl) (r_d0 hd rfl) (a_X12_switchOf p0 (r_d1 hd rfl) rp0 w t0 (fun b3 w => ?_))
    refine r_fL (pc1 := 39) rfl ?_
    refine r_land (pc1 := 40) rfl rfl ?_
    refine r_n (pc1 := 41) [.long (G (0#64)), .long (G (p1 &&& b3))] _ rfl rfl ?_
    obtain ⟨J5, j5, w⟩ := w
    have Q5 : ∀ (x4 : Int), rg x4 → J5 x4 → RR sc goal fs 333 50 [some (rv 51), some (.int (J p0)), some (.long (G p1)), none, some (.long (G b2)), none, none] [.int (J x4)] h := by
      intro x4 rx4 z5
      have w := j5 x4 rx4 z5
      refine r_ist (pc1 := 52) (ls1 := [some (rv 51), some (.int (J p0)), some (.long (G p1)), none, some (.long (G b2)), none, some (.int (J x4))]) rfl rfl rfl rfl ?_
      refine r_aldn (pc1 := 53) rfl rfl rfl ?_
      refine r_n (pc1 := 54) [.int (J 1), rv 51] _ rfl rfl ?_
      refine r_n (pc1 := 55) [.int (J p0), .int (J 1), rv 51] _ rfl rfl ?_
      refine r_n (pc1 := 56) [.int (J (-1)), .int (J p0), .int (J 1), rv 51] _ rfl rfl ?_
      refine r_n (pc1 := 58) [.long (G b2), .int (J (-1)), .int (J p0), .int (J 1), rv 51] _ rfl rfl ?_
      refine r_n (pc1 := 59) [.long (G (0#64)), .long (G b2), .int (J (-1)), .int (J p0), .int (J 1), rv 51] _ rfl rfl ?_
      refine r_iv rfl rfl rfl rfl rfl rfl t0 (lyk t0 rfl) rfl (xe_of (xa_r (xa_i (xa_i (xa_i (xa_l (xa_l xa_0)))))) rfl rfl) (r_d0 hd rfl) (a_X1_add 1 p0 (-1) b2 (0#64) (r_d1 hd rfl) (rgk rfl) rp0 (rgk rfl) w t0 (fun h6 t6 u6 w => ?_))
      refine r_fV (pc1 := 62) rfl ?_
      have s6 := HX_trans (HX_refl h) u6
      have w := w t6 u6
      refine r_aldn (pc1 := 63) rfl rfl rfl ?_
      refine r_n (pc1 := 64) [.int (J 1), rv 51] _ rfl rfl ?_
      refine r_n (pc1 := 65) [.int (J p0), .int (J 1), rv 51] _ rfl rfl ?_
      refine r_n (pc1 := 66) [.int (J (-1)), .int (J p0), .int (J 1), rv 51] _ rfl rfl ?_
      refine r_n (pc1 := 68) [.int (J x4), .int (J (-1)), .int (J p0), .int (J 1), rv 51] _ rfl rfl ?_
      obtain ⟨J8, j8, w⟩ := w
      have Q8 : ∀ (b7 : BitVec 64), J8 b7 → RR sc goal fs 333 79 [some (rv 51), some (.int (J p0)), some (.long (G p1)), none, some (.long (G b2)), none, some (.int (J x4))] [.long (G b7), .int (J (-1)), .int (J p0), .int (J 1), rv 51] h6 := by
        intro b7 z8
        have w := j8 b7 z8
        refine r_n (pc1 := 81) [.int (J x4), .long (G b7), .int (J (-1)), .int (J p0), .int (J 1), rv 51] _ rfl rfl ?_
        obtain ⟨J10, j10, w⟩ := w
        have Q10 : ∀ (b9 : BitVec 64), J10 b9 → RR sc goal fs 333 92 [some (rv 51), some (.int (J p0)), some (.long (G p1)), none, some (.long (G b2)), none, some (.int (J x4))] [.long (G b9), .long (G b7), .int (J (-1)), .int (J p0), .int (J 1), rv 51] h6 := by
          intro b9 z10
          have w := j10 b9 z10
          refine r_iv rfl rfl rfl rfl rfl rfl t6 (lyk t6 rfl) rfl (xe_of (xa_r (xa_i (xa_i (xa_i (xa_l (xa_l xa_0)))))) rfl rfl) (r_d0 hd rfl) (a_X1_add 1 p0 (-1) b7 b9 (r_d1 hd rfl) (rgk rfl) rp0 (rgk rfl) w t6 (fun h11 t11 u11 w => ?_))
          refine r_fV (pc1 := 95) rfl ?_
          have s11 := HX_trans s6 u11
          have w := w t11 u11
          exact r_retV rfl rfl rfl (k _ t11 s11 w)
        refine r_iz (t := 88) (pc1 := 84) rfl rfl rfl rx4 (fun c13 => ?_) (fun c13 => ?_)
        · have w := w.1 c13
          refine r_n (pc1 := 89) [.int (J p0), .long (G b7), .int (J (-1)), .int (J p0), .int (J 1), rv 51] _ rfl rfl ?_
          refine r_iq rfl rfl rfl rfl rfl rfl (xe_of (xa_i xa_0) rfl rfl) (r_d0 hd rfl) (a_X12_switchOf p0 (r_d1 hd rfl) rp0 w t6 (fun b12 w => ?_))
          refine r_fL (pc1 := 92) rfl ?_
          exact Q10  b12   w
        · have w := w.2 c13
          refine r_n (pc1 := 85) [.long (G (0#64)), .long (G b7), .int (J (-1)), .int (J p0), .int (J 1), rv 51] _ rfl rfl ?_
          refine r_goto (t := 92) rfl rfl ?_
          exact Q10  (0#64)   w
      refine r_iz (t := 78) (pc1 := 71) rfl rfl rfl rx4 (fun c15 => ?_) (fun c15 => ?_)
      · have w := w.1 c15
        refine r_n (pc1 := 79) [.long (G (0#64)), .int (J (-1)), .int (J p0), .int (J 1), rv 51] _ rfl rfl ?_
        exact Q8  (0#64)   w
      · have w := w.2 c15
        refine r_n (pc1 := 72) [.int (J p0), .int (J (-1)), .int (J p0), .int (J 1), rv 51] _ rfl rfl ?_
        refine r_iq rfl rfl rfl rfl rfl rfl (xe_of (xa_i xa_0) rfl rfl) (r_d0 hd rfl) (a_X12_switchOf p0 (r_d1 hd rfl) rp0 w t6 (fun b14 w => ?_))
        refine r_fL (pc1 := 75) rfl ?_
        refine r_goto (t := 79) rfl rfl ?_
        exact Q8  b14   w
    refine r_lc (pc2 := 42) (t := 49) (pc1 := 45) rfl rfl rfl rfl rfl (fun c16 => ?_) (fun c16 => ?_)
    · have w := w.1 c16
      refine r_n (pc1 := 50) [.int (J 0)] _ rfl rfl ?_
      exact Q5  0  (rgk rfl) w
    · have w := w.2 c16
      refine r_n (pc1 := 46) [.int (J 1)] _ rfl rfl ?_
      refine r_goto (t := 50) rfl rfl ?_
      exact Q5  1  (rgk rfl) w
  · have w := w.2 c19
    refine r_aldn (pc1 := 20) rfl rfl rfl ?_
    refine r_n (pc1 := 21) [.int (J 1), rv 51] _ rfl rfl ?_
    refine r_n (pc1 := 22) [.int (J p0), .int (J 1), rv 51] _ rfl rfl ?_
    refine r_aldn (pc1 := 23) rfl rfl rfl ?_
    refine r_gfC (pc1 := 26) (q := 9) rfl rfl rfl t0 (lyk t0 rfl) rfl rfl (lyR t0 rfl rfl) ?_
    refine r_n (pc1 := 27) [.int (J p0), rv 9, .int (J p0), .int (J 1), rv 51] _ rfl rfl ?_
    refine r_iv rfl rfl rfl rfl rfl rfl t0 (lyk t0 rfl) rfl (xe_of (xa_r (xa_i xa_0)) rfl rfl) (r_d0 hd rfl) (a_X8_versionsOf p0 (r_d1 hd rfl) rp0 w t0 (fun b17 w => ?_))
    refine r_fL (pc1 := 30) rfl ?_
    refine r_iv rfl rfl rfl rfl rfl rfl t0 (lyk t0 rfl) rfl (xe_of (xa_r (xa_i (xa_i (xa_l xa_0)))) rfl rfl) (r_d0 hd rfl) (a_X1_tellNone 1 p0 b17 (r_d1 hd rfl) (rgk rfl) rp0 w t0 (fun h18 t18 u18 w => ?_))
    refine r_fV (pc1 := 33) rfl ?_
    have s18 := HX_trans (HX_refl h) u18
    have w := w t18 u18
    exact r_retV rfl rfl rfl (k _ t18 s18 w)
def w_X1_tellBan (p0 : Int) (p1 : Int) (p2 : BitVec 64) (p3 : BitVec 64) (K : XH → Prop) (h : XH) : Prop :=
  ((∃ (I5 : Int → XH → Prop) (m5 : Int → XH → Nat), I5 0 h ∧ ∀ (x1 : Int) (h4 : XH), HT h4 → HX h h4 → rg x1 → I5 x1 h4 → (((hI h4 9 0 ≤ x1 → (K h4)) ∧ (¬ (hI h4 9 0 ≤ x1) → ((∃ (I9 : Int → XH → Prop) (m9 : Int → XH → Nat), I9 0 h4 ∧ ∀ (x6 : Int) (h8 : XH), HT h8 → HX h h8 → rg x6 → I9 x6 h8 → ((0 ≤ x1 ∧ x1 < 12) ∧ ((hI h8 10 x1.toNat ≤ x6 → (∀ x11 : Int, x11 = wr (x1 + 1) → rg x11 → (I5 x11 h8 ∧ m5 x11 h8 < m5 x1 h4))) ∧ (¬ (hI h8 10 x1.toNat ≤ x6) → (w_X8_idAt x1 x6 (fun x12 => rg x12 → (w_X12_has p3 x12 (fun x13 => rg x13 → (x13 = 0 ∨ x13 = 1) → (∃ J15 : XH → Prop, (∀ (h14 : XH), HT h14 → HX h h14 → J15 h14 → (∀ x16 : Int, x16 = wr (x6 + 1) → rg x16 → (I9 x16 h14 ∧ m9 x16 h14 < m9 x6 h8))) ∧ ((x13 = 0 → J15 h8) ∧ (¬ (x13 = 0) → (w_X1_add 4 p0 p1 (0#64) (p2 ||| (lshl (1#64) x12)) (fun h17 => HT h17 → HX h8 h17 → J15 h17) h8))))) h8)) h8)))))))))))
set_option maxHeartbeats 4000000 in
theorem a_X1_tellBan {sc : Nat × (Nat → Int32)} {goal : XO → XH → Prop} {fs : List XF} {h : XH} (p0 : Int) (p1 : Int) (p2 : BitVec 64) (p3 : BitVec 64) {K : XH → Prop} (hd : fs.length + 1 ≤ 1000) (rp0 : rg p0) (rp1 : rg p1) (w : w_X1_tellBan p0 p1 p2 p3 K h) (t0 : HT h) (k : ∀ (h1 : XH), HT h1 → HX h h1 → K h1 → XFin xP sc goal fs (.inl none) h1) : RR sc goal fs 332 0 [some (rv 51), some (.int (J p0)), some (.int (J p1)), some (.long (G p2)), none, some (.long (G p3)), none, none, none, none] [] h := by
  unfold w_X1_tellBan at w
  refine r_n (pc1 := 1) [.int (J 0)] _ rfl rfl ?_
  refine r_ist (pc1 := 3) (ls1 := [some (rv 51), some (.int (J p0)), some (.int (J p1)), some (.long (G p2)), none, some (.long (G p3)), none, some (.int (J 0)), none, none]) rfl rfl rfl rfl ?_
  obtain ⟨I5, m5, w, y5⟩ := w
  have Q5 : ∀ (n : Nat) (d2 : Option Value) (d3 : Option Value) (x1 : Int) (h4 : XH), HT h4 → HX h h4 → rg x1 → m5 x1 h4 < n → I5 x1 h4 → RR sc goal fs 332 3 [some (rv 51), some (.int (J p0)), some (.int (J p1)), some (.long (G p2)), none, some (.long (G p3)), none, some (.int (J x1)), d2, d3] [] h4 := by
    intro n
    induction n with
    | zero => intro d2 d3 x1 h4 t4 s4 rx1 q5 _; exact absurd q5 (Nat.not_lt_zero _)
    | succ n ih5 =>
      intro d2 d3 x1 h4 t4 s4 rx1 q5 z5
      have w := y5 x1 h4 t4 s4 rx1 z5
      refine r_n (pc1 := 5) [.int (J x1)] _ rfl rfl ?_
      refine r_aldn (pc1 := 6) rfl rfl rfl ?_
      refine r_gfC (pc1 := 9) (q := 9) rfl rfl rfl t4 (lyk t4 rfl) rfl rfl (lyR t4 rfl rfl) ?_
      refine r_gfI (pc1 := 12) rfl rfl rfl t4 (lyk t4 rfl) rfl rfl ?_
      refine r_ic (t := 82) (pc1 := 15) rfl rfl rfl rx1 (rgh _ _ _) (fun c20 => ?_) (fun c20 => ?_)
      · have w := w.1 c20
        exact r_retV rfl rfl rfl (k _ t4 s4 w)
      · have w := w.2 c20
        refine r_n (pc1 := 16) [.int (J 0)] _ rfl rfl ?_
        refine r_ist (pc1 := 18) (ls1 := [some (rv 51), some (.int (J p0)), some (.int (J p1)), some (.long (G p2)), none, some (.long (G p3)), none, some (.int (J x1)), some (.int (J 0)), d3]) rfl rfl rfl rfl ?_
        obtain ⟨I9, m9, w, y9⟩ := w
        have Q9 : ∀ (n : Nat) (d7 : Option Value) (x6 : Int) (h8 : XH), HT h8 → HX h h8 → rg x6 → m9 x6 h8 < n → I9 x6 h8 → RR sc goal fs 332 18 [some (rv 51), some (.int (J p0)), some (.int (J p1)), some (.long (G p2)), none, some (.long (G p3)), none, some (.int (J x1)), some (.int (J x6)), d7] [] h8 := by
          intro n
          induction n with
          | zero => intro d7 x6 h8 t8 s8 rx6 q9 _; exact absurd q9 (Nat.not_lt_zero _)
          | succ n ih9 =>
            intro d7 x6 h8 t8 s8 rx6 q9 z9
            have w := y9 x6 h8 t8 s8 rx6 z9
            refine r_n (pc1 := 20) [.int (J x6)] _ rfl rfl ?_
            refine r_aldn (pc1 := 21) rfl rfl rfl ?_
            refine r_gfC (pc1 := 24) (q := 9) rfl rfl rfl t8 (lyk t8 rfl) rfl rfl (lyR t8 rfl rfl) ?_
            refine r_gfC (pc1 := 27) (q := 10) rfl rfl rfl t8 (lyk t8 rfl) rfl rfl (lyR t8 rfl rfl) ?_
            refine r_n (pc1 := 29) [.int (J x1), rv 10, .int (J x6)] _ rfl rfl ?_
            obtain ⟨c10, w⟩ := w
            refine r_ial (pc1 := 30) rfl rfl t8 (lyk t8 rfl) rx1 c10.1 (lt_len (lyn t8 rfl) c10.2) ?_
            refine r_ic (t := 76) (pc1 := 33) rfl rfl rfl rx6 (rgh _ _ _) (fun c19 => ?_) (fun c19 => ?_)
            · have w := w.1 c19
              refine r_inc (pc1 := 79) (g := fun zz => [some (rv 51), some (.int (J p0)), some (.int (J p1)), some (.long (G p2)), none, some (.long (G p3)), none, some (.int (J zz)), some (.int (J x6)), d7]) rfl rfl rfl rfl (fun _ => rfl) (fun x11 ex11 rx11 => ?_)
              have w := w x11 ex11 rx11
              refine r_goto (t := 3) rfl rfl ?_
              exact ih5 _ _ x11 h8 t8 s8 rx11 (Nat.lt_of_lt_of_le w.2 (Nat.le_of_lt_succ q5)) w.1
            · have w := w.2 c19
              refine r_aldn (pc1 := 34) rfl rfl rfl ?_
              refine r_gfC (pc1 := 37) (q := 9) rfl rfl rfl t8 (lyk t8 rfl) rfl rfl (lyR t8 rfl rfl) ?_
              refine r_n (pc1 := 39) [.int (J x1), rv 9] _ rfl rfl ?_
              refine r_n (pc1 := 41) [.int (J x6), .int (J x1), rv 9] _ rfl rfl ?_
              refine r_iv rfl rfl rfl rfl rfl rfl t8 (lyk t8 rfl) rfl (xe_of (xa_r (xa_i (xa_i xa_0))) rfl rfl) (r_d0 hd rfl) (a_X8_idAt x1 x6 (r_d1 hd rfl) rx1 rx6 w t8 (fun x12 rx12 w => ?_))
              refine r_fI (pc1 := 44) rfl ?_
              have w := w rx12
              refine r_ist (pc1 := 46) (ls1 := [some (rv 51), some (.int (J p0)), some (.int (J p1)), some (.long (G p2)), none, some (.long (G p3)), none, some (.int (J x1)), some (.int (J x6)), some (.int (J x12))]) rfl rfl rfl rfl ?_
              refine r_n (pc1 := 48) [.long (G p3)] _ rfl rfl ?_
              refine r_n (pc1 := 50) [.int (J x12), .long (G p3)] _ rfl rfl ?_
              refine r_iq rfl rfl rfl rfl rfl rfl (xe_of (xa_l (xa_i xa_0)) rfl rfl) (r_d0 hd rfl) (a_X12_has p3 x12 (r_d1 hd rfl) rx12 w t8 (fun x13 rx13 vx13 w => ?_))
              refine r_fI (pc1 := 53) rfl ?_
              have w := w rx13 vx13
              obtain ⟨J15, j15, w⟩ := w
              have Q15 : ∀ (h14 : XH), HT h14 → HX h h14 → J15 h14 → RR sc goal fs 332 70 [some (rv 51), some (.int (J p0)), some (.int (J p1)), some (.long (G p2)), none, some (.long (G p3)), none, some (.int (J x1)), some (.int (J x6)), some (.int (J x12))] [] h14 := by
                intro h14 t14 s14 z15
                have w := j15 h14 t14 s14 z15
                refine r_inc (pc1 := 73) (g := fun zz => [some (rv 51), some (.int (J p0)), some (.int (J p1)), some (.long (G p2)), none, some (.long (G p3)), none, some (.int (J x1)), some (.int (J zz)), some (.int (J x12))]) rfl rfl rfl rfl (fun _ => rfl) (fun x16 ex16 rx16 => ?_)
                have w := w x16 ex16 rx16
                refine r_goto (t := 18) rfl rfl ?_
                exact ih9 _ x16 h14 t14 s14 rx16 (Nat.lt_of_lt_of_le w.2 (Nat.le_of_lt_succ q9)) w.1
              refine r_iz (t := 70) (pc1 := 56) rfl rfl rfl rx13 (fun c18 => ?_) (fun c18 => ?_)
              · have w := w.1 c18
                exact Q15   h8 t8 s8  w
              · have w := w.2 c18
                refine r_aldn (pc1 := 57) rfl rfl rfl ?_
                refine r_n (pc1 := 58) [.int (J 4), rv 51] _ rfl rfl ?_
                refine r_n (pc1 := 59) [.int (J p0), .int (J 4), rv 51] _ rfl rfl ?_
                refine r_n (pc1 := 60) [.int (J p1), .int (J p0), .int (J 4), rv 51] _ rfl rfl ?_
                refine r_n (pc1 := 61) [.long (G (0#64)), .int (J p1), .int (J p0), .int (J 4), rv 51] _ rfl rfl ?_
                refine r_n (pc1 := 62) [.long (G p2), .long (G (0#64)), .int (J p1), .int (J p0), .int (J 4), rv 51] _ rfl rfl ?_
                refine r_n (pc1 := 63) [.long (G (1#64)), .long (G p2), .long (G (0#64)), .int (J p1), .int (J p0), .int (J 4), rv 51] _ rfl rfl ?_
                refine r_n (pc1 := 65) [.int (J x12), .long (G (1#64)), .long (G p2), .long (G (0#64)), .int (J p1), .int (J p0), .int (J 4), rv 51] _ rfl rfl ?_
                refine r_lshl (pc1 := 66) rfl rfl ?_
                refine r_lor (pc1 := 67) rfl rfl ?_
                refine r_iv rfl rfl rfl rfl rfl rfl t8 (lyk t8 rfl) rfl (xe_of (xa_r (xa_i (xa_i (xa_i (xa_l (xa_l xa_0)))))) rfl rfl) (r_d0 hd rfl) (a_X1_add 4 p0 p1 (0#64) (p2 ||| (lshl (1#64) x12)) (r_d1 hd rfl) (rgk rfl) rp0 rp1 w t8 (fun h17 t17 u17 w => ?_))
                refine r_fV (pc1 := 70) rfl ?_
                have s17 := HX_trans s8 u17
                have w := w t17 u17
                exact Q15   h17 t17 s17  w
        exact Q9 _ _ 0 h4 t4 s4 (rgk rfl) (Nat.lt_succ_self _) w
  exact Q5 _ _ _ 0 h t0 (HX_refl h) (rgk rfl) (Nat.lt_succ_self _) w
def w_X1_tellVersion (p0 : Int) (p1 : Int) (K : XH → Prop) (h : XH) : Prop :=
  ((0 ≤ p1 ∧ p1 < 40) ∧ ∀ x2 : Int, x2 = hI h 14 p1.toNat → rg x2 → ∀ b3 : BitVec 64, b3 = lshl (1#64) p1 → (∃ (I7 : Int → XH → Prop) (m7 : Int → XH → Nat), I7 0 h ∧ ∀ (x4 : Int) (h6 : XH), HT h6 → HX h h6 → rg x4 → I7 x4 h6 → (((hI h6 18 p1.toNat ≤ x4 → ((∃ (I10 : Int → XH → Prop) (m10 : Int → XH → Nat), I10 0 h6 ∧ ∀ (x8 : Int) (h9 : XH), HT h9 → HX h h9 → rg x8 → I10 x8 h9 → (((hI h9 21 p1.toNat ≤ x8 → (w_X12_switchOf p0 (fun b11 => (w_X1_tellNeed 5 p0 x2 (hR h9 26 p1.toNat) (hL h9 47 p1.toNat) (b3 ||| b11) (fun h12 => HT h12 → HX h9 h12 → (K h12)) h9)) h9)) ∧ (¬ (hI h9 21 p1.toNat ≤ x8) → (∀ x13 : Int, x13 = wr ((wr (p1 * 2)) + x8) → rg x13 → (0 ≤ x13 ∧ x13 < 80) ∧ w_X1_tellBan p0 x2 b3 ((hL h9 46 x13.toNat) &&& (b3 ^^^ (18446744073709551615#64))) (fun h15 => HT h15 → HX h9 h15 → (∀ x16 : Int, x16 = wr (x8 + 1) → rg x16 → (I10 x16 h15 ∧ m10 x16 h15 < m10 x8 h9))) h9))))))) ∧ (¬ (hI h6 18 p1.toNat ≤ x4) → (∀ x18 : Int, x18 = wr ((wr (p1 * 3)) + x4) → rg x18 → (0 ≤ x18 ∧ x18 < 120) ∧ w_X1_tellNeed 3 p0 x2 (hR h6 19 x18.toNat) (hL h6 45 x18.toNat) b3 (fun h20 => HT h20 → HX h6 h20 → (∀ x21 : Int, x21 = wr (x4 + 1) → rg x21 → (I7 x21 h20 ∧ m7 x21 h20 < m7 x4 h6))) h6))))))
set_option maxHeartbeats 4000000 in
theorem a_X1_tellVersion {sc : Nat × (Nat → Int32)} {goal : XO → XH → Prop} {fs : List XF} {h : XH} (p0 : Int) (p1 : Int) {K : XH → Prop} (hd : fs.length + 2 ≤ 1000) (rp0 : rg p0) (rp1 : rg p1) (w : w_X1_tellVersion p0 p1 K h) (t0 : HT h) (k : ∀ (h1 : XH), HT h1 → HX h h1 → K h1 → XFin xP sc goal fs (.inl none) h1) : RR sc goal fs 337 0 [some (rv 51), some (.int (J p0)), some (.int (J p1)), none, none, none, none, none] [] h := by
  unfold w_X1_tellVersion at w
  refine r_aldn (pc1 := 1) rfl rfl rfl ?_
  refine r_gfC (pc1 := 4) (q := 9) rfl rfl rfl t0 (lyk t0 rfl) rfl rfl (lyR t0 rfl rfl) ?_
  refine r_gfC (pc1 := 7) (q := 14) rfl rfl rfl t0 (lyk t0 rfl) rfl rfl (lyR t0 rfl rfl) ?_
  refine r_n (pc1 := 8) [.int (J p1), rv 14] _ rfl rfl ?_
  obtain ⟨c1, w⟩ := w
  refine r_ial (pc1 := 9) rfl rfl t0 (lyk t0 rfl) rp1 c1.1 (lt_len (lyn t0 rfl) c1.2) ?_
  refine r_vI (rgh _ _ _) (fun x2 ex2 rx2 => ?_)
  have w := w x2 ex2 rx2
  refine r_istn (pc1 := 10) (ls1 := [some (rv 51), some (.int (J p0)), some (.int (J p1)), some (.int (J x2)), none, none, none, none]) rfl rfl rfl rfl ?_
  refine r_n (pc1 := 11) [.long (G (1#64))] _ rfl rfl ?_
  refine r_n (pc1 := 12) [.int (J p1), .long (G (1#64))] _ rfl rfl ?_
  refine r_lshl (pc1 := 13) rfl rfl ?_
  refine r_vL (fun b3 eb3 => ?_)
  have w := w b3 eb3
  refine r_lst (pc1 := 15) (ls1 := [some (rv 51), some (.int (J p0)), some (.int (J p1)), some (.int (J x2)), some (.long (G b3)), none, none, none]) rfl rfl rfl rfl ?_
  refine r_n (pc1 := 16) [.int (J 0)] _ rfl rfl ?_
  refine r_ist (pc1 := 18) (ls1 := [some (rv 51), some (.int (J p0)), some (.int (J p1)), some (.int (J x2)), some (.long (G b3)), none, some (.int (J 0)), none]) rfl rfl rfl rfl ?_
  obtain ⟨I7, m7, w, y7⟩ := w
  have Q7 : ∀ (n : Nat) (d5 : Option Value) (x4 : Int) (h6 : XH), HT h6 → HX h h6 → rg x4 → m7 x4 h6 < n → I7 x4 h6 → RR sc goal fs 337 18 [some (rv 51), some (.int (J p0)), some (.int (J p1)), some (.int (J x2)), some (.long (G b3)), none, some (.int (J x4)), d5] [] h6 := by
    intro n
    induction n with
    | zero => intro d5 x4 h6 t6 s6 rx4 q7 _; exact absurd q7 (Nat.not_lt_zero _)
    | succ n ih7 =>
      intro d5 x4 h6 t6 s6 rx4 q7 z7
      have w := y7 x4 h6 t6 s6 rx4 z7
      refine r_n (pc1 := 20) [.int (J x4)] _ rfl rfl ?_
      refine r_aldn (pc1 := 21) rfl rfl rfl ?_
      refine r_gfC (pc1 := 24) (q := 9) rfl rfl rfl t6 (lyk t6 rfl) rfl rfl (lyR t6 rfl rfl) ?_
      refine r_gfC (pc1 := 27) (q := 18) rfl rfl rfl t6 (lyk t6 rfl) rfl rfl (lyR t6 rfl rfl) ?_
      refine r_n (pc1 := 28) [.int (J p1), rv 18, .int (J x4)] _ rfl rfl ?_
      refine r_ial (pc1 := 29) rfl rfl t6 (lyk t6 rfl) rp1 c1.1 (lt_len (lyn t6 rfl) c1.2) ?_
      refine r_ic (t := 75) (pc1 := 32) rfl rfl rfl rx4 (rgh _ _ _) (fun c22 => ?_) (fun c22 => ?_)
      · have w := w.1 c22
        refine r_n (pc1 := 76) [.int (J 0)] _ rfl rfl ?_
        refine r_ist (pc1 := 78) (ls1 := [some (rv 51), some (.int (J p0)), some (.int (J p1)), some (.int (J x2)), some (.long (G b3)), none, some (.int (J 0)), d5]) rfl rfl rfl rfl ?_
        obtain ⟨I10, m10, w, y10⟩ := w
        have Q10 : ∀ (n : Nat)  (x8 : Int) (h9 : XH), HT h9 → HX h h9 → rg x8 → m10 x8 h9 < n → I10 x8 h9 → RR sc goal fs 337 78 [some (rv 51), some (.int (J p0)), some (.int (J p1)), some (.int (J x2)), some (.long (G b3)), none, some (.int (J x8)), d5] [] h9 := by
          intro n
          induction n with
          | zero => intro x8 h9 t9 s9 rx8 q10 _; exact absurd q10 (Nat.not_lt_zero _)
          | succ n ih10 =>
            intro x8 h9 t9 s9 rx8 q10 z10
            have w := y10 x8 h9 t9 s9 rx8 z10
            refine r_n (pc1 := 80) [.int (J x8)] _ rfl rfl ?_
            refine r_aldn (pc1 := 81) rfl rfl rfl ?_
            refine r_gfC (pc1 := 84) (q := 9) rfl rfl rfl t9 (lyk t9 rfl) rfl rfl (lyR t9 rfl rfl) ?_
            refine r_gfC (pc1 := 87) (q := 21) rfl rfl rfl t9 (lyk t9 rfl) rfl rfl (lyR t9 rfl rfl) ?_
            refine r_n (pc1 := 88) [.int (J p1), rv 21, .int (J x8)] _ rfl rfl ?_
            refine r_ial (pc1 := 89) rfl rfl t9 (lyk t9 rfl) rp1 c1.1 (lt_len (lyn t9 rfl) c1.2) ?_
            refine r_ic (t := 127) (pc1 := 92) rfl rfl rfl rx8 (rgh _ _ _) (fun c17 => ?_) (fun c17 => ?_)
            · have w := w.1 c17
              refine r_aldn (pc1 := 128) rfl rfl rfl ?_
              refine r_n (pc1 := 129) [.int (J 5), rv 51] _ rfl rfl ?_
              refine r_n (pc1 := 130) [.int (J p0), .int (J 5), rv 51] _ rfl rfl ?_
              refine r_n (pc1 := 131) [.int (J x2), .int (J p0), .int (J 5), rv 51] _ rfl rfl ?_
              refine r_aldn (pc1 := 132) rfl rfl rfl ?_
              refine r_gfC (pc1 := 135) (q := 9) rfl rfl rfl t9 (lyk t9 rfl) rfl rfl (lyR t9 rfl rfl) ?_
              refine r_gfC (pc1 := 138) (q := 26) rfl rfl rfl t9 (lyk t9 rfl) rfl rfl (lyR t9 rfl rfl) ?_
              refine r_n (pc1 := 139) [.int (J p1), rv 26, .int (J x2), .int (J p0), .int (J 5), rv 51] _ rfl rfl ?_
              refine r_aal (pc1 := 140) (u := 3) rfl rfl t9 (lyk t9 rfl) rfl rfl rp1 c1.1 (lt_len (lyn t9 rfl) c1.2) ?_
              refine r_aldn (pc1 := 141) rfl rfl rfl ?_
              refine r_gfC (pc1 := 144) (q := 44) rfl rfl rfl t9 (lyk t9 rfl) rfl rfl (lyR t9 rfl rfl) ?_
              refine r_gfC (pc1 := 147) (q := 47) rfl rfl rfl t9 (lyk t9 rfl) rfl rfl (lyR t9 rfl rfl) ?_
              refine r_n (pc1 := 148) [.int (J p1), rv 47, rv (hR h9 26 p1.toNat), .int (J x2), .int (J p0), .int (J 5), rv 51] _ rfl rfl ?_
              refine r_lal (pc1 := 149) rfl rfl t9 (lyk t9 rfl) rp1 c1.1 (lt_len (lyn t9 rfl) c1.2) ?_
              refine r_n (pc1 := 151) [.long (G b3), .long (G (hL h9 47 p1.toNat)), rv (hR h9 26 p1.toNat), .int (J x2), .int (J p0), .int (J 5), rv 51] _ rfl rfl ?_
              refine r_n (pc1 := 152) [.int (J p0), .long (G b3), .long (G (hL h9 47 p1.toNat)), rv (hR h9 26 p1.toNat), .int (J x2), .int (J p0), .int (J 5), rv 51] _ rfl rfl ?_
              refine r_iq rfl rfl rfl rfl rfl rfl (xe_of (xa_i xa_0) rfl rfl) (r_d0 hd rfl) (a_X12_switchOf p0 (r_d1 hd rfl) rp0 w t9 (fun b11 w => ?_))
              refine r_fL (pc1 := 155) rfl ?_
              refine r_lor (pc1 := 156) rfl rfl ?_
              refine r_iv rfl rfl rfl rfl rfl rfl t9 (lyk t9 rfl) rfl (xe_of (xa_r (xa_i (xa_i (xa_i (xa_r (xa_l (xa_l xa_0))))))) rfl rfl) (r_d0 hd rfl) (a_X1_tellNeed 5 p0 x2 (hR h9 26 p1.toNat) (hL h9 47 p1.toNat) (b3 ||| b11) (r_d1 hd rfl) (rgk rfl) rp0 rx2 w t9 (fun h12 t12 u12 w => ?_))
              refine r_fV (pc1 := 159) rfl ?_
              have s12 := HX_trans s9 u12
              have w := w t12 u12
              exact r_retV rfl rfl rfl (k _ t12 s12 w)
            · have w := w.2 c17
              refine r_aldn (pc1 := 93) rfl rfl rfl ?_
              refine r_n (pc1 := 94) [.int (J p0), rv 51] _ rfl rfl ?_
              refine r_n (pc1 := 95) [.int (J x2), .int (J p0), rv 51] _ rfl rfl ?_
              refine r_n (pc1 := 97) [.long (G b3), .int (J x2), .int (J p0), rv 51] _ rfl rfl ?_
              refine r_aldn (pc1 := 98) rfl rfl rfl ?_
              refine r_gfC (pc1 := 101) (q := 44) rfl rfl rfl t9 (lyk t9 rfl) rfl rfl (lyR t9 rfl rfl) ?_
              refine r_gfC (pc1 := 104) (q := 46) rfl rfl rfl t9 (lyk t9 rfl) rfl rfl (lyR t9 rfl rfl) ?_
              refine r_n (pc1 := 105) [.int (J p1), rv 46, .long (G b3), .int (J x2), .int (J p0), rv 51] _ rfl rfl ?_
              refine r_n (pc1 := 106) [.int (J 2), .int (J p1), rv 46, .long (G b3), .int (J x2), .int (J p0), rv 51] _ rfl rfl ?_
              refine r_imul (pc1 := 107) rfl rfl ?_
              refine r_n (pc1 := 109) [.int (J x8), .int (J (wr (p1 * 2))), rv 46, .long (G b3), .int (J x2), .int (J p0), rv 51] _ rfl rfl ?_
              refine r_iadd (pc1 := 110) rfl rfl ?_
              refine r_vI (rgw _) (fun x13 ex13 rx13 => ?_)
              have w := w x13 ex13 rx13
              obtain ⟨c14, w⟩ := w
              refine r_lal (pc1 := 111) rfl rfl t9 (lyk t9 rfl) rx13 c14.1 (lt_len (lyn t9 rfl) c14.2) ?_
              refine r_n (pc1 := 113) [.long (G b3), .long (G (hL h9 46 x13.toNat)), .long (G b3), .int (J x2), .int (J p0), rv 51] _ rfl rfl ?_
              refine r_n (pc1 := 116) [.long (G (18446744073709551615#64)), .long (G b3), .long (G (hL h9 46 x13.toNat)), .long (G b3), .int (J x2), .int (J p0), rv 51] _ rfl rfl ?_
              refine r_lxor (pc1 := 117) rfl rfl ?_
              refine r_land (pc1 := 118) rfl rfl ?_
              refine r_iv rfl rfl rfl rfl rfl rfl t9 (lyk t9 rfl) rfl (xe_of (xa_r (xa_i (xa_i (xa_l (xa_l xa_0))))) rfl rfl) (r_d0 hd rfl) (a_X1_tellBan p0 x2 b3 ((hL h9 46 x13.toNat) &&& (b3 ^^^ (18446744073709551615#64))) (r_d1 hd rfl) rp0 rx2 w t9 (fun h15 t15 u15 w => ?_))
              refine r_fV (pc1 := 121) rfl ?_
              have s15 := HX_trans s9 u15
              have w := w t15 u15
              refine r_inc (pc1 := 124) (g := fun zz => [some (rv 51), some (.int (J p0)), some (.int (J p1)), some (.int (J x2)), some (.long (G b3)), none, some (.int (J zz)), d5]) rfl rfl rfl rfl (fun _ => rfl) (fun x16 ex16 rx16 => ?_)
              have w := w x16 ex16 rx16
              refine r_goto (t := 78) rfl rfl ?_
              exact ih10  x16 h15 t15 s15 rx16 (Nat.lt_of_lt_of_le w.2 (Nat.le_of_lt_succ q10)) w.1
        exact Q10 _  0 h6 t6 s6 (rgk rfl) (Nat.lt_succ_self _) w
      · have w := w.2 c22
        refine r_n (pc1 := 33) [.int (J p1)] _ rfl rfl ?_
        refine r_n (pc1 := 34) [.int (J 3), .int (J p1)] _ rfl rfl ?_
        refine r_imul (pc1 := 35) rfl rfl ?_
        refine r_n (pc1 := 37) [.int (J x4), .int (J (wr (p1 * 3)))] _ rfl rfl ?_
        refine r_iadd (pc1 := 38) rfl rfl ?_
        refine r_vI (rgw _) (fun x18 ex18 rx18 => ?_)
        have w := w x18 ex18 rx18
        refine r_ist (pc1 := 40) (ls1 := [some (rv 51), some (.int (J p0)), some (.int (J p1)), some (.int (J x2)), some (.long (G b3)), none, some (.int (J x4)), some (.int (J x18))]) rfl rfl rfl rfl ?_
        refine r_aldn (pc1 := 41) rfl rfl rfl ?_
        refine r_n (pc1 := 42) [.int (J 3), rv 51] _ rfl rfl ?_
        refine r_n (pc1 := 43) [.int (J p0), .int (J 3), rv 51] _ rfl rfl ?_
        refine r_n (pc1 := 44) [.int (J x2), .int (J p0), .int (J 3), rv 51] _ rfl rfl ?_
        refine r_aldn (pc1 := 45) rfl rfl rfl ?_
        refine r_gfC (pc1 := 48) (q := 9) rfl rfl rfl t6 (lyk t6 rfl) rfl rfl (lyR t6 rfl rfl) ?_
        refine r_gfC (pc1 := 51) (q := 19) rfl rfl rfl t6 (lyk t6 rfl) rfl rfl (lyR t6 rfl rfl) ?_
        refine r_n (pc1 := 53) [.int (J x18), rv 19, .int (J x2), .int (J p0), .int (J 3), rv 51] _ rfl rfl ?_
        obtain ⟨c19, w⟩ := w
        refine r_aal (pc1 := 54) (u := 3) rfl rfl t6 (lyk t6 rfl) rfl rfl rx18 c19.1 (lt_len (lyn t6 rfl) c19.2) ?_
        refine r_aldn (pc1 := 55) rfl rfl rfl ?_
        refine r_gfC (pc1 := 58) (q := 44) rfl rfl rfl t6 (lyk t6 rfl) rfl rfl (lyR t6 rfl rfl) ?_
        refine r_gfC (pc1 := 61) (q := 45) rfl rfl rfl t6 (lyk t6 rfl) rfl rfl (lyR t6 rfl rfl) ?_
        refine r_n (pc1 := 63) [.int (J x18), rv 45, rv (hR h6 19 x18.toNat), .int (J x2), .int (J p0), .int (J 3), rv 51] _ rfl rfl ?_
        refine r_lal (pc1 := 64) rfl rfl t6 (lyk t6 rfl) rx18 c19.1 (lt_len (lyn t6 rfl) c19.2) ?_
        refine r_n (pc1 := 66) [.long (G b3), .long (G (hL h6 45 x18.toNat)), rv (hR h6 19 x18.toNat), .int (J x2), .int (J p0), .int (J 3), rv 51] _ rfl rfl ?_
        refine r_iv rfl rfl rfl rfl rfl rfl t6 (lyk t6 rfl) rfl (xe_of (xa_r (xa_i (xa_i (xa_i (xa_r (xa_l (xa_l xa_0))))))) rfl rfl) (r_d0 hd rfl) (a_X1_tellNeed 3 p0 x2 (hR h6 19 x18.toNat) (hL h6 45 x18.toNat) b3 (r_d1 hd rfl) (rgk rfl) rp0 rx2 w t6 (fun h20 t20 u20 w => ?_))
        refine r_fV (pc1 := 69) rfl ?_
        have s20 := HX_trans s6 u20
        have w := w t20 u20
        refine r_inc (pc1 := 72) (g := fun zz => [some (rv 51), some (.int (J p0)), some (.int (J p1)), some (.int (J x2)), some (.long (G b3)), none, some (.int (J zz)), some (.int (J x18))]) rfl rfl rfl rfl (fun _ => rfl) (fun x21 ex21 rx21 => ?_)
        have w := w x21 ex21 rx21
        refine r_goto (t := 18) rfl rfl ?_
        exact ih7 _ x21 h20 t20 s20 rx21 (Nat.lt_of_lt_of_le w.2 (Nat.le_of_lt_succ q7)) w.1
  exact Q7 _ _ 0 h t0 (HX_refl h) (rgk rfl) (Nat.lt_succ_self _) w
def w_X1_tellPairs (p0 : Int) (K : XH → Prop) (h : XH) : Prop :=
  ((∃ (I7 : Int → XH → Prop) (m7 : Int → XH → Nat), I7 0 h ∧ ∀ (x1 : Int) (h6 : XH), HT h6 → HX h h6 → rg x1 → I7 x1 h6 → ((0 ≤ p0 ∧ p0 < 12) ∧ ((hI h6 10 p0.toNat ≤ x1 → (K h6)) ∧ (¬ (hI h6 10 p0.toNat ≤ x1) → (w_X8_idAt p0 x1 (fun x9 => rg x9 → (∀ x10 : Int, x10 = wr (x1 + 1) → rg x10 → (∃ (I15 : Int → XH → Prop) (m15 : Int → XH → Nat), I15 x10 h6 ∧ ∀ (x11 : Int) (h14 : XH), HT h14 → HX h h14 → rg x11 → I15 x11 h14 → (((hI h14 10 p0.toNat ≤ x11 → (∀ x16 : Int, x16 = wr (x1 + 1) → rg x16 → (I7 x16 h14 ∧ m7 x16 h14 < m7 x1 h6))) ∧ (¬ (hI h14 10 p0.toNat ≤ x11) → (w_X8_idAt p0 x11 (fun x17 => rg x17 → (∀ b18 : BitVec 64, b18 = (lshl (1#64) x9) ||| (lshl (1#64) x17) → (0 ≤ x9 ∧ x9 < 40) ∧ w_X1_add 7 p0 (hI h14 14 x9.toNat) (0#64) b18 (fun h20 => HT h20 → HX h14 h20 → (∀ x21 : Int, x21 = wr (x11 + 1) → rg x21 → (I15 x21 h20 ∧ m15 x21 h20 < m15 x11 h14))) h14)) h14))))))) h6))))))
set_option maxHeartbeats 4000000 in
theorem a_X1_tellPairs {sc : Nat × (Nat → Int32)} {goal : XO → XH → Prop} {fs : List XF} {h : XH} (p0 : Int) {K : XH → Prop} (hd : fs.length + 1 ≤ 1000) (rp0 : rg p0) (w : w_X1_tellPairs p0 K h) (t0 : HT h) (k : ∀ (h1 : XH), HT h1 → HX h h1 → K h1 → XFin xP sc goal fs (.inl none) h1) : RR sc goal fs 336 0 [some (rv 51), some (.int (J p0)), none, none, none, none, none] [] h := by
  unfold w_X1_tellPairs at w
  refine r_n (pc1 := 1) [.int (J 0)] _ rfl rfl ?_
  refine r_istn (pc1 := 2) (ls1 := [some (rv 51), some (.int (J p0)), some (.int (J 0)), none, none, none, none]) rfl rfl rfl rfl ?_
  obtain ⟨I7, m7, w, y7⟩ := w
  have Q7 : ∀ (n : Nat) (d2 : Option Value) (d3 : Option Value) (d4 : Option Value) (d5 : Option Value) (x1 : Int) (h6 : XH), HT h6 → HX h h6 → rg x1 → m7 x1 h6 < n → I7 x1 h6 → RR sc goal fs 336 2 [some (rv 51), some (.int (J p0)), some (.int (J x1)), d2, d3, d4, d5] [] h6 := by
    intro n
    induction n with
    | zero => intro d2 d3 d4 d5 x1 h6 t6 s6 rx1 q7 _; exact absurd q7 (Nat.not_lt_zero _)
    | succ n ih7 =>
      intro d2 d3 d4 d5 x1 h6 t6 s6 rx1 q7 z7
      have w := y7 x1 h6 t6 s6 rx1 z7
      refine r_n (pc1 := 3) [.int (J x1)] _ rfl rfl ?_
      refine r_aldn (pc1 := 4) rfl rfl rfl ?_
      refine r_gfC (pc1 := 7) (q := 9) rfl rfl rfl t6 (lyk t6 rfl) rfl rfl (lyR t6 rfl rfl) ?_
      refine r_gfC (pc1 := 10) (q := 10) rfl rfl rfl t6 (lyk t6 rfl) rfl rfl (lyR t6 rfl rfl) ?_
      refine r_n (pc1 := 11) [.int (J p0), rv 10, .int (J x1)] _ rfl rfl ?_
      obtain ⟨c8, w⟩ := w
      refine r_ial (pc1 := 12) rfl rfl t6 (lyk t6 rfl) rp0 c8.1 (lt_len (lyn t6 rfl) c8.2) ?_
      refine r_ic (t := 93) (pc1 := 15) rfl rfl rfl rx1 (rgh _ _ _) (fun c23 => ?_) (fun c23 => ?_)
      · have w := w.1 c23
        exact r_retV rfl rfl rfl (k _ t6 s6 w)
      · have w := w.2 c23
        refine r_aldn (pc1 := 16) rfl rfl rfl ?_
        refine r_gfC (pc1 := 19) (q := 9) rfl rfl rfl t6 (lyk t6 rfl) rfl rfl (lyR t6 rfl rfl) ?_
        refine r_n (pc1 := 20) [.int (J p0), rv 9] _ rfl rfl ?_
        refine r_n (pc1 := 21) [.int (J x1), .int (J p0), rv 9] _ rfl rfl ?_
        refine r_iv rfl rfl rfl rfl rfl rfl t6 (lyk t6 rfl) rfl (xe_of (xa_r (xa_i (xa_i xa_0))) rfl rfl) (r_d0 hd rfl) (a_X8_idAt p0 x1 (r_d1 hd rfl) rp0 rx1 w t6 (fun x9 rx9 w => ?_))
        refine r_fI (pc1 := 24) rfl ?_
        have w := w rx9
        refine r_istn (pc1 := 25) (ls1 := [some (rv 51), some (.int (J p0)), some (.int (J x1)), some (.int (J x9)), d3, d4, d5]) rfl rfl rfl rfl ?_
        refine r_n (pc1 := 26) [.int (J x1)] _ rfl rfl ?_
        refine r_n (pc1 := 27) [.int (J 1), .int (J x1)] _ rfl rfl ?_
        refine r_iadd (pc1 := 28) rfl rfl ?_
        refine r_vI (rgw _) (fun x10 ex10 rx10 => ?_)
        have w := w x10 ex10 rx10
        refine r_ist (pc1 := 30) (ls1 := [some (rv 51), some (.int (J p0)), some (.int (J x1)), some (.int (J x9)), some (.int (J x10)), d4, d5]) rfl rfl rfl rfl ?_
        obtain ⟨I15, m15, w, y15⟩ := w
        have Q15 : ∀ (n : Nat) (d12 : Option Value) (d13 : Option Value) (x11 : Int) (h14 : XH), HT h14 → HX h h14 → rg x11 → m15 x11 h14 < n → I15 x11 h14 → RR sc goal fs 336 30 [some (rv 51), some (.int (J p0)), some (.int (J x1)), some (.int (J x9)), some (.int (J x11)), d12, d13] [] h14 := by
          intro n
          induction n with
          | zero => intro d12 d13 x11 h14 t14 s14 rx11 q15 _; exact absurd q15 (Nat.not_lt_zero _)
          | succ n ih15 =>
            intro d12 d13 x11 h14 t14 s14 rx11 q15 z15
            have w := y15 x11 h14 t14 s14 rx11 z15
            refine r_n (pc1 := 32) [.int (J x11)] _ rfl rfl ?_
            refine r_aldn (pc1 := 33) rfl rfl rfl ?_
            refine r_gfC (pc1 := 36) (q := 9) rfl rfl rfl t14 (lyk t14 rfl) rfl rfl (lyR t14 rfl rfl) ?_
            refine r_gfC (pc1 := 39) (q := 10) rfl rfl rfl t14 (lyk t14 rfl) rfl rfl (lyR t14 rfl rfl) ?_
            refine r_n (pc1 := 40) [.int (J p0), rv 10, .int (J x11)] _ rfl rfl ?_
            refine r_ial (pc1 := 41) rfl rfl t14 (lyk t14 rfl) rp0 c8.1 (lt_len (lyn t14 rfl) c8.2) ?_
            refine r_ic (t := 87) (pc1 := 44) rfl rfl rfl rx11 (rgh _ _ _) (fun c22 => ?_) (fun c22 => ?_)
            · have w := w.1 c22
              refine r_inc (pc1 := 90) (g := fun zz => [some (rv 51), some (.int (J p0)), some (.int (J zz)), some (.int (J x9)), some (.int (J x11)), d12, d13]) rfl rfl rfl rfl (fun _ => rfl) (fun x16 ex16 rx16 => ?_)
              have w := w x16 ex16 rx16
              refine r_goto (t := 2) rfl rfl ?_
              exact ih7 _ _ _ _ x16 h14 t14 s14 rx16 (Nat.lt_of_lt_of_le w.2 (Nat.le_of_lt_succ q7)) w.1
            · have w := w.2 c22
              refine r_n (pc1 := 45) [.long (G (1#64))] _ rfl rfl ?_
              refine r_n (pc1 := 46) [.int (J x9), .long (G (1#64))] _ rfl rfl ?_
              refine r_lshl (pc1 := 47) rfl rfl ?_
              refine r_n (pc1 := 48) [.long (G (1#64)), .long (G (lshl (1#64) x9))] _ rfl rfl ?_
              refine r_aldn (pc1 := 49) rfl rfl rfl ?_
              refine r_gfC (pc1 := 52) (q := 9) rfl rfl rfl t14 (lyk t14 rfl) rfl rfl (lyR t14 rfl rfl) ?_
              refine r_n (pc1 := 53) [.int (J p0), rv 9, .long (G (1#64)), .long (G (lshl (1#64) x9))] _ rfl rfl ?_
              refine r_n (pc1 := 55) [.int (J x11), .int (J p0), rv 9, .long (G (1#64)), .long (G (lshl (1#64) x9))] _ rfl rfl ?_
              refine r_iv rfl rfl rfl rfl rfl rfl t14 (lyk t14 rfl) rfl (xe_of (xa_r (xa_i (xa_i xa_0))) rfl rfl) (r_d0 hd rfl) (a_X8_idAt p0 x11 (r_d1 hd rfl) rp0 rx11 w t14 (fun x17 rx17 w => ?_))
              refine r_fI (pc1 := 58) rfl ?_
              have w := w rx17
              refine r_lshl (pc1 := 59) rfl rfl ?_
              refine r_lor (pc1 := 60) rfl rfl ?_
              refine r_vL (fun b18 eb18 => ?_)
              have w := w b18 eb18
              refine r_lst (pc1 := 62) (ls1 := [some (rv 51), some (.int (J p0)), some (.int (J x1)), some (.int (J x9)), some (.int (J x11)), some (.long (G b18)), none]) rfl rfl rfl rfl ?_
              refine r_aldn (pc1 := 63) rfl rfl rfl ?_
              refine r_n (pc1 := 65) [.int (J 7), rv 51] _ rfl rfl ?_
              refine r_n (pc1 := 66) [.int (J p0), .int (J 7), rv 51] _ rfl rfl ?_
              refine r_aldn (pc1 := 67) rfl rfl rfl ?_
              refine r_gfC (pc1 := 70) (q := 9) rfl rfl rfl t14 (lyk t14 rfl) rfl rfl (lyR t14 rfl rfl) ?_
              refine r_gfC (pc1 := 73) (q := 14) rfl rfl rfl t14 (lyk t14 rfl) rfl rfl (lyR t14 rfl rfl) ?_
              refine r_n (pc1 := 74) [.int (J x9), rv 14, .int (J p0), .int (J 7), rv 51] _ rfl rfl ?_
              obtain ⟨c19, w⟩ := w
              refine r_ial (pc1 := 75) rfl rfl t14 (lyk t14 rfl) rx9 c19.1 (lt_len (lyn t14 rfl) c19.2) ?_
              refine r_n (pc1 := 76) [.long (G (0#64)), .int (J (hI h14 14 x9.toNat)), .int (J p0), .int (J 7), rv 51] _ rfl rfl ?_
              refine r_n (pc1 := 78) [.long (G b18), .long (G (0#64)), .int (J (hI h14 14 x9.toNat)), .int (J p0), .int (J 7), rv 51] _ rfl rfl ?_
              refine r_iv rfl rfl rfl rfl rfl rfl t14 (lyk t14 rfl) rfl (xe_of (xa_r (xa_i (xa_i (xa_i (xa_l (xa_l xa_0)))))) rfl rfl) (r_d0 hd rfl) (a_X1_add 7 p0 (hI h14 14 x9.toNat) (0#64) b18 (r_d1 hd rfl) (rgk rfl) rp0 (rgh _ _ _) w t14 (fun h20 t20 u20 w => ?_))
              refine r_fV (pc1 := 81) rfl ?_
              have s20 := HX_trans s14 u20
              have w := w t20 u20
              refine r_inc (pc1 := 84) (g := fun zz => [some (rv 51), some (.int (J p0)), some (.int (J x1)), some (.int (J x9)), some (.int (J zz)), some (.long (G b18)), none]) rfl rfl rfl rfl (fun _ => rfl) (fun x21 ex21 rx21 => ?_)
              have w := w x21 ex21 rx21
              refine r_goto (t := 30) rfl rfl ?_
              exact ih15 _ _ x21 h20 t20 s20 rx21 (Nat.lt_of_lt_of_le w.2 (Nat.le_of_lt_succ q15)) w.1
        exact Q15 _ _ _ x10 h6 t6 s6 rx10 (Nat.lt_succ_self _) w
  exact Q7 _ _ _ _ _ 0 h t0 (HX_refl h) (rgk rfl) (Nat.lt_succ_self _) w
def w_X1_tell  (K : XH → Prop) (h : XH) : Prop :=
  (∀ h1 : XH, h1 = sI h 51 3 0 → HT h1 → HX h h1 → w_X11_atHand (fun a2 => ((∃ (I5 : Int → XH → Prop) (m5 : Int → XH → Nat), I5 0 h1 ∧ ∀ (x3 : Int) (h4 : XH), HT h4 → HX h h4 → rg x3 → I5 x3 h4 → (hk h4 a2 = 7 ∧ ((hI h4 a2 0 ≤ x3 → ((∃ (I9 : Int → XH → Prop) (m9 : Int → XH → Nat), I9 0 h4 ∧ ∀ (x7 : Int) (h8 : XH), HT h8 → HX h h8 → rg x7 → I9 x7 h8 → (((hI h8 9 0 ≤ x7 → ((∃ (I13 : Int → XH → Prop) (m13 : Int → XH → Nat), I13 0 h8 ∧ ∀ (x11 : Int) (h12 : XH), HT h12 → HX h h12 → rg x11 → I13 x11 h12 → (((hI h12 9 0 ≤ x11 → ((∃ (I18 : Int → XH → Prop) (m18 : Int → XH → Nat), I18 0 h12 ∧ ∀ (x15 : Int) (h17 : XH), HT h17 → HX h h17 → rg x15 → I18 x15 h17 → (((hI h17 9 0 ≤ x15 → (K h17)) ∧ (¬ (hI h17 9 0 ≤ x15) → ((∃ (I21 : Int → XH → Prop) (m21 : Int → XH → Nat), I21 0 h17 ∧ ∀ (x19 : Int) (h20 : XH), HT h20 → HX h h20 → rg x19 → I21 x19 h20 → ((0 ≤ x15 ∧ x15 < 12) ∧ ((hI h20 10 x15.toNat ≤ x19 → (w_X12_switchOf x15 (fun b23 => (w_X1_add 6 x15 (-1) (hL h20 48 x15.toNat) b23 (fun h24 => HT h24 → HX h20 h24 → (w_X1_tellPairs x15 (fun h25 => HT h25 → HX h24 h25 → (∀ x26 : Int, x26 = wr (x15 + 1) → rg x26 → (I18 x26 h25 ∧ m18 x26 h25 < m18 x15 h17))) h24)) h20)) h20)) ∧ (¬ (hI h20 10 x15.toNat ≤ x19) → (w_X8_idAt x15 x19 (fun x27 => rg x27 → (w_X1_tellVersion x15 x27 (fun h28 => HT h28 → HX h20 h28 → (∀ x29 : Int, x29 = wr (x19 + 1) → rg x29 → (I21 x29 h28 ∧ m21 x29 h28 < m21 x19 h20))) h20)) h20)))))))))))) ∧ (¬ (hI h12 9 0 ≤ x11) → ((0 ≤ x11 ∧ x11 < 12) ∧ w_X1_tellNone 2 x11 (hL h12 50 x11.toNat) (fun h33 => HT h33 → HX h12 h33 → (∀ x34 : Int, x34 = wr (x11 + 1) → rg x34 → (I13 x34 h33 ∧ m13 x34 h33 < m13 x11 h12))) h12))))))) ∧ (¬ (hI h8 9 0 ≤ x7) → (hk h8 a2 = 7 ∧ ∃ J38 : XH → Prop, (∀ (h37 : XH), HT h37 → HX h h37 → J38 h37 → (∀ x39 : Int, x39 = wr (x7 + 1) → rg x39 → (I9 x39 h37 ∧ m9 x39 h37 < m9 x7 h8))) ∧ ((iand (ishr (hI h8 a2 2) x7) 1 = 0 → J38 h8) ∧ (¬ (iand (ishr (hI h8 a2 2) x7) 1 = 0) → (w_X1_tellHold x7 (hL h8 a2 6) (fun h40 => HT h40 → HX h8 h40 → J38 h40) h8)))))))))) ∧ (¬ (hI h4 a2 0 ≤ x3) → ((0 ≤ x3 ∧ x3 < 8) ∧ w_X1_tellNeed 0 x3 (-1) (hR h4 (a2 + 1) x3.toNat) (hL h4 49 x3.toNat) (0#64) (fun h44 => HT h44 → HX h4 h44 → (∀ x45 : Int, x45 = wr (x3 + 1) → rg x45 → (I5 x45 h44 ∧ m5 x45 h44 < m5 x3 h4))) h4))))))) h1)
set_option maxHeartbeats 4000000 in
theorem a_X1_tell {sc : Nat × (Nat → Int32)} {goal : XO → XH → Prop} {fs : List XF} {h : XH}  {K : XH → Prop} (hd : fs.length + 3 ≤ 1000) (w : w_X1_tell  K h) (t0 : HT h) (k : ∀ (h1 : XH), HT h1 → HX h h1 → K h1 → XFin xP sc goal fs (.inl none) h1) : RR sc goal fs 331 0 [some (rv 51), none, none, none] [] h := by
  unfold w_X1_tell at w
  refine r_aldn (pc1 := 1) rfl rfl rfl ?_
  refine r_n (pc1 := 2) [.int (J 0), rv 51] _ rfl rfl ?_
  refine r_pfI (pc1 := 5) rfl rfl rfl t0 (lyk t0 rfl) rfl rfl rfl (fun h1 eh1 t1 u1 => ?_)
  have w := w h1 eh1 t1 u1
  have s1 := HX_trans (HX_refl h) u1
  refine r_aldn (pc1 := 6) rfl rfl rfl ?_
  refine r_gfC (pc1 := 9) (q := 8) rfl rfl rfl t1 (lyk t1 rfl) rfl rfl (lyR t1 rfl rfl) ?_
  refine r_iv rfl rfl rfl rfl rfl rfl t1 (lyk t1 rfl) rfl (xe_of (xa_r xa_0) rfl rfl) (r_d0 hd rfl) (a_X11_atHand  (r_d1 hd rfl)  w t1 (fun a2 w => ?_))
  refine r_fR (pc1 := 12) rfl ?_
  refine r_astn (pc1 := 13) (ls1 := [some (rv 51), some (rv a2), none, none]) rfl rfl rfl rfl ?_
  refine r_n (pc1 := 14) [.int (J 0)] _ rfl rfl ?_
  refine r_istn (pc1 := 15) (ls1 := [some (rv 51), some (rv a2), some (.int (J 0)), none]) rfl rfl rfl (xput1_rv rfl rfl) ?_
  obtain ⟨I5, m5, w, y5⟩ := w
  have Q5 : ∀ (n : Nat)  (x3 : Int) (h4 : XH), HT h4 → HX h h4 → rg x3 → m5 x3 h4 < n → I5 x3 h4 → RR sc goal fs 331 15 [some (rv 51), some (rv a2), some (.int (J x3)), none] [] h4 := by
    intro n
    induction n with
    | zero => intro x3 h4 t4 s4 rx3 q5 _; exact absurd q5 (Nat.not_lt_zero _)
    | succ n ih5 =>
      intro x3 h4 t4 s4 rx3 q5 z5
      have w := y5 x3 h4 t4 s4 rx3 z5
      refine r_n (pc1 := 16) [.int (J x3)] _ rfl rfl ?_
      refine r_aldn (pc1 := 17) rfl rfl rfl ?_
      obtain ⟨c6, w⟩ := w
      refine r_gfI (pc1 := 20) rfl rfl rfl t4 c6 rfl rfl ?_
      refine r_ic (t := 52) (pc1 := 23) rfl rfl rfl rx3 (rgh _ _ _) (fun c46 => ?_) (fun c46 => ?_)
      · have w := w.1 c46
        refine r_n (pc1 := 53) [.int (J 0)] _ rfl rfl ?_
        refine r_istn (pc1 := 54) (ls1 := [some (rv 51), some (rv a2), some (.int (J 0)), none]) rfl rfl rfl (xput1_rv rfl rfl) ?_
        obtain ⟨I9, m9, w, y9⟩ := w
        have Q9 : ∀ (n : Nat)  (x7 : Int) (h8 : XH), HT h8 → HX h h8 → rg x7 → m9 x7 h8 < n → I9 x7 h8 → RR sc goal fs 331 54 [some (rv 51), some (rv a2), some (.int (J x7)), none] [] h8 := by
          intro n
          induction n with
          | zero => intro x7 h8 t8 s8 rx7 q9 _; exact absurd q9 (Nat.not_lt_zero _)
          | succ n ih9 =>
            intro x7 h8 t8 s8 rx7 q9 z9
            have w := y9 x7 h8 t8 s8 rx7 z9
            refine r_n (pc1 := 55) [.int (J x7)] _ rfl rfl ?_
            refine r_aldn (pc1 := 56) rfl rfl rfl ?_
            refine r_gfC (pc1 := 59) (q := 9) rfl rfl rfl t8 (lyk t8 rfl) rfl rfl (lyR t8 rfl rfl) ?_
            refine r_gfI (pc1 := 62) rfl rfl rfl t8 (lyk t8 rfl) rfl rfl ?_
            refine r_ic (t := 91) (pc1 := 65) rfl rfl rfl rx7 (rgh _ _ _) (fun c42 => ?_) (fun c42 => ?_)
            · have w := w.1 c42
              refine r_n (pc1 := 92) [.int (J 0)] _ rfl rfl ?_
              refine r_istn (pc1 := 93) (ls1 := [some (rv 51), some (rv a2), some (.int (J 0)), none]) rfl rfl rfl (xput1_rv rfl rfl) ?_
              obtain ⟨I13, m13, w, y13⟩ := w
              have Q13 : ∀ (n : Nat) (d10 : Option Value) (x11 : Int) (h12 : XH), HT h12 → HX h h12 → rg x11 → m13 x11 h12 < n → I13 x11 h12 → RR sc goal fs 331 93 [some (rv 51), d10, some (.int (J x11)), none] [] h12 := by
                intro n
                induction n with
                | zero => intro d10 x11 h12 t12 s12 rx11 q13 _; exact absurd q13 (Nat.not_lt_zero _)
                | succ n ih13 =>
                  intro d10 x11 h12 t12 s12 rx11 q13 z13
                  have w := y13 x11 h12 t12 s12 rx11 z13
                  refine r_n (pc1 := 94) [.int (J x11)] _ rfl rfl ?_
                  refine r_aldn (pc1 := 95) rfl rfl rfl ?_
                  refine r_gfC (pc1 := 98) (q := 9) rfl rfl rfl t12 (lyk t12 rfl) rfl rfl (lyR t12 rfl rfl) ?_
                  refine r_gfI (pc1 := 101) rfl rfl rfl t12 (lyk t12 rfl) rfl rfl ?_
                  refine r_ic (t := 125) (pc1 := 104) rfl rfl rfl rx11 (rgh _ _ _) (fun c35 => ?_) (fun c35 => ?_)
                  · have w := w.1 c35
                    refine r_n (pc1 := 126) [.int (J 0)] _ rfl rfl ?_
                    refine r_istn (pc1 := 127) (ls1 := [some (rv 51), (dcl d10), some (.int (J 0)), none]) rfl rfl rfl (xput1_d rfl rfl) ?_
                    obtain ⟨I18, m18, w, y18⟩ := w
                    have Q18 : ∀ (n : Nat) (d14 : Option Value) (d16 : Option Value) (x15 : Int) (h17 : XH), HT h17 → HX h h17 → rg x15 → m18 x15 h17 < n → I18 x15 h17 → RR sc goal fs 331 127 [some (rv 51), d14, some (.int (J x15)), d16] [] h17 := by
                      intro n
                      induction n with
                      | zero => intro d14 d16 x15 h17 t17 s17 rx15 q18 _; exact absurd q18 (Nat.not_lt_zero _)
                      | succ n ih18 =>
                        intro d14 d16 x15 h17 t17 s17 rx15 q18 z18
                        have w := y18 x15 h17 t17 s17 rx15 z18
                        refine r_n (pc1 := 128) [.int (J x15)] _ rfl rfl ?_
                        refine r_aldn (pc1 := 129) rfl rfl rfl ?_
                        refine r_gfC (pc1 := 132) (q := 9) rfl rfl rfl t17 (lyk t17 rfl) rfl rfl (lyR t17 rfl rfl) ?_
                        refine r_gfI (pc1 := 135) rfl rfl rfl t17 (lyk t17 rfl) rfl rfl ?_
                        refine r_ic (t := 205) (pc1 := 138) rfl rfl rfl rx15 (rgh _ _ _) (fun c31 => ?_) (fun c31 => ?_)
                        · have w := w.1 c31
                          exact r_retV rfl rfl rfl (k _ t17 s17 w)
                        · have w := w.2 c31
                          refine r_n (pc1 := 139) [.int (J 0)] _ rfl rfl ?_
                          refine r_istn (pc1 := 140) (ls1 := [some (rv 51), d14, some (.int (J x15)), some (.int (J 0))]) rfl rfl rfl rfl ?_
                          obtain ⟨I21, m21, w, y21⟩ := w
                          have Q21 : ∀ (n : Nat)  (x19 : Int) (h20 : XH), HT h20 → HX h h20 → rg x19 → m21 x19 h20 < n → I21 x19 h20 → RR sc goal fs 331 140 [some (rv 51), d14, some (.int (J x15)), some (.int (J x19))] [] h20 := by
                            intro n
                            induction n with
                            | zero => intro x19 h20 t20 s20 rx19 q21 _; exact absurd q21 (Nat.not_lt_zero _)
                            | succ n ih21 =>
                              intro x19 h20 t20 s20 rx19 q21 z21
                              have w := y21 x19 h20 t20 s20 rx19 z21
                              refine r_n (pc1 := 141) [.int (J x19)] _ rfl rfl ?_
                              refine r_aldn (pc1 := 142) rfl rfl rfl ?_
                              refine r_gfC (pc1 := 145) (q := 9) rfl rfl rfl t20 (lyk t20 rfl) rfl rfl (lyR t20 rfl rfl) ?_
                              refine r_gfC (pc1 := 148) (q := 10) rfl rfl rfl t20 (lyk t20 rfl) rfl rfl (lyR t20 rfl rfl) ?_
                              refine r_n (pc1 := 149) [.int (J x15), rv 10, .int (J x19)] _ rfl rfl ?_
                              obtain ⟨c22, w⟩ := w
                              refine r_ial (pc1 := 150) rfl rfl t20 (lyk t20 rfl) rx15 c22.1 (lt_len (lyn t20 rfl) c22.2) ?_
                              refine r_ic (t := 173) (pc1 := 153) rfl rfl rfl rx19 (rgh _ _ _) (fun c30 => ?_) (fun c30 => ?_)
                              · have w := w.1 c30
                                refine r_aldn (pc1 := 174) rfl rfl rfl ?_
                                refine r_n (pc1 := 176) [.int (J 6), rv 51] _ rfl rfl ?_
                                refine r_n (pc1 := 177) [.int (J x15), .int (J 6), rv 51] _ rfl rfl ?_
                                refine r_n (pc1 := 178) [.int (J (-1)), .int (J x15), .int (J 6), rv 51] _ rfl rfl ?_
                                refine r_aldn (pc1 := 179) rfl rfl rfl ?_
                                refine r_gfC (pc1 := 182) (q := 44) rfl rfl rfl t20 (lyk t20 rfl) rfl rfl (lyR t20 rfl rfl) ?_
                                refine r_gfC (pc1 := 185) (q := 48) rfl rfl rfl t20 (lyk t20 rfl) rfl rfl (lyR t20 rfl rfl) ?_
                                refine r_n (pc1 := 186) [.int (J x15), rv 48, .int (J (-1)), .int (J x15), .int (J 6), rv 51] _ rfl rfl ?_
                                refine r_lal (pc1 := 187) rfl rfl t20 (lyk t20 rfl) rx15 c22.1 (lt_len (lyn t20 rfl) c22.2) ?_
                                refine r_n (pc1 := 188) [.int (J x15), .long (G (hL h20 48 x15.toNat)), .int (J (-1)), .int (J x15), .int (J 6), rv 51] _ rfl rfl ?_
                                refine r_iq rfl rfl rfl rfl rfl rfl (xe_of (xa_i xa_0) rfl rfl) (r_d0 hd rfl) (a_X12_switchOf x15 (r_d1 hd rfl) rx15 w t20 (fun b23 w => ?_))
                                refine r_fL (pc1 := 191) rfl ?_
                                refine r_iv rfl rfl rfl rfl rfl rfl t20 (lyk t20 rfl) rfl (xe_of (xa_r (xa_i (xa_i (xa_i (xa_l (xa_l xa_0)))))) rfl rfl) (r_d0 hd rfl) (a_X1_add 6 x15 (-1) (hL h20 48 x15.toNat) b23 (r_d1 hd rfl) (rgk rfl) rx15 (rgk rfl) w t20 (fun h24 t24 u24 w => ?_))
                                refine r_fV (pc1 := 194) rfl ?_
                                have s24 := HX_trans s20 u24
                                have w := w t24 u24
                                refine r_aldn (pc1 := 195) rfl rfl rfl ?_
                                refine r_n (pc1 := 196) [.int (J x15), rv 51] _ rfl rfl ?_
                                refine r_iv rfl rfl rfl rfl rfl rfl t24 (lyk t24 rfl) rfl (xe_of (xa_r (xa_i xa_0)) rfl rfl) (r_d0 hd rfl) (a_X1_tellPairs x15 (r_d1 hd rfl) rx15 w t24 (fun h25 t25 u25 w => ?_))
                                refine r_fV (pc1 := 199) rfl ?_
                                have s25 := HX_trans s24 u25
                                have w := w t25 u25
                                refine r_inc (pc1 := 202) (g := fun zz => [some (rv 51), (dcl d14), some (.int (J zz)), some (.int (J x19))]) rfl rfl rfl rfl (fun _ => xput1_d rfl rfl) (fun x26 ex26 rx26 => ?_)
                                have w := w x26 ex26 rx26
                                refine r_goto (t := 127) rfl rfl ?_
                                exact ih18 _ _ x26 h25 t25 s25 rx26 (Nat.lt_of_lt_of_le w.2 (Nat.le_of_lt_succ q18)) w.1
                              · have w := w.2 c30
                                refine r_aldn (pc1 := 154) rfl rfl rfl ?_
                                refine r_n (pc1 := 155) [.int (J x15), rv 51] _ rfl rfl ?_
                                refine r_aldn (pc1 := 156) rfl rfl rfl ?_
                                refine r_gfC (pc1 := 159) (q := 9) rfl rfl rfl t20 (lyk t20 rfl) rfl rfl (lyR t20 rfl rfl) ?_
                                refine r_n (pc1 := 160) [.int (J x15), rv 9, .int (J x15), rv 51] _ rfl rfl ?_
                                refine r_n (pc1 := 161) [.int (J x19), .int (J x15), rv 9, .int (J x15), rv 51] _ rfl rfl ?_
                                refine r_iv rfl rfl rfl rfl rfl rfl t20 (lyk t20 rfl) rfl (xe_of (xa_r (xa_i (xa_i xa_0))) rfl rfl) (r_d0 hd rfl) (a_X8_idAt x15 x19 (r_d1 hd rfl) rx15 rx19 w t20 (fun x27 rx27 w => ?_))
                                refine r_fI (pc1 := 164) rfl ?_
                                have w := w rx27
                                refine r_iv rfl rfl rfl rfl rfl rfl t20 (lyk t20 rfl) rfl (xe_of (xa_r (xa_i (xa_i xa_0))) rfl rfl) (r_d0 hd rfl) (a_X1_tellVersion x15 x27 (r_d1 hd rfl) rx15 rx27 w t20 (fun h28 t28 u28 w => ?_))
                                refine r_fV (pc1 := 167) rfl ?_
                                have s28 := HX_trans s20 u28
                                have w := w t28 u28
                                refine r_inc (pc1 := 170) (g := fun zz => [some (rv 51), d14, some (.int (J x15)), some (.int (J zz))]) rfl rfl rfl rfl (fun _ => rfl) (fun x29 ex29 rx29 => ?_)
                                have w := w x29 ex29 rx29
                                refine r_goto (t := 140) rfl rfl ?_
                                exact ih21  x29 h28 t28 s28 rx29 (Nat.lt_of_lt_of_le w.2 (Nat.le_of_lt_succ q21)) w.1
                          exact Q21 _  0 h17 t17 s17 (rgk rfl) (Nat.lt_succ_self _) w
                    exact Q18 _ _ _ 0 h12 t12 s12 (rgk rfl) (Nat.lt_succ_self _) w
                  · have w := w.2 c35
                    refine r_aldn (pc1 := 105) rfl rfl rfl ?_
                    refine r_n (pc1 := 106) [.int (J 2), rv 51] _ rfl rfl ?_
                    refine r_n (pc1 := 107) [.int (J x11), .int (J 2), rv 51] _ rfl rfl ?_
                    refine r_aldn (pc1 := 108) rfl rfl rfl ?_
                    refine r_gfC (pc1 := 111) (q := 44) rfl rfl rfl t12 (lyk t12 rfl) rfl rfl (lyR t12 rfl rfl) ?_
                    refine r_gfC (pc1 := 114) (q := 50) rfl rfl rfl t12 (lyk t12 rfl) rfl rfl (lyR t12 rfl rfl) ?_
                    refine r_n (pc1 := 115) [.int (J x11), rv 50, .int (J x11), .int (J 2), rv 51] _ rfl rfl ?_
                    obtain ⟨c32, w⟩ := w
                    refine r_lal (pc1 := 116) rfl rfl t12 (lyk t12 rfl) rx11 c32.1 (lt_len (lyn t12 rfl) c32.2) ?_
                    refine r_iv rfl rfl rfl rfl rfl rfl t12 (lyk t12 rfl) rfl (xe_of (xa_r (xa_i (xa_i (xa_l xa_0)))) rfl rfl) (r_d0 hd rfl) (a_X1_tellNone 2 x11 (hL h12 50 x11.toNat) (r_d1 hd rfl) (rgk rfl) rx11 w t12 (fun h33 t33 u33 w => ?_))
                    refine r_fV (pc1 := 119) rfl ?_
                    have s33 := HX_trans s12 u33
                    have w := w t33 u33
                    refine r_inc (pc1 := 122) (g := fun zz => [some (rv 51), (dcl d10), some (.int (J zz)), none]) rfl rfl rfl rfl (fun _ => xput1_d rfl rfl) (fun x34 ex34 rx34 => ?_)
                    have w := w x34 ex34 rx34
                    refine r_goto (t := 93) rfl rfl ?_
                    exact ih13 _ x34 h33 t33 s33 rx34 (Nat.lt_of_lt_of_le w.2 (Nat.le_of_lt_succ q13)) w.1
              exact Q13 _ _ 0 h8 t8 s8 (rgk rfl) (Nat.lt_succ_self _) w
            · have w := w.2 c42
              refine r_aldn (pc1 := 66) rfl rfl rfl ?_
              obtain ⟨c36, w⟩ := w
              refine r_gfI (pc1 := 69) rfl rfl rfl t8 c36 rfl rfl ?_
              refine r_n (pc1 := 70) [.int (J x7), .int (J (hI h8 a2 2))] _ rfl rfl ?_
              refine r_ishr (pc1 := 71) rfl rfl ?_
              refine r_n (pc1 := 72) [.int (J 1), .int (J (ishr (hI h8 a2 2) x7))] _ rfl rfl ?_
              refine r_iand (pc1 := 73) rfl rfl ?_
              obtain ⟨J38, j38, w⟩ := w
              have Q38 : ∀ (h37 : XH), HT h37 → HX h h37 → J38 h37 → RR sc goal fs 331 85 [some (rv 51), some (rv a2), some (.int (J x7)), none] [] h37 := by
                intro h37 t37 s37 z38
                have w := j38 h37 t37 s37 z38
                refine r_inc (pc1 := 88) (g := fun zz => [some (rv 51), some (rv a2), some (.int (J zz)), none]) rfl rfl rfl rfl (fun _ => xput1_rv rfl rfl) (fun x39 ex39 rx39 => ?_)
                have w := w x39 ex39 rx39
                refine r_goto (t := 54) rfl rfl ?_
                exact ih9  x39 h37 t37 s37 rx39 (Nat.lt_of_lt_of_le w.2 (Nat.le_of_lt_succ q9)) w.1
              refine r_iz (t := 85) (pc1 := 76) rfl rfl rfl (rgt _) (fun c41 => ?_) (fun c41 => ?_)
              · have w := w.1 c41
                exact Q38   h8 t8 s8  w
              · have w := w.2 c41
                refine r_aldn (pc1 := 77) rfl rfl rfl ?_
                refine r_n (pc1 := 78) [.int (J x7), rv 51] _ rfl rfl ?_
                refine r_aldn (pc1 := 79) rfl rfl rfl ?_
                refine r_gfL (pc1 := 82) rfl rfl rfl t8 c36 rfl rfl ?_
                refine r_iv rfl rfl rfl rfl rfl rfl t8 (lyk t8 rfl) rfl (xe_of (xa_r (xa_i (xa_l xa_0))) rfl rfl) (r_d0 hd rfl) (a_X1_tellHold x7 (hL h8 a2 6) (r_d1 hd rfl) rx7 w t8 (fun h40 t40 u40 w => ?_))
                refine r_fV (pc1 := 85) rfl ?_
                have s40 := HX_trans s8 u40
                have w := w t40 u40
                exact Q38   h40 t40 s40  w
        exact Q9 _  0 h4 t4 s4 (rgk rfl) (Nat.lt_succ_self _) w
      · have w := w.2 c46
        refine r_aldn (pc1 := 24) rfl rfl rfl ?_
        refine r_n (pc1 := 25) [.int (J 0), rv 51] _ rfl rfl ?_
        refine r_n (pc1 := 26) [.int (J x3), .int (J 0), rv 51] _ rfl rfl ?_
        refine r_n (pc1 := 27) [.int (J (-1)), .int (J x3), .int (J 0), rv 51] _ rfl rfl ?_
        refine r_aldn (pc1 := 28) rfl rfl rfl ?_
        refine r_gfC (pc1 := 31) (q := (a2 + 1)) rfl rfl rfl t4 c6 rfl rfl (lyr_7_1 t4 c6) ?_
        refine r_n (pc1 := 32) [.int (J x3), rv (a2 + 1), .int (J (-1)), .int (J x3), .int (J 0), rv 51] _ rfl rfl ?_
        obtain ⟨c43, w⟩ := w
        refine r_aal (pc1 := 33) (u := 3) rfl rfl t4 (lyo_7_1 t4 c6).1 rfl rfl rx3 c43.1 (lt_len (lyo_7_1 t4 c6).2 c43.2) ?_
        refine r_aldn (pc1 := 34) rfl rfl rfl ?_
        refine r_gfC (pc1 := 37) (q := 44) rfl rfl rfl t4 (lyk t4 rfl) rfl rfl (lyR t4 rfl rfl) ?_
        refine r_gfC (pc1 := 40) (q := 49) rfl rfl rfl t4 (lyk t4 rfl) rfl rfl (lyR t4 rfl rfl) ?_
        refine r_n (pc1 := 41) [.int (J x3), rv 49, rv (hR h4 (a2 + 1) x3.toNat), .int (J (-1)), .int (J x3), .int (J 0), rv 51] _ rfl rfl ?_
        refine r_lal (pc1 := 42) rfl rfl t4 (lyk t4 rfl) rx3 c43.1 (lt_len (lyn t4 rfl) c43.2) ?_
        refine r_n (pc1 := 43) [.long (G (0#64)), .long (G (hL h4 49 x3.toNat)), rv (hR h4 (a2 + 1) x3.toNat), .int (J (-1)), .int (J x3), .int (J 0), rv 51] _ rfl rfl ?_
        refine r_iv rfl rfl rfl rfl rfl rfl t4 (lyk t4 rfl) rfl (xe_of (xa_r (xa_i (xa_i (xa_i (xa_r (xa_l (xa_l xa_0))))))) rfl rfl) (r_d0 hd rfl) (a_X1_tellNeed 0 x3 (-1) (hR h4 (a2 + 1) x3.toNat) (hL h4 49 x3.toNat) (0#64) (r_d1 hd rfl) (rgk rfl) rx3 (rgk rfl) w t4 (fun h44 t44 u44 w => ?_))
        refine r_fV (pc1 := 46) rfl ?_
        have s44 := HX_trans s4 u44
        have w := w t44 u44
        refine r_inc (pc1 := 49) (g := fun zz => [some (rv 51), some (rv a2), some (.int (J zz)), none]) rfl rfl rfl rfl (fun _ => xput1_rv rfl rfl) (fun x45 ex45 rx45 => ?_)
        have w := w x45 ex45 rx45
        refine r_goto (t := 15) rfl rfl ?_
        exact ih5  x45 h44 t44 s44 rx45 (Nat.lt_of_lt_of_le w.2 (Nat.le_of_lt_succ q5)) w.1
  exact Q5 _  0 h1 t1 s1 (rgk rfl) (Nat.lt_succ_self _) w
def w_X4_takeAll  (K : XH → Prop) (h : XH) : Prop :=
  ((∃ (I3 : Int → XH → Prop) (m3 : Int → XH → Nat), I3 0 h ∧ ∀ (x1 : Int) (h2 : XH), HT h2 → HX h h2 → rg x1 → I3 x1 h2 → (((hI h2 51 3 ≤ x1 → (K h2)) ∧ (¬ (hI h2 51 3 ≤ x1) → ((0 ≤ x1 ∧ x1 < 3712) ∧ ∀ h5 : XH, h5 = sI h2 58 x1.toNat 0 → HT h5 → HX h2 h5 → ∀ x6 : Int, x6 = wr (x1 + 1) → rg x6 → (I3 x6 h5 ∧ m3 x6 h5 < m3 x1 h2)))))))
set_option maxHeartbeats 4000000 in
theorem a_X4_takeAll {sc : Nat × (Nat → Int32)} {goal : XO → XH → Prop} {fs : List XF} {h : XH}  {K : XH → Prop} (hd : fs.length + 0 ≤ 1000) (w : w_X4_takeAll  K h) (t0 : HT h) (k : ∀ (h1 : XH), HT h1 → HX h h1 → K h1 → XFin xP sc goal fs (.inl none) h1) : RR sc goal fs 388 0 [some (rv 70), none] [] h := by
  unfold w_X4_takeAll at w
  refine r_n (pc1 := 1) [.int (J 0)] _ rfl rfl ?_
  refine r_istn (pc1 := 2) (ls1 := [some (rv 70), some (.int (J 0))]) rfl rfl rfl rfl ?_
  obtain ⟨I3, m3, w, y3⟩ := w
  have Q3 : ∀ (n : Nat)  (x1 : Int) (h2 : XH), HT h2 → HX h h2 → rg x1 → m3 x1 h2 < n → I3 x1 h2 → RR sc goal fs 388 2 [some (rv 70), some (.int (J x1))] [] h2 := by
    intro n
    induction n with
    | zero => intro x1 h2 t2 s2 rx1 q3 _; exact absurd q3 (Nat.not_lt_zero _)
    | succ n ih3 =>
      intro x1 h2 t2 s2 rx1 q3 z3
      have w := y3 x1 h2 t2 s2 rx1 z3
      refine r_n (pc1 := 3) [.int (J x1)] _ rfl rfl ?_
      refine r_aldn (pc1 := 4) rfl rfl rfl ?_
      refine r_gfC (pc1 := 7) (q := 51) rfl rfl rfl t2 (lyk t2 rfl) rfl rfl (lyR t2 rfl rfl) ?_
      refine r_gfI (pc1 := 10) rfl rfl rfl t2 (lyk t2 rfl) rfl rfl ?_
      refine r_ic (t := 29) (pc1 := 13) rfl rfl rfl rx1 (rgh _ _ _) (fun c7 => ?_) (fun c7 => ?_)
      · have w := w.1 c7
        exact r_retV rfl rfl rfl (k _ t2 s2 w)
      · have w := w.2 c7
        refine r_aldn (pc1 := 14) rfl rfl rfl ?_
        refine r_gfC (pc1 := 17) (q := 57) rfl rfl rfl t2 (lyk t2 rfl) rfl rfl (lyR t2 rfl rfl) ?_
        refine r_gfC (pc1 := 20) (q := 58) rfl rfl rfl t2 (lyk t2 rfl) rfl rfl (lyR t2 rfl rfl) ?_
        refine r_n (pc1 := 21) [.int (J x1), rv 58] _ rfl rfl ?_
        refine r_n (pc1 := 22) [.int (J 0), .int (J x1), rv 58] _ rfl rfl ?_
        obtain ⟨c4, w⟩ := w
        refine r_bast (pc1 := 23) rfl rfl t2 (lyk t2 rfl) (.inl rfl) rx1 c4.1 (lt_len (lyn t2 rfl) c4.2) (fun h5 eh5 t5 u5 => ?_)
        have w := w h5 eh5 t5 u5
        have s5 := HX_trans s2 u5
        refine r_inc (pc1 := 26) (g := fun zz => [some (rv 70), some (.int (J zz))]) rfl rfl rfl rfl (fun _ => rfl) (fun x6 ex6 rx6 => ?_)
        have w := w x6 ex6 rx6
        refine r_goto (t := 2) rfl rfl ?_
        exact ih3  x6 h5 t5 s5 rx6 (Nat.lt_of_lt_of_le w.2 (Nat.le_of_lt_succ q3)) w.1
  exact Q3 _  0 h t0 (HX_refl h) (rgk rfl) (Nat.lt_succ_self _) w
