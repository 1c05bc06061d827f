/-! printed by dec.py: what each method wants, and that the machine keeps it -/ 
def w_X7_tellChange (p0 : Int) (K : XH → Prop) (h : XH) : Prop :=
  ((∃ (I5 : Int → XH → Prop) (m5 : Int → XH → Nat), I5 0 h ∧ ∀ (x1 : Int) (h4 : XH), HT h4 → HX h h4 → rg x1 → I5 x1 h4 → (((52 ≤ x1 → (K h4)) ∧ (¬ (52 ≤ x1) → (∀ b6 : BitVec 64, b6 = lshl (1#64) x1 → (0 ≤ p0 ∧ p0 < 12) ∧ ∃ J9 : XH → Prop, (∀ (h8 : XH), HT h8 → HX h h8 → J9 h8 → (∀ x10 : Int, x10 = wr (x1 + 1) → rg x10 → (I5 x10 h8 ∧ m5 x10 h8 < m5 x1 h4))) ∧ (((hL h4 11 p0.toNat) &&& b6 = (0#64) → J9 h4) ∧ (¬ ((hL h4 11 p0.toNat) &&& b6 = (0#64)) → (((3764 ≤ hI h4 57 7 → J9 h4) ∧ (¬ (3764 ≤ hI h4 57 7) → ((0 ≤ hI h4 57 7 ∧ hI h4 57 7 < 3926) ∧ ∀ h12 : XH, h12 = sL h4 60 (hI h4 57 7).toNat ((lshl (1#64) (wr (52 + p0))) ||| (b6 &&& (hL h4 57 3))) → HT h12 → HX h4 h12 → (0 ≤ hI h12 57 7 ∧ hI h12 57 7 < 3926) ∧ ∀ h14 : XH, h14 = sL h12 61 (hI h12 57 7).toNat (b6 &&& ((hL h12 57 3) ^^^ (18446744073709551615#64))) → HT h14 → HX h12 h14 → ∀ h15 : XH, h15 = sI h14 57 7 (wr ((hI h14 57 7) + 1)) → HT h15 → HX h14 h15 → J9 h15))))))))))))
set_option maxHeartbeats 4000000 in
theorem a_X7_tellChange {sc : Nat × (Nat → Int32)} {goal : XO → XH → Prop} {fs : List XF} {h : XH} (p0 : Int) {K : XH → Prop} (hd : fs.length + 0 ≤ 1000) (rp0 : rg p0) (w : w_X7_tellChange p0 K h) (t0 : HT h) (k : ∀ (h1 : XH), HT h1 → HX h h1 → K h1 → XFin xP sc goal fs (.inl none) h1) : RR sc goal fs 443 0 [some (rv 57), some (.int (J p0)), none, none, none] [] h := by
  unfold w_X7_tellChange at w
  refine r_n (pc1 := 1) [.int (J 0)] _ rfl rfl ?_
  refine r_istn (pc1 := 2) (ls1 := [some (rv 57), some (.int (J p0)), some (.int (J 0)), none, none]) rfl rfl rfl rfl ?_
  obtain ⟨I5, m5, w, y5⟩ := w
  have Q5 : ∀ (n : Nat) (d2 : Option Value) (d3 : Option Value) (x1 : Int) (h4 : XH), HT h4 → HX h h4 → rg x1 → m5 x1 h4 < n → I5 x1 h4 → RR sc goal fs 443 2 [some (rv 57), some (.int (J p0)), some (.int (J x1)), d2, d3] [] h4 := by
    intro n
    induction n with
    | zero => intro d2 d3 x1 h4 t4 s4 rx1 q5 _; exact absurd q5 (Nat.not_lt_zero _)
    | succ n ih5 =>
      intro d2 d3 x1 h4 t4 s4 rx1 q5 z5
      have w := y5 x1 h4 t4 s4 rx1 z5
      refine r_n (pc1 := 3) [.int (J x1)] _ rfl rfl ?_
      refine r_n (pc1 := 5) [.int (J 52), .int (J x1)] _ rfl rfl ?_
      refine r_ic (t := 98) (pc1 := 8) rfl rfl rfl rx1 (rgk rfl) (fun c18 => ?_) (fun c18 => ?_)
      · have w := w.1 c18
        exact r_retV rfl rfl rfl (k _ t4 s4 w)
      · have w := w.2 c18
        refine r_n (pc1 := 9) [.long (G (1#64))] _ rfl rfl ?_
        refine r_n (pc1 := 10) [.int (J x1), .long (G (1#64))] _ rfl rfl ?_
        refine r_lshl (pc1 := 11) rfl rfl ?_
        refine r_vL (fun b6 eb6 => ?_)
        have w := w b6 eb6
        refine r_lstn (pc1 := 12) (ls1 := [some (rv 57), some (.int (J p0)), some (.int (J x1)), some (.long (G b6)), none]) rfl rfl rfl rfl ?_
        refine r_aldn (pc1 := 13) rfl rfl rfl ?_
        refine r_gfC (pc1 := 16) (q := 51) rfl rfl rfl t4 (lyk t4 rfl) rfl rfl (lyR t4 rfl rfl) ?_
        refine r_gfC (pc1 := 19) (q := 9) rfl rfl rfl t4 (lyk t4 rfl) rfl rfl (lyR t4 rfl rfl) ?_
        refine r_gfC (pc1 := 22) (q := 11) rfl rfl rfl t4 (lyk t4 rfl) rfl rfl (lyR t4 rfl rfl) ?_
        refine r_n (pc1 := 23) [.int (J p0), rv 11] _ rfl rfl ?_
        obtain ⟨c7, w⟩ := w
        refine r_lal (pc1 := 24) rfl rfl t4 (lyk t4 rfl) rp0 c7.1 (lt_len (lyn t4 rfl) c7.2) ?_
        refine r_n (pc1 := 25) [.long (G b6), .long (G (hL h4 11 p0.toNat))] _ rfl rfl ?_
        refine r_land (pc1 := 26) rfl rfl ?_
        refine r_n (pc1 := 27) [.long (G (0#64)), .long (G ((hL h4 11 p0.toNat) &&& b6))] _ rfl rfl ?_
        obtain ⟨J9, j9, w⟩ := w
        have Q9 : ∀ (h8 : XH), HT h8 → HX h h8 → J9 h8 → RR sc goal fs 443 92 [some (rv 57), some (.int (J p0)), some (.int (J x1)), some (.long (G b6)), none] [] h8 := by
          intro h8 t8 s8 z9
          have w := j9 h8 t8 s8 z9
          refine r_inc (pc1 := 95) (g := fun zz => [some (rv 57), some (.int (J p0)), some (.int (J zz)), some (.long (G b6)), none]) rfl rfl rfl rfl (fun _ => rfl) (fun x10 ex10 rx10 => ?_)
          have w := w x10 ex10 rx10
          refine r_goto (t := 2) rfl rfl ?_
          exact ih5 _ _ x10 h8 t8 s8 rx10 (Nat.lt_of_lt_of_le w.2 (Nat.le_of_lt_succ q5)) w.1
        refine r_lc (pc2 := 28) (t := 92) (pc1 := 31) rfl rfl rfl rfl rfl (fun c17 => ?_) (fun c17 => ?_)
        · have w := w.1 c17
          exact Q9   h4 t4 s4  w
        · have w := w.2 c17
          refine r_aldn (pc1 := 32) rfl rfl rfl ?_
          refine r_gfI (pc1 := 35) rfl rfl rfl t4 (lyk t4 rfl) rfl rfl ?_
          refine r_n (pc1 := 38) [.int (J 3764), .int (J (hI h4 57 7))] _ rfl rfl ?_
          refine r_ic (t := 92) (pc1 := 41) rfl rfl rfl (rgh _ _ _) (rgk rfl) (fun c16 => ?_) (fun c16 => ?_)
          · have w := w.1 c16
            exact Q9   h4 t4 s4  w
          · have w := w.2 c16
            refine r_aldn (pc1 := 42) rfl rfl rfl ?_
            refine r_gfC (pc1 := 45) (q := 60) rfl rfl rfl t4 (lyk t4 rfl) rfl rfl (lyR t4 rfl rfl) ?_
            refine r_aldn (pc1 := 46) rfl rfl rfl ?_
            refine r_gfI (pc1 := 49) rfl rfl rfl t4 (lyk t4 rfl) rfl rfl ?_
            refine r_n (pc1 := 50) [.long (G (1#64)), .int (J (hI h4 57 7)), rv 60] _ rfl rfl ?_
            refine r_n (pc1 := 52) [.int (J 52), .long (G (1#64)), .int (J (hI h4 57 7)), rv 60] _ rfl rfl ?_
            refine r_n (pc1 := 53) [.int (J p0), .int (J 52), .long (G (1#64)), .int (J (hI h4 57 7)), rv 60] _ rfl rfl ?_
            refine r_iadd (pc1 := 54) rfl rfl ?_
            refine r_lshl (pc1 := 55) rfl rfl ?_
            refine r_n (pc1 := 56) [.long (G b6), .long (G (lshl (1#64) (wr (52 + p0)))), .int (J (hI h4 57 7)), rv 60] _ rfl rfl ?_
            refine r_aldn (pc1 := 57) rfl rfl rfl ?_
            refine r_gfL (pc1 := 60) rfl rfl rfl t4 (lyk t4 rfl) rfl rfl ?_
            refine r_land (pc1 := 61) rfl rfl ?_
            refine r_lor (pc1 := 62) rfl rfl ?_
            obtain ⟨c11, w⟩ := w
            refine r_last (pc1 := 63) rfl rfl t4 (lyk t4 rfl) (rgh _ _ _) c11.1 (lt_len (lyn t4 rfl) c11.2) (fun h12 eh12 t12 u12 => ?_)
            have w := w h12 eh12 t12 u12
            have s12 := HX_trans s4 u12
            refine r_aldn (pc1 := 64) rfl rfl rfl ?_
            refine r_gfC (pc1 := 67) (q := 61) rfl rfl rfl t12 (lyk t12 rfl) rfl rfl (lyR t12 rfl rfl) ?_
            refine r_aldn (pc1 := 68) rfl rfl rfl ?_
            refine r_gfI (pc1 := 71) rfl rfl rfl t12 (lyk t12 rfl) rfl rfl ?_
            refine r_n (pc1 := 72) [.long (G b6), .int (J (hI h12 57 7)), rv 61] _ rfl rfl ?_
            refine r_aldn (pc1 := 73) rfl rfl rfl ?_
            refine r_gfL (pc1 := 76) rfl rfl rfl t12 (lyk t12 rfl) rfl rfl ?_
            refine r_n (pc1 := 79) [.long (G (18446744073709551615#64)), .long (G (hL h12 57 3)), .long (G b6), .int (J (hI h12 57 7)), rv 61] _ rfl rfl ?_
            refine r_lxor (pc1 := 80) rfl rfl ?_
            refine r_land (pc1 := 81) rfl rfl ?_
            obtain ⟨c13, w⟩ := w
            refine r_last (pc1 := 82) rfl rfl t12 (lyk t12 rfl) (rgh _ _ _) c13.1 (lt_len (lyn t12 rfl) c13.2) (fun h14 eh14 t14 u14 => ?_)
            have w := w h14 eh14 t14 u14
            have s14 := HX_trans s12 u14
            refine r_aldn (pc1 := 83) rfl rfl rfl ?_
            refine r_dupR (pc1 := 84) rfl rfl ?_
            refine r_gfI (pc1 := 87) rfl rfl rfl t14 (lyk t14 rfl) rfl rfl ?_
            refine r_n (pc1 := 88) [.int (J 1), .int (J (hI h14 57 7)), rv 57] _ rfl rfl ?_
            refine r_iadd (pc1 := 89) rfl rfl ?_
            refine r_pfI (pc1 := 92) rfl rfl rfl t14 (lyk t14 rfl) rfl rfl rfl (fun h15 eh15 t15 u15 => ?_)
            have w := w h15 eh15 t15 u15
            have s15 := HX_trans s14 u15
            exact Q9   h15 t15 s15  w
  exact Q5 _ _ _ 0 h t0 (HX_refl h) (rgk rfl) (Nat.lt_succ_self _) w
def w_X7_isTaken (p0 : Int) (K : Int → Prop) (h : XH) : Prop :=
  (∃ J2 : Int → Prop, (∀ (x1 : Int), rg x1 → J2 x1 → ((x1 = 0 ∨ x1 = 1) ∧ K x1)) ∧ ∃ J4 : Prop, (J4 → (J2 1)) ∧ ((hI h 51 3 ≤ p0 → J4) ∧ (¬ (hI h 51 3 ≤ p0) → ((0 ≤ p0 ∧ p0 < 3712) ∧ ((¬ hI h 58 p0.toNat = 0 → (J2 0)) ∧ (¬ (¬ hI h 58 p0.toNat = 0) → J4))))))
set_option maxHeartbeats 4000000 in
theorem a_X7_isTaken {sc : Nat × (Nat → Int32)} {goal : XO → XH → Prop} {fs : List XF} {h : XH} (p0 : Int) {K : Int → Prop} (hd : fs.length + 0 ≤ 1000) (rp0 : rg p0) (w : w_X7_isTaken p0 K h) (t0 : HT h) (k : ∀ (r : Int), rg r → (r = 0 ∨ r = 1) → K r → XFin xP sc goal fs (.inl (some (.int (J r)))) h) : RR sc goal fs 433 0 [some (rv 57), some (.int (J p0))] [] h := by
  unfold w_X7_isTaken at w
  refine r_n (pc1 := 1) [.int (J p0)] _ rfl rfl ?_
  refine r_aldn (pc1 := 2) rfl rfl rfl ?_
  refine r_gfC (pc1 := 5) (q := 51) rfl rfl rfl t0 (lyk t0 rfl) rfl rfl (lyR t0 rfl rfl) ?_
  refine r_gfI (pc1 := 8) rfl rfl rfl t0 (lyk t0 rfl) rfl rfl ?_
  obtain ⟨J2, j2, w⟩ := w
  have Q2 : ∀ (x1 : Int), rg x1 → J2 x1 → RR sc goal fs 433 25 [some (rv 57), some (.int (J p0))] [.int (J x1)] h := by
    intro x1 rx1 z2
    have w := j2 x1 rx1 z2
    obtain ⟨c3, w⟩ := w
    exact r_retB rfl rfl rfl c3 (k _ rx1 c3 w)
  obtain ⟨J4, j4, w⟩ := w
  have Q4 : J4 → RR sc goal fs 433 20 [some (rv 57), some (.int (J p0))] [] h := by
    intro z4
    have w := j4 z4
    refine r_n (pc1 := 21) [.int (J 1)] _ rfl rfl ?_
    refine r_goto (t := 25) rfl rfl ?_
    exact Q2  1  (rgk rfl) w
  refine r_ic (t := 20) (pc1 := 11) rfl rfl rfl rp0 (rgh _ _ _) (fun c7 => ?_) (fun c7 => ?_)
  · have w := w.1 c7
    exact Q4     w
  · have w := w.2 c7
    refine r_aldn (pc1 := 12) rfl rfl rfl ?_
    refine r_gfC (pc1 := 15) (q := 58) rfl rfl rfl t0 (lyk t0 rfl) rfl rfl (lyR t0 rfl rfl) ?_
    refine r_n (pc1 := 16) [.int (J p0), rv 58] _ rfl rfl ?_
    obtain ⟨c5, w⟩ := w
    refine r_bal (pc1 := 17) rfl rfl t0 (lyk t0 rfl) rp0 c5.1 (lt_len (lyn t0 rfl) c5.2) ?_
    refine r_iz (t := 24) (pc1 := 20) rfl rfl rfl (rgh _ _ _) (fun c6 => ?_) (fun c6 => ?_)
    · have w := w.1 c6
      refine r_n (pc1 := 25) [.int (J 0)] _ rfl rfl ?_
      exact Q2  0  (rgk rfl) w
    · have w := w.2 c6
      exact Q4     w
def w_X7_pick (p0 : BitVec 64) (p1 : BitVec 64) (p2 : Int) (K : Int → Prop) (h : XH) : Prop :=
  (∃ J2 : BitVec 64 → Prop, (∀ (b1 : BitVec 64), J2 b1 → (((b1 = (0#64) → (∃ J4 : BitVec 64 → Prop, (∀ (b3 : BitVec 64), J4 b3 → (∃ J6 : Int → Prop, (∀ (x5 : Int), rg x5 → J6 x5 → (K x5)) ∧ ((b3 = (0#64) → (J6 (-1))) ∧ (¬ (b3 = (0#64)) → (w_J13_bitCount_95d88 ((b3 &&& (-b3)) - (1#64)) (fun x7 => rg x7 → (J6 (wr (64 + x7)))) h))))) ∧ ((p2 < 64 → (J4 p1)) ∧ (¬ (p2 < 64) → (J4 (p1 &&& ((lshl (1#64) (wr (p2 - 64))) ^^^ (18446744073709551615#64)))))))) ∧ (¬ (b1 = (0#64)) → (w_J13_bitCount_95d88 ((b1 &&& (-b1)) - (1#64)) (fun x10 => rg x10 → (K x10)) h))))) ∧ ∃ J12 : Prop, (J12 → (J2 p0)) ∧ ((p2 < 0 → J12) ∧ (¬ (p2 < 0) → (((64 ≤ p2 → J12) ∧ (¬ (64 ≤ p2) → (J2 (p0 &&& ((lshl (1#64) p2) ^^^ (18446744073709551615#64))))))))))
set_option maxHeartbeats 4000000 in
theorem a_X7_pick {sc : Nat × (Nat → Int32)} {goal : XO → XH → Prop} {fs : List XF} {h : XH} (p0 : BitVec 64) (p1 : BitVec 64) (p2 : Int) {K : Int → Prop} (hd : fs.length + 1 ≤ 1000) (rp2 : rg p2) (w : w_X7_pick p0 p1 p2 K h) (t0 : HT h) (k : ∀ (r : Int), rg r → K r → XFin xP sc goal fs (.inl (some (.int (J r)))) h) : RR sc goal fs 439 0 [some (.long (G p0)), none, some (.long (G p1)), none, some (.int (J p2)), none, none] [] h := by
  unfold w_X7_pick at w
  refine r_n (pc1 := 2) [.int (J p2)] _ rfl rfl ?_
  obtain ⟨J2, j2, w⟩ := w
  have Q2 : ∀ (b1 : BitVec 64), J2 b1 → RR sc goal fs 439 26 [some (.long (G p0)), none, some (.long (G p1)), none, some (.int (J p2)), none, none] [.long (G b1)] h := by
    intro b1 z2
    have w := j2 b1 z2
    refine r_lst (pc1 := 28) (ls1 := [some (.long (G p0)), none, some (.long (G p1)), none, some (.int (J p2)), some (.long (G b1)), none]) rfl rfl rfl rfl ?_
    refine r_n (pc1 := 30) [.long (G b1)] _ rfl rfl ?_
    refine r_n (pc1 := 31) [.long (G (0#64)), .long (G b1)] _ rfl rfl ?_
    refine r_lc (pc2 := 32) (t := 47) (pc1 := 35) rfl rfl rfl rfl rfl (fun c11 => ?_) (fun c11 => ?_)
    · have w := w.1 c11
      refine r_n (pc1 := 49) [.int (J p2)] _ rfl rfl ?_
      refine r_n (pc1 := 51) [.int (J 64), .int (J p2)] _ rfl rfl ?_
      obtain ⟨J4, j4, w⟩ := w
      have Q4 : ∀ (b3 : BitVec 64), J4 b3 → RR sc goal fs 439 71 [some (.long (G p0)), none, some (.long (G p1)), none, some (.int (J p2)), some (.long (G b1)), none] [.long (G b3)] h := by
        intro b3 z4
        have w := j4 b3 z4
        refine r_lst (pc1 := 73) (ls1 := [some (.long (G p0)), none, some (.long (G p1)), none, some (.int (J p2)), some (.long (G b3)), none]) rfl rfl rfl rfl ?_
        refine r_n (pc1 := 75) [.long (G b3)] _ rfl rfl ?_
        refine r_n (pc1 := 76) [.long (G (0#64)), .long (G b3)] _ rfl rfl ?_
        obtain ⟨J6, j6, w⟩ := w
        have Q6 : ∀ (x5 : Int), rg x5 → J6 x5 → RR sc goal fs 439 98 [some (.long (G p0)), none, some (.long (G p1)), none, some (.int (J p2)), some (.long (G b3)), none] [.int (J x5)] h := by
          intro x5 rx5 z6
          have w := j6 x5 rx5 z6
          exact r_retI rfl rfl rfl (k _ rx5 w)
        refine r_lc (pc2 := 77) (t := 97) (pc1 := 80) rfl rfl rfl rfl rfl (fun c8 => ?_) (fun c8 => ?_)
        · have w := w.1 c8
          refine r_n (pc1 := 98) [.int (J (-1))] _ rfl rfl ?_
          exact Q6  (-1)  (rgk rfl) w
        · have w := w.2 c8
          refine r_n (pc1 := 82) [.int (J 64)] _ rfl rfl ?_
          refine r_n (pc1 := 84) [.long (G b3), .int (J 64)] _ rfl rfl ?_
          refine r_n (pc1 := 86) [.long (G b3), .long (G b3), .int (J 64)] _ rfl rfl ?_
          refine r_lneg (pc1 := 87) rfl rfl ?_
          refine r_land (pc1 := 88) rfl rfl ?_
          refine r_n (pc1 := 89) [.long (G (1#64)), .long (G (b3 &&& (-b3))), .int (J 64)] _ rfl rfl ?_
          refine r_lsub (pc1 := 90) rfl rfl ?_
          refine r_iq rfl rfl rfl rfl rfl rfl (xe_of (xa_l xa_0) rfl rfl) (r_d0 hd rfl) (a_J13_bitCount_95d88 ((b3 &&& (-b3)) - (1#64)) (r_d1 hd rfl)  w t0 (fun x7 rx7 w => ?_))
          refine r_fI (pc1 := 93) rfl ?_
          have w := w rx7
          refine r_iadd (pc1 := 94) rfl rfl ?_
          refine r_goto (t := 98) rfl rfl ?_
          exact Q6  (wr (64 + x7))  (rgw _) w
      refine r_ic (t := 70) (pc1 := 54) rfl rfl rfl rp2 (rgk rfl) (fun c9 => ?_) (fun c9 => ?_)
      · have w := w.1 c9
        refine r_n (pc1 := 71) [.long (G p1)] _ rfl rfl ?_
        exact Q4  p1   w
      · have w := w.2 c9
        refine r_n (pc1 := 55) [.long (G p1)] _ rfl rfl ?_
        refine r_n (pc1 := 56) [.long (G (1#64)), .long (G p1)] _ rfl rfl ?_
        refine r_n (pc1 := 58) [.int (J p2), .long (G (1#64)), .long (G p1)] _ rfl rfl ?_
        refine r_n (pc1 := 60) [.int (J 64), .int (J p2), .long (G (1#64)), .long (G p1)] _ rfl rfl ?_
        refine r_isub (pc1 := 61) rfl rfl ?_
        refine r_lshl (pc1 := 62) rfl rfl ?_
        refine r_n (pc1 := 65) [.long (G (18446744073709551615#64)), .long (G (lshl (1#64) (wr (p2 - 64)))), .long (G p1)] _ rfl rfl ?_
        refine r_lxor (pc1 := 66) rfl rfl ?_
        refine r_land (pc1 := 67) rfl rfl ?_
        refine r_goto (t := 71) rfl rfl ?_
        exact Q4  (p1 &&& ((lshl (1#64) (wr (p2 - 64))) ^^^ (18446744073709551615#64)))   w
    · have w := w.2 c11
      refine r_n (pc1 := 37) [.long (G b1)] _ rfl rfl ?_
      refine r_n (pc1 := 39) [.long (G b1), .long (G b1)] _ rfl rfl ?_
      refine r_lneg (pc1 := 40) rfl rfl ?_
      refine r_land (pc1 := 41) rfl rfl ?_
      refine r_n (pc1 := 42) [.long (G (1#64)), .long (G (b1 &&& (-b1)))] _ rfl rfl ?_
      refine r_lsub (pc1 := 43) rfl rfl ?_
      refine r_iq rfl rfl rfl rfl rfl rfl (xe_of (xa_l xa_0) rfl rfl) (r_d0 hd rfl) (a_J13_bitCount_95d88 ((b1 &&& (-b1)) - (1#64)) (r_d1 hd rfl)  w t0 (fun x10 rx10 w => ?_))
      refine r_fI (pc1 := 46) rfl ?_
      have w := w rx10
      exact r_retI rfl rfl rfl (k _ rx10 w)
  obtain ⟨J12, j12, w⟩ := w
  have Q12 : J12 → RR sc goal fs 439 25 [some (.long (G p0)), none, some (.long (G p1)), none, some (.int (J p2)), none, none] [] h := by
    intro z12
    have w := j12 z12
    refine r_n (pc1 := 26) [.long (G p0)] _ rfl rfl ?_
    exact Q2  p0   w
  refine r_iz (t := 25) (pc1 := 5) rfl rfl rfl rp2 (fun c14 => ?_) (fun c14 => ?_)
  · have w := w.1 c14
    exact Q12     w
  · have w := w.2 c14
    refine r_n (pc1 := 7) [.int (J p2)] _ rfl rfl ?_
    refine r_n (pc1 := 9) [.int (J 64), .int (J p2)] _ rfl rfl ?_
    refine r_ic (t := 25) (pc1 := 12) rfl rfl rfl rp2 (rgk rfl) (fun c13 => ?_) (fun c13 => ?_)
    · have w := w.1 c13
      exact Q12     w
    · have w := w.2 c13
      refine r_n (pc1 := 13) [.long (G p0)] _ rfl rfl ?_
      refine r_n (pc1 := 14) [.long (G (1#64)), .long (G p0)] _ rfl rfl ?_
      refine r_n (pc1 := 16) [.int (J p2), .long (G (1#64)), .long (G p0)] _ rfl rfl ?_
      refine r_lshl (pc1 := 17) rfl rfl ?_
      refine r_n (pc1 := 20) [.long (G (18446744073709551615#64)), .long (G (lshl (1#64) p2)), .long (G p0)] _ rfl rfl ?_
      refine r_lxor (pc1 := 21) rfl rfl ?_
      refine r_land (pc1 := 22) rfl rfl ?_
      refine r_goto (t := 26) rfl rfl ?_
      exact Q2  (p0 &&& ((lshl (1#64) p2) ^^^ (18446744073709551615#64)))   w
def w_X7_link (p0 : Int) (p1 : Int) (K : XH → Prop) (h : XH) : Prop :=
  ((0 ≤ p0 ∧ p0 < 7848) ∧ ∀ h2 : XH, h2 = sI h 65 p0.toNat p1 → HT h2 → HX h h2 → ∀ x3 : Int, x3 = wr (7848 + p1) → rg x3 → (0 ≤ x3 ∧ x3 < 7976) ∧ (0 ≤ p0 ∧ p0 < 7976) ∧ ∀ h6 : XH, h6 = sI h2 66 p0.toNat (hI h2 66 x3.toNat) → HT h6 → HX h2 h6 → (0 ≤ wr (7848 + p1) ∧ wr (7848 + p1) < 7976) ∧ ∀ h8 : XH, h8 = sI h6 66 (wr (7848 + p1)).toNat p0 → HT h8 → HX h6 h8 → K h8)
set_option maxHeartbeats 4000000 in
theorem a_X7_link {sc : Nat × (Nat → Int32)} {goal : XO → XH → Prop} {fs : List XF} {h : XH} (p0 : Int) (p1 : Int) {K : XH → Prop} (hd : fs.length + 0 ≤ 1000) (rp0 : rg p0) (rp1 : rg p1) (w : w_X7_link p0 p1 K h) (t0 : HT h) (k : ∀ (h1 : XH), HT h1 → HX h h1 → K h1 → XFin xP sc goal fs (.inl none) h1) : RR sc goal fs 437 0 [some (rv 57), some (.int (J p0)), some (.int (J p1))] [] h := by
  unfold w_X7_link at w
  refine r_aldn (pc1 := 1) rfl rfl rfl ?_
  refine r_gfC (pc1 := 4) (q := 65) rfl rfl rfl t0 (lyk t0 rfl) rfl rfl (lyR t0 rfl rfl) ?_
  refine r_n (pc1 := 5) [.int (J p0), rv 65] _ rfl rfl ?_
  refine r_n (pc1 := 6) [.int (J p1), .int (J p0), rv 65] _ rfl rfl ?_
  obtain ⟨c1, w⟩ := w
  refine r_iast (pc1 := 7) rfl rfl t0 (lyk t0 rfl) rp0 c1.1 (lt_len (lyn t0 rfl) c1.2) (fun h2 eh2 t2 u2 => ?_)
  have w := w h2 eh2 t2 u2
  have s2 := HX_trans (HX_refl h) u2
  refine r_aldn (pc1 := 8) rfl rfl rfl ?_
  refine r_gfC (pc1 := 11) (q := 66) rfl rfl rfl t2 (lyk t2 rfl) rfl rfl (lyR t2 rfl rfl) ?_
  refine r_n (pc1 := 12) [.int (J p0), rv 66] _ rfl rfl ?_
  refine r_aldn (pc1 := 13) rfl rfl rfl ?_
  refine r_gfC (pc1 := 16) (q := 66) rfl rfl rfl t2 (lyk t2 rfl) rfl rfl (lyR t2 rfl rfl) ?_
  refine r_n (pc1 := 19) [.int (J 7848), rv 66, .int (J p0), rv 66] _ rfl rfl ?_
  refine r_n (pc1 := 20) [.int (J p1), .int (J 7848), rv 66, .int (J p0), rv 66] _ rfl rfl ?_
  refine r_iadd (pc1 := 21) rfl rfl ?_
  refine r_vI (rgw _) (fun x3 ex3 rx3 => ?_)
  have w := w x3 ex3 rx3
  obtain ⟨c4, w⟩ := w
  refine r_ial (pc1 := 22) rfl rfl t2 (lyk t2 rfl) rx3 c4.1 (lt_len (lyn t2 rfl) c4.2) ?_
  obtain ⟨c5, w⟩ := w
  refine r_iast (pc1 := 23) rfl rfl t2 (lyk t2 rfl) rp0 c5.1 (lt_len (lyn t2 rfl) c5.2) (fun h6 eh6 t6 u6 => ?_)
  have w := w h6 eh6 t6 u6
  have s6 := HX_trans s2 u6
  refine r_aldn (pc1 := 24) rfl rfl rfl ?_
  refine r_gfC (pc1 := 27) (q := 66) rfl rfl rfl t6 (lyk t6 rfl) rfl rfl (lyR t6 rfl rfl) ?_
  refine r_n (pc1 := 30) [.int (J 7848), rv 66] _ rfl rfl ?_
  refine r_n (pc1 := 31) [.int (J p1), .int (J 7848), rv 66] _ rfl rfl ?_
  refine r_iadd (pc1 := 32) rfl rfl ?_
  refine r_n (pc1 := 33) [.int (J p0), .int (J (wr (7848 + p1))), rv 66] _ rfl rfl ?_
  obtain ⟨c7, w⟩ := w
  refine r_iast (pc1 := 34) rfl rfl t6 (lyk t6 rfl) (rgw _) c7.1 (lt_len (lyn t6 rfl) c7.2) (fun h8 eh8 t8 u8 => ?_)
  have w := w h8 eh8 t8 u8
  have s8 := HX_trans s6 u8
  exact r_retV rfl rfl rfl (k _ t8 s8 w)
def w_X7_put (p0 : Int) (p1 : Int) (K : XH → Prop) (h : XH) : Prop :=
  (∀ b1 : BitVec 64, b1 = lshl (1#64) (irem p0 64) → w_J13_bitCount_95d88 ((hL h 57 9) ||| (hL h 57 10)) (fun x2 => rg x2 → (∃ J4 : XH → Prop, (∀ (h3 : XH), HT h3 → HX h h3 → J4 h3 → (K h3)) ∧ ((p0 < 0 → J4 h) ∧ (¬ (p0 < 0) → (((64 ≤ x2 → J4 h) ∧ (¬ (64 ≤ x2) → ((0 ≤ x2 ∧ x2 < 64) ∧ ∀ h6 : XH, h6 = sI h 63 x2.toNat p0 → HT h6 → HX h h6 → (0 ≤ irem p0 64 ∧ irem p0 64 < 64) ∧ ∀ h8 : XH, h8 = sI h6 64 (irem p0 64).toNat p1 → HT h8 → HX h6 h8 → ∀ x9 : Int, x9 = hI h8 57 11 → rg x9 → (0 ≤ x9 ∧ x9 < 66) ∧ ∀ h11 : XH, h11 = sL h8 62 x9.toNat ((hL h8 62 x9.toNat) ||| b1) → HT h11 → HX h8 h11 → ∃ J13 : BitVec 64 → Prop, (∀ (b12 : BitVec 64), J13 b12 → (∀ h14 : XH, h14 = sL h11 57 9 ((hL h11 57 9) ||| b12) → HT h14 → HX h11 h14 → ∃ J16 : BitVec 64 → Prop, (∀ (b15 : BitVec 64), J16 b15 → (∀ h17 : XH, h17 = sL h14 57 10 ((hL h14 57 10) ||| b15) → HT h17 → HX h14 h17 → J4 h17)) ∧ ((64 ≤ p0 → (J16 b1)) ∧ (¬ (64 ≤ p0) → (J16 (0#64)))))) ∧ ((64 ≤ p0 → (J13 (0#64))) ∧ (¬ (64 ≤ p0) → (J13 b1))))))))))) h)
set_option maxHeartbeats 4000000 in
theorem a_X7_put {sc : Nat × (Nat → Int32)} {goal : XO → XH → Prop} {fs : List XF} {h : XH} (p0 : Int) (p1 : Int) {K : XH → Prop} (hd : fs.length + 1 ≤ 1000) (rp0 : rg p0) (rp1 : rg p1) (w : w_X7_put p0 p1 K h) (t0 : HT h) (k : ∀ (h1 : XH), HT h1 → HX h h1 → K h1 → XFin xP sc goal fs (.inl none) h1) : RR sc goal fs 440 0 [some (rv 57), some (.int (J p0)), some (.int (J p1)), none, none, none] [] h := by
  unfold w_X7_put at w
  refine r_n (pc1 := 1) [.long (G (1#64))] _ rfl rfl ?_
  refine r_n (pc1 := 2) [.int (J p0), .long (G (1#64))] _ rfl rfl ?_
  refine r_n (pc1 := 4) [.int (J 64), .int (J p0), .long (G (1#64))] _ rfl rfl ?_
  refine r_irem (pc1 := 5) rfl rfl (rgk rfl) (by decide) ?_
  refine r_lshl (pc1 := 6) rfl rfl ?_
  refine r_vL (fun b1 eb1 => ?_)
  have w := w b1 eb1
  refine r_lstn (pc1 := 7) (ls1 := [some (rv 57), some (.int (J p0)), some (.int (J p1)), some (.long (G b1)), none, none]) rfl rfl rfl rfl ?_
  refine r_aldn (pc1 := 8) rfl rfl rfl ?_
  refine r_gfL (pc1 := 11) rfl rfl rfl t0 (lyk t0 rfl) rfl rfl ?_
  refine r_aldn (pc1 := 12) rfl rfl rfl ?_
  refine r_gfL (pc1 := 15) rfl rfl rfl t0 (lyk t0 rfl) rfl rfl ?_
  refine r_lor (pc1 := 16) rfl rfl ?_
  refine r_iq rfl rfl rfl rfl rfl rfl (xe_of (xa_l xa_0) rfl rfl) (r_d0 hd rfl) (a_J13_bitCount_95d88 ((hL h 57 9) ||| (hL h 57 10)) (r_d1 hd rfl)  w t0 (fun x2 rx2 w => ?_))
  refine r_fI (pc1 := 19) rfl ?_
  have w := w rx2
  refine r_ist (pc1 := 21) (ls1 := [some (rv 57), some (.int (J p0)), some (.int (J p1)), some (.long (G b1)), none, some (.int (J x2))]) rfl rfl rfl rfl ?_
  refine r_n (pc1 := 22) [.int (J p0)] _ rfl rfl ?_
  obtain ⟨J4, j4, w⟩ := w
  have Q4 : ∀ (h3 : XH), HT h3 → HX h h3 → J4 h3 → RR sc goal fs 440 103 [some (rv 57), some (.int (J p0)), some (.int (J p1)), some (.long (G b1)), none, some (.int (J x2))] [] h3 := by
    intro h3 t3 s3 z4
    have w := j4 h3 t3 s3 z4
    exact r_retV rfl rfl rfl (k _ t3 s3 w)
  refine r_iz (t := 103) (pc1 := 25) rfl rfl rfl rp0 (fun c21 => ?_) (fun c21 => ?_)
  · have w := w.1 c21
    exact Q4   h t0 (HX_refl h)  w
  · have w := w.2 c21
    refine r_n (pc1 := 27) [.int (J x2)] _ rfl rfl ?_
    refine r_n (pc1 := 29) [.int (J 64), .int (J x2)] _ rfl rfl ?_
    refine r_ic (t := 103) (pc1 := 32) rfl rfl rfl rx2 (rgk rfl) (fun c20 => ?_) (fun c20 => ?_)
    · have w := w.1 c20
      exact Q4   h t0 (HX_refl h)  w
    · have w := w.2 c20
      refine r_aldn (pc1 := 33) rfl rfl rfl ?_
      refine r_gfC (pc1 := 36) (q := 63) rfl rfl rfl t0 (lyk t0 rfl) rfl rfl (lyR t0 rfl rfl) ?_
      refine r_n (pc1 := 38) [.int (J x2), rv 63] _ rfl rfl ?_
      refine r_n (pc1 := 39) [.int (J p0), .int (J x2), rv 63] _ rfl rfl ?_
      obtain ⟨c5, w⟩ := w
      refine r_iast (pc1 := 40) rfl rfl t0 (lyk t0 rfl) rx2 c5.1 (lt_len (lyn t0 rfl) c5.2) (fun h6 eh6 t6 u6 => ?_)
      have w := w h6 eh6 t6 u6
      have s6 := HX_trans (HX_refl h) u6
      refine r_aldn (pc1 := 41) rfl rfl rfl ?_
      refine r_gfC (pc1 := 44) (q := 64) rfl rfl rfl t6 (lyk t6 rfl) rfl rfl (lyR t6 rfl rfl) ?_
      refine r_n (pc1 := 45) [.int (J p0), rv 64] _ rfl rfl ?_
      refine r_n (pc1 := 47) [.int (J 64), .int (J p0), rv 64] _ rfl rfl ?_
      refine r_irem (pc1 := 48) rfl rfl (rgk rfl) (by decide) ?_
      refine r_n (pc1 := 49) [.int (J p1), .int (J (irem p0 64)), rv 64] _ rfl rfl ?_
      obtain ⟨c7, w⟩ := w
      refine r_iast (pc1 := 50) rfl rfl t6 (lyk t6 rfl) (rgt _) c7.1 (lt_len (lyn t6 rfl) c7.2) (fun h8 eh8 t8 u8 => ?_)
      have w := w h8 eh8 t8 u8
      have s8 := HX_trans s6 u8
      refine r_aldn (pc1 := 51) rfl rfl rfl ?_
      refine r_gfC (pc1 := 54) (q := 62) rfl rfl rfl t8 (lyk t8 rfl) rfl rfl (lyR t8 rfl rfl) ?_
      refine r_aldn (pc1 := 55) rfl rfl rfl ?_
      refine r_gfI (pc1 := 58) rfl rfl rfl t8 (lyk t8 rfl) rfl rfl ?_
      refine r_vI (rgh _ _ _) (fun x9 ex9 rx9 => ?_)
      have w := w x9 ex9 rx9
      refine r_dup2 (pc1 := 59) rfl rfl ?_
      obtain ⟨c10, w⟩ := w
      refine r_lal (pc1 := 60) rfl rfl t8 (lyk t8 rfl) rx9 c10.1 (lt_len (lyn t8 rfl) c10.2) ?_
      refine r_n (pc1 := 61) [.long (G b1), .long (G (hL h8 62 x9.toNat)), .int (J x9), rv 62] _ rfl rfl ?_
      refine r_lor (pc1 := 62) rfl rfl ?_
      refine r_last (pc1 := 63) rfl rfl t8 (lyk t8 rfl) rx9 c10.1 (lt_len (lyn t8 rfl) c10.2) (fun h11 eh11 t11 u11 => ?_)
      have w := w h11 eh11 t11 u11
      have s11 := HX_trans s8 u11
      refine r_aldn (pc1 := 64) rfl rfl rfl ?_
      refine r_dupR (pc1 := 65) rfl rfl ?_
      refine r_gfL (pc1 := 68) rfl rfl rfl t11 (lyk t11 rfl) rfl rfl ?_
      refine r_n (pc1 := 69) [.int (J p0), .long (G (hL h11 57 9)), rv 57] _ rfl rfl ?_
      refine r_n (pc1 := 71) [.int (J 64), .int (J p0), .long (G (hL h11 57 9)), rv 57] _ rfl rfl ?_
      obtain ⟨J13, j13, w⟩ := w
      have Q13 : ∀ (b12 : BitVec 64), J13 b12 → RR sc goal fs 440 79 [some (rv 57), some (.int (J p0)), some (.int (J p1)), some (.long (G b1)), none, some (.int (J x2))] [.long (G b12), .long (G (hL h11 57 9)), rv 57] h11 := by
        intro b12 z13
        have w := j13 b12 z13
        refine r_lor (pc1 := 80) rfl rfl ?_
        refine r_pfL (pc1 := 83) rfl rfl rfl t11 (lyk t11 rfl) rfl rfl rfl (fun h14 eh14 t14 u14 => ?_)
        have w := w h14 eh14 t14 u14
        have s14 := HX_trans s11 u14
        refine r_aldn (pc1 := 84) rfl rfl rfl ?_
        refine r_dupR (pc1 := 85) rfl rfl ?_
        refine r_gfL (pc1 := 88) rfl rfl rfl t14 (lyk t14 rfl) rfl rfl ?_
        refine r_n (pc1 := 89) [.int (J p0), .long (G (hL h14 57 10)), rv 57] _ rfl rfl ?_
        refine r_n (pc1 := 91) [.int (J 64), .int (J p0), .long (G (hL h14 57 10)), rv 57] _ rfl rfl ?_
        obtain ⟨J16, j16, w⟩ := w
        have Q16 : ∀ (b15 : BitVec 64), J16 b15 → RR sc goal fs 440 99 [some (rv 57), some (.int (J p0)), some (.int (J p1)), some (.long (G b1)), none, some (.int (J x2))] [.long (G b15), .long (G (hL h14 57 10)), rv 57] h14 := by
          intro b15 z16
          have w := j16 b15 z16
          refine r_lor (pc1 := 100) rfl rfl ?_
          refine r_pfL (pc1 := 103) rfl rfl rfl t14 (lyk t14 rfl) rfl rfl rfl (fun h17 eh17 t17 u17 => ?_)
          have w := w h17 eh17 t17 u17
          have s17 := HX_trans s14 u17
          exact Q4   h17 t17 s17  w
        refine r_ic (t := 98) (pc1 := 94) rfl rfl rfl rp0 (rgk rfl) (fun c18 => ?_) (fun c18 => ?_)
        · have w := w.1 c18
          refine r_n (pc1 := 99) [.long (G b1), .long (G (hL h14 57 10)), rv 57] _ rfl rfl ?_
          exact Q16  b1   w
        · have w := w.2 c18
          refine r_n (pc1 := 95) [.long (G (0#64)), .long (G (hL h14 57 10)), rv 57] _ rfl rfl ?_
          refine r_goto (t := 99) rfl rfl ?_
          exact Q16  (0#64)   w
      refine r_ic (t := 78) (pc1 := 74) rfl rfl rfl rp0 (rgk rfl) (fun c19 => ?_) (fun c19 => ?_)
      · have w := w.1 c19
        refine r_n (pc1 := 79) [.long (G (0#64)), .long (G (hL h11 57 9)), rv 57] _ rfl rfl ?_
        exact Q13  (0#64)   w
      · have w := w.2 c19
        refine r_n (pc1 := 75) [.long (G b1), .long (G (hL h11 57 9)), rv 57] _ rfl rfl ?_
        refine r_goto (t := 79) rfl rfl ?_
        exact Q13  b1   w
def w_X7_watch (p0 : Int) (K : XH → Prop) (h : XH) : Prop :=
  ((0 ≤ p0 ∧ p0 < 3926) ∧ ∀ b2 : BitVec 64, b2 = (hL h 60 p0.toNat) &&& ((hL h 57 10) ^^^ (18446744073709551615#64)) → ∀ b3 : BitVec 64, b3 = (hL h 61 p0.toNat) &&& ((hL h 57 9) ^^^ (18446744073709551615#64)) → w_X7_pick b2 b3 (-1) (fun x4 => rg x4 → (w_X7_pick b2 b3 x4 (fun x5 => rg x5 → (∀ x6 : Int, x6 = hI h 57 11 → rg x6 → (∃ (I14 : Int → Int → Int → Prop) (m14 : Int → Int → Int → Nat), I14 x4 x5 x6 ∧ ∀ (x11 : Int) (x12 : Int) (x13 : Int), rg x11 → rg x12 → rg x13 → I14 x11 x12 x13 → (∃ J15 : Prop, (J15 → (((¬ x11 = (-1) → (w_X7_link (wr (2 * p0)) x11 (fun h16 => HT h16 → HX h h16 → (∃ J18 : Int → Prop, (∀ (x17 : Int), rg x17 → J18 x17 → (w_X7_link (wr ((wr (2 * p0)) + 1)) x17 (fun h19 => HT h19 → HX h16 h19 → (∃ J21 : XH → Prop, (∀ (h20 : XH), HT h20 → HX h h20 → J21 h20 → (K h20)) ∧ ((¬ x12 = (-1) → J21 h19) ∧ (¬ (¬ x12 = (-1)) → (((¬ (lshr ((hL h19 57 9) ||| (hL h19 57 10)) (irem x11 64)) &&& (1#64) = (0#64) → J21 h19) ∧ (¬ (¬ (lshr ((hL h19 57 9) ||| (hL h19 57 10)) (irem x11 64)) &&& (1#64) = (0#64)) → (w_X7_put x11 p0 (fun h22 => HT h22 → HX h19 h22 → J21 h22) h19)))))))) h16)) ∧ ((¬ x12 = (-1) → (J18 x12)) ∧ (¬ (¬ x12 = (-1)) → (J18 x11))))) h)) ∧ (¬ (¬ x11 = (-1)) → (K h))))) ∧ ((x13 < 0 → J15) ∧ (¬ (x13 < 0) → (((¬ x12 = (-1) → J15) ∧ (¬ (¬ x12 = (-1)) → ((0 ≤ x13 ∧ x13 < 66) ∧ ∀ b28 : BitVec 64, b28 = (hL h 60 p0.toNat) &&& (hL h 62 x13.toNat) → ∀ b29 : BitVec 64, b29 = (hL h 61 p0.toNat) &&& (hL h 62 x13.toNat) → ∃ J31 : Int → Prop, (∀ (x30 : Int), rg x30 → J31 x30 → (w_X7_pick b28 b29 x30 (fun x32 => rg x32 → (∀ x33 : Int, x33 = wr (x13 + (-1)) → rg x33 → (I14 x30 x32 x33 ∧ m14 x30 x32 x33 < m14 x11 x12 x13))) h)) ∧ ((¬ x11 = (-1) → (J31 x11)) ∧ (¬ (¬ x11 = (-1)) → (w_X7_pick b28 b29 (-1) (fun x34 => rg x34 → (J31 x34)) h))))))))))))) h)) h)
set_option maxHeartbeats 4000000 in
theorem a_X7_watch {sc : Nat × (Nat → Int32)} {goal : XO → XH → Prop} {fs : List XF} {h : XH} (p0 : Int) {K : XH → Prop} (hd : fs.length + 2 ≤ 1000) (rp0 : rg p0) (w : w_X7_watch p0 K h) (t0 : HT h) (k : ∀ (h1 : XH), HT h1 → HX h h1 → K h1 → XFin xP sc goal fs (.inl none) h1) : RR sc goal fs 446 0 [some (rv 57), some (.int (J p0)), none, none, none, none, none, none, none] [] h := by
  unfold w_X7_watch at w
  refine r_aldn (pc1 := 1) rfl rfl rfl ?_
  refine r_gfC (pc1 := 4) (q := 60) rfl rfl rfl t0 (lyk t0 rfl) rfl rfl (lyR t0 rfl rfl) ?_
  refine r_n (pc1 := 5) [.int (J p0), rv 60] _ rfl rfl ?_
  obtain ⟨c1, w⟩ := w
  refine r_lal (pc1 := 6) rfl rfl t0 (lyk t0 rfl) rp0 c1.1 (lt_len (lyn t0 rfl) c1.2) ?_
  refine r_aldn (pc1 := 7) rfl rfl rfl ?_
  refine r_gfL (pc1 := 10) rfl rfl rfl t0 (lyk t0 rfl) rfl rfl ?_
  refine r_n (pc1 := 13) [.long (G (18446744073709551615#64)), .long (G (hL h 57 10)), .long (G (hL h 60 p0.toNat))] _ rfl rfl ?_
  refine r_lxor (pc1 := 14) rfl rfl ?_
  refine r_land (pc1 := 15) rfl rfl ?_
  refine r_vL (fun b2 eb2 => ?_)
  have w := w b2 eb2
  refine r_lstn (pc1 := 16) (ls1 := [some (rv 57), some (.int (J p0)), some (.long (G b2)), none, none, none, none, none, none]) rfl rfl rfl rfl ?_
  refine r_aldn (pc1 := 17) rfl rfl rfl ?_
  refine r_gfC (pc1 := 20) (q := 61) rfl rfl rfl t0 (lyk t0 rfl) rfl rfl (lyR t0 rfl rfl) ?_
  refine r_n (pc1 := 21) [.int (J p0), rv 61] _ rfl rfl ?_
  refine r_lal (pc1 := 22) rfl rfl t0 (lyk t0 rfl) rp0 c1.1 (lt_len (lyn t0 rfl) c1.2) ?_
  refine r_aldn (pc1 := 23) rfl rfl rfl ?_
  refine r_gfL (pc1 := 26) rfl rfl rfl t0 (lyk t0 rfl) rfl rfl ?_
  refine r_n (pc1 := 29) [.long (G (18446744073709551615#64)), .long (G (hL h 57 9)), .long (G (hL h 61 p0.toNat))] _ rfl rfl ?_
  refine r_lxor (pc1 := 30) rfl rfl ?_
  refine r_land (pc1 := 31) rfl rfl ?_
  refine r_vL (fun b3 eb3 => ?_)
  have w := w b3 eb3
  refine r_lst (pc1 := 33) (ls1 := [some (rv 57), some (.int (J p0)), some (.long (G b2)), none, some (.long (G b3)), none, none, none, none]) rfl rfl rfl rfl ?_
  refine r_n (pc1 := 34) [.long (G b2)] _ rfl rfl ?_
  refine r_n (pc1 := 36) [.long (G b3), .long (G b2)] _ rfl rfl ?_
  refine r_n (pc1 := 37) [.int (J (-1)), .long (G b3), .long (G b2)] _ rfl rfl ?_
  refine r_iq rfl rfl rfl rfl rfl rfl (xe_of (xa_l (xa_l (xa_i xa_0))) rfl rfl) (r_d0 hd rfl) (a_X7_pick b2 b3 (-1) (r_d1 hd rfl) (rgk rfl) w t0 (fun x4 rx4 w => ?_))
  refine r_fI (pc1 := 40) rfl ?_
  have w := w rx4
  refine r_ist (pc1 := 42) (ls1 := [some (rv 57), some (.int (J p0)), some (.long (G b2)), none, some (.long (G b3)), none, some (.int (J x4)), none, none]) rfl rfl rfl rfl ?_
  refine r_n (pc1 := 43) [.long (G b2)] _ rfl rfl ?_
  refine r_n (pc1 := 45) [.long (G b3), .long (G b2)] _ rfl rfl ?_
  refine r_n (pc1 := 47) [.int (J x4), .long (G b3), .long (G b2)] _ rfl rfl ?_
  refine r_iq rfl rfl rfl rfl rfl rfl (xe_of (xa_l (xa_l (xa_i xa_0))) rfl rfl) (r_d0 hd rfl) (a_X7_pick b2 b3 x4 (r_d1 hd rfl) rx4 w t0 (fun x5 rx5 w => ?_))
  refine r_fI (pc1 := 50) rfl ?_
  have w := w rx5
  refine r_ist (pc1 := 52) (ls1 := [some (rv 57), some (.int (J p0)), some (.long (G b2)), none, some (.long (G b3)), none, some (.int (J x4)), some (.int (J x5)), none]) rfl rfl rfl rfl ?_
  refine r_aldn (pc1 := 53) rfl rfl rfl ?_
  refine r_gfI (pc1 := 56) rfl rfl rfl t0 (lyk t0 rfl) rfl rfl ?_
  refine r_vI (rgh _ _ _) (fun x6 ex6 rx6 => ?_)
  have w := w x6 ex6 rx6
  refine r_ist (pc1 := 58) (ls1 := [some (rv 57), some (.int (J p0)), some (.long (G b2)), none, some (.long (G b3)), none, some (.int (J x4)), some (.int (J x5)), some (.int (J x6))]) rfl rfl rfl rfl ?_
  obtain ⟨I14, m14, w, y14⟩ := w
  have Q14 : ∀ (n : Nat) (d7 : Option Value) (d8 : Option Value) (d9 : Option Value) (d10 : Option Value) (x11 : Int) (x12 : Int) (x13 : Int), rg x11 → rg x12 → rg x13 → m14 x11 x12 x13 < n → I14 x11 x12 x13 → RR sc goal fs 446 58 [some (rv 57), some (.int (J p0)), d7, d8, d9, d10, some (.int (J x11)), some (.int (J x12)), some (.int (J x13))] [] h := by
    intro n
    induction n with
    | zero => intro d7 d8 d9 d10 x11 x12 x13 rx11 rx12 rx13 q14 _; exact absurd q14 (Nat.not_lt_zero _)
    | succ n ih14 =>
      intro d7 d8 d9 d10 x11 x12 x13 rx11 rx12 rx13 q14 z14
      have w := y14 x11 x12 x13 rx11 rx12 rx13 z14
      refine r_n (pc1 := 60) [.int (J x13)] _ rfl rfl ?_
      obtain ⟨J15, j15, w⟩ := w
      have Q15 : J15 → RR sc goal fs 446 136 [some (rv 57), some (.int (J p0)), d7, d8, d9, d10, some (.int (J x11)), some (.int (J x12)), some (.int (J x13))] [] h := by
        intro z15
        have w := j15 z15
        refine r_n (pc1 := 138) [.int (J x11)] _ rfl rfl ?_
        refine r_n (pc1 := 139) [.int (J (-1)), .int (J x11)] _ rfl rfl ?_
        refine r_ic (t := 143) (pc1 := 142) rfl rfl rfl rx11 (rgk rfl) (fun c26 => ?_) (fun c26 => ?_)
        · have w := w.1 c26
          refine r_aldn (pc1 := 144) rfl rfl rfl ?_
          refine r_n (pc1 := 145) [.int (J 2), rv 57] _ rfl rfl ?_
          refine r_n (pc1 := 146) [.int (J p0), .int (J 2), rv 57] _ rfl rfl ?_
          refine r_imul (pc1 := 147) rfl rfl ?_
          refine r_n (pc1 := 149) [.int (J x11), .int (J (wr (2 * p0))), rv 57] _ rfl rfl ?_
          refine r_iv rfl rfl rfl rfl rfl rfl t0 (lyk t0 rfl) rfl (xe_of (xa_r (xa_i (xa_i xa_0))) rfl rfl) (r_d0 hd rfl) (a_X7_link (wr (2 * p0)) x11 (r_d1 hd rfl) (rgw _) rx11 w t0 (fun h16 t16 u16 w => ?_))
          refine r_fV (pc1 := 152) rfl ?_
          have s16 := HX_trans (HX_refl h) u16
          have w := w t16 u16
          refine r_aldn (pc1 := 153) rfl rfl rfl ?_
          refine r_n (pc1 := 154) [.int (J 2), rv 57] _ rfl rfl ?_
          refine r_n (pc1 := 155) [.int (J p0), .int (J 2), rv 57] _ rfl rfl ?_
          refine r_imul (pc1 := 156) rfl rfl ?_
          refine r_n (pc1 := 157) [.int (J 1), .int (J (wr (2 * p0))), rv 57] _ rfl rfl ?_
          refine r_iadd (pc1 := 158) rfl rfl ?_
          refine r_n (pc1 := 160) [.int (J x12), .int (J (wr ((wr (2 * p0)) + 1))), rv 57] _ rfl rfl ?_
          refine r_n (pc1 := 161) [.int (J (-1)), .int (J x12), .int (J (wr ((wr (2 * p0)) + 1))), rv 57] _ rfl rfl ?_
          obtain ⟨J18, j18, w⟩ := w
          have Q18 : ∀ (x17 : Int), rg x17 → J18 x17 → RR sc goal fs 446 171 [some (rv 57), some (.int (J p0)), d7, d8, d9, d10, some (.int (J x11)), some (.int (J x12)), some (.int (J x13))] [.int (J x17), .int (J (wr ((wr (2 * p0)) + 1))), rv 57] h16 := by
            intro x17 rx17 z18
            have w := j18 x17 rx17 z18
            refine r_iv rfl rfl rfl rfl rfl rfl t16 (lyk t16 rfl) rfl (xe_of (xa_r (xa_i (xa_i xa_0))) rfl rfl) (r_d0 hd rfl) (a_X7_link (wr ((wr (2 * p0)) + 1)) x17 (r_d1 hd rfl) (rgw _) rx17 w t16 (fun h19 t19 u19 w => ?_))
            refine r_fV (pc1 := 174) rfl ?_
            have s19 := HX_trans s16 u19
            have w := w t19 u19
            refine r_n (pc1 := 176) [.int (J x12)] _ rfl rfl ?_
            refine r_n (pc1 := 177) [.int (J (-1)), .int (J x12)] _ rfl rfl ?_
            obtain ⟨J21, j21, w⟩ := w
            have Q21 : ∀ (h20 : XH), HT h20 → HX h h20 → J21 h20 → RR sc goal fs 446 209 [some (rv 57), some (.int (J p0)), d7, d8, d9, d10, some (.int (J x11)), some (.int (J x12)), some (.int (J x13))] [] h20 := by
              intro h20 t20 s20 z21
              have w := j21 h20 t20 s20 z21
              exact r_retV rfl rfl rfl (k _ t20 s20 w)
            refine r_ic (t := 209) (pc1 := 180) rfl rfl rfl rx12 (rgk rfl) (fun c24 => ?_) (fun c24 => ?_)
            · have w := w.1 c24
              exact Q21   h19 t19 s19  w
            · have w := w.2 c24
              refine r_aldn (pc1 := 181) rfl rfl rfl ?_
              refine r_gfL (pc1 := 184) rfl rfl rfl t19 (lyk t19 rfl) rfl rfl ?_
              refine r_aldn (pc1 := 185) rfl rfl rfl ?_
              refine r_gfL (pc1 := 188) rfl rfl rfl t19 (lyk t19 rfl) rfl rfl ?_
              refine r_lor (pc1 := 189) rfl rfl ?_
              refine r_n (pc1 := 191) [.int (J x11), .long (G ((hL h19 57 9) ||| (hL h19 57 10)))] _ rfl rfl ?_
              refine r_n (pc1 := 193) [.int (J 64), .int (J x11), .long (G ((hL h19 57 9) ||| (hL h19 57 10)))] _ rfl rfl ?_
              refine r_irem (pc1 := 194) rfl rfl (rgk rfl) (by decide) ?_
              refine r_lshr (pc1 := 195) rfl rfl ?_
              refine r_n (pc1 := 196) [.long (G (1#64)), .long (G (lshr ((hL h19 57 9) ||| (hL h19 57 10)) (irem x11 64)))] _ rfl rfl ?_
              refine r_land (pc1 := 197) rfl rfl ?_
              refine r_n (pc1 := 198) [.long (G (0#64)), .long (G ((lshr ((hL h19 57 9) ||| (hL h19 57 10)) (irem x11 64)) &&& (1#64)))] _ rfl rfl ?_
              refine r_lc (pc2 := 199) (t := 209) (pc1 := 202) rfl rfl rfl rfl rfl (fun c23 => ?_) (fun c23 => ?_)
              · have w := w.1 c23
                exact Q21   h19 t19 s19  w
              · have w := w.2 c23
                refine r_aldn (pc1 := 203) rfl rfl rfl ?_
                refine r_n (pc1 := 205) [.int (J x11), rv 57] _ rfl rfl ?_
                refine r_n (pc1 := 206) [.int (J p0), .int (J x11), rv 57] _ rfl rfl ?_
                refine r_iv rfl rfl rfl rfl rfl rfl t19 (lyk t19 rfl) rfl (xe_of (xa_r (xa_i (xa_i xa_0))) rfl rfl) (r_d0 hd rfl) (a_X7_put x11 p0 (r_d1 hd rfl) rx11 rp0 w t19 (fun h22 t22 u22 w => ?_))
                refine r_fV (pc1 := 209) rfl ?_
                have s22 := HX_trans s19 u22
                have w := w t22 u22
                exact Q21   h22 t22 s22  w
          refine r_ic (t := 169) (pc1 := 164) rfl rfl rfl rx12 (rgk rfl) (fun c25 => ?_) (fun c25 => ?_)
          · have w := w.1 c25
            refine r_n (pc1 := 171) [.int (J x12), .int (J (wr ((wr (2 * p0)) + 1))), rv 57] _ rfl rfl ?_
            exact Q18  x12  rx12 w
          · have w := w.2 c25
            refine r_n (pc1 := 166) [.int (J x11), .int (J (wr ((wr (2 * p0)) + 1))), rv 57] _ rfl rfl ?_
            refine r_goto (t := 171) rfl rfl ?_
            exact Q18  x11  rx11 w
        · have w := w.2 c26
          exact r_retV rfl rfl rfl (k _ t0 (HX_refl h) w)
      refine r_iz (t := 136) (pc1 := 63) rfl rfl rfl rx13 (fun c37 => ?_) (fun c37 => ?_)
      · have w := w.1 c37
        exact Q15     w
      · have w := w.2 c37
        refine r_n (pc1 := 65) [.int (J x12)] _ rfl rfl ?_
        refine r_n (pc1 := 66) [.int (J (-1)), .int (J x12)] _ rfl rfl ?_
        refine r_ic (t := 136) (pc1 := 69) rfl rfl rfl rx12 (rgk rfl) (fun c36 => ?_) (fun c36 => ?_)
        · have w := w.1 c36
          exact Q15     w
        · have w := w.2 c36
          refine r_aldn (pc1 := 70) rfl rfl rfl ?_
          refine r_gfC (pc1 := 73) (q := 60) rfl rfl rfl t0 (lyk t0 rfl) rfl rfl (lyR t0 rfl rfl) ?_
          refine r_n (pc1 := 74) [.int (J p0), rv 60] _ rfl rfl ?_
          refine r_lal (pc1 := 75) rfl rfl t0 (lyk t0 rfl) rp0 c1.1 (lt_len (lyn t0 rfl) c1.2) ?_
          refine r_aldn (pc1 := 76) rfl rfl rfl ?_
          refine r_gfC (pc1 := 79) (q := 62) rfl rfl rfl t0 (lyk t0 rfl) rfl rfl (lyR t0 rfl rfl) ?_
          refine r_n (pc1 := 81) [.int (J x13), rv 62, .long (G (hL h 60 p0.toNat))] _ rfl rfl ?_
          obtain ⟨c27, w⟩ := w
          refine r_lal (pc1 := 82) rfl rfl t0 (lyk t0 rfl) rx13 c27.1 (lt_len (lyn t0 rfl) c27.2) ?_
          refine r_land (pc1 := 83) rfl rfl ?_
          refine r_vL (fun b28 eb28 => ?_)
          have w := w b28 eb28
          refine r_lstn (pc1 := 84) (ls1 := [some (rv 57), some (.int (J p0)), some (.long (G b28)), none, d9, d10, some (.int (J x11)), some (.int (J x12)), some (.int (J x13))]) rfl rfl rfl rfl ?_
          refine r_aldn (pc1 := 85) rfl rfl rfl ?_
          refine r_gfC (pc1 := 88) (q := 61) rfl rfl rfl t0 (lyk t0 rfl) rfl rfl (lyR t0 rfl rfl) ?_
          refine r_n (pc1 := 89) [.int (J p0), rv 61] _ rfl rfl ?_
          refine r_lal (pc1 := 90) rfl rfl t0 (lyk t0 rfl) rp0 c1.1 (lt_len (lyn t0 rfl) c1.2) ?_
          refine r_aldn (pc1 := 91) rfl rfl rfl ?_
          refine r_gfC (pc1 := 94) (q := 62) rfl rfl rfl t0 (lyk t0 rfl) rfl rfl (lyR t0 rfl rfl) ?_
          refine r_n (pc1 := 96) [.int (J x13), rv 62, .long (G (hL h 61 p0.toNat))] _ rfl rfl ?_
          refine r_lal (pc1 := 97) rfl rfl t0 (lyk t0 rfl) rx13 c27.1 (lt_len (lyn t0 rfl) c27.2) ?_
          refine r_land (pc1 := 98) rfl rfl ?_
          refine r_vL (fun b29 eb29 => ?_)
          have w := w b29 eb29
          refine r_lst (pc1 := 100) (ls1 := [some (rv 57), some (.int (J p0)), some (.long (G b28)), none, some (.long (G b29)), none, some (.int (J x11)), some (.int (J x12)), some (.int (J x13))]) rfl rfl rfl rfl ?_
          refine r_n (pc1 := 102) [.int (J x11)] _ rfl rfl ?_
          refine r_n (pc1 := 103) [.int (J (-1)), .int (J x11)] _ rfl rfl ?_
          obtain ⟨J31, j31, w⟩ := w
          have Q31 : ∀ (x30 : Int), rg x30 → J31 x30 → RR sc goal fs 446 118 [some (rv 57), some (.int (J p0)), some (.long (G b28)), none, some (.long (G b29)), none, some (.int (J x11)), some (.int (J x12)), some (.int (J x13))] [.int (J x30)] h := by
            intro x30 rx30 z31
            have w := j31 x30 rx30 z31
            refine r_ist (pc1 := 120) (ls1 := [some (rv 57), some (.int (J p0)), some (.long (G b28)), none, some (.long (G b29)), none, some (.int (J x30)), some (.int (J x12)), some (.int (J x13))]) rfl rfl rfl rfl ?_
            refine r_n (pc1 := 121) [.long (G b28)] _ rfl rfl ?_
            refine r_n (pc1 := 123) [.long (G b29), .long (G b28)] _ rfl rfl ?_
            refine r_n (pc1 := 125) [.int (J x30), .long (G b29), .long (G b28)] _ rfl rfl ?_
            refine r_iq rfl rfl rfl rfl rfl rfl (xe_of (xa_l (xa_l (xa_i xa_0))) rfl rfl) (r_d0 hd rfl) (a_X7_pick b28 b29 x30 (r_d1 hd rfl) rx30 w t0 (fun x32 rx32 w => ?_))
            refine r_fI (pc1 := 128) rfl ?_
            have w := w rx32
            refine r_ist (pc1 := 130) (ls1 := [some (rv 57), some (.int (J p0)), some (.long (G b28)), none, some (.long (G b29)), none, some (.int (J x30)), some (.int (J x32)), some (.int (J x13))]) rfl rfl rfl rfl ?_
            refine r_inc (pc1 := 133) (g := fun zz => [some (rv 57), some (.int (J p0)), some (.long (G b28)), none, some (.long (G b29)), none, some (.int (J x30)), some (.int (J x32)), some (.int (J zz))]) rfl rfl rfl rfl (fun _ => rfl) (fun x33 ex33 rx33 => ?_)
            have w := w x33 ex33 rx33
            refine r_goto (t := 58) rfl rfl ?_
            exact ih14 _ _ _ _ x30 x32 x33  rx30 rx32 rx33 (Nat.lt_of_lt_of_le w.2 (Nat.le_of_lt_succ q14)) w.1
          refine r_ic (t := 116) (pc1 := 106) rfl rfl rfl rx11 (rgk rfl) (fun c35 => ?_) (fun c35 => ?_)
          · have w := w.1 c35
            refine r_n (pc1 := 118) [.int (J x11)] _ rfl rfl ?_
            exact Q31  x11  rx11 w
          · have w := w.2 c35
            refine r_n (pc1 := 107) [.long (G b28)] _ rfl rfl ?_
            refine r_n (pc1 := 109) [.long (G b29), .long (G b28)] _ rfl rfl ?_
            refine r_n (pc1 := 110) [.int (J (-1)), .long (G b29), .long (G b28)] _ rfl rfl ?_
            refine r_iq rfl rfl rfl rfl rfl rfl (xe_of (xa_l (xa_l (xa_i xa_0))) rfl rfl) (r_d0 hd rfl) (a_X7_pick b28 b29 (-1) (r_d1 hd rfl) (rgk rfl) w t0 (fun x34 rx34 w => ?_))
            refine r_fI (pc1 := 113) rfl ?_
            have w := w rx34
            refine r_goto (t := 118) rfl rfl ?_
            exact Q31  x34  rx34 w
  exact Q14 _ _ _ _ _ x4 x5 x6  rx4 rx5 rx6 (Nat.lt_succ_self _) w
def w_X7_watchAll  (K : XH → Prop) (h : XH) : Prop :=
  ((∃ (I3 : Int → XH → Prop) (m3 : Int → XH → Nat), I3 0 h ∧ ∀ (x1 : Int) (h2 : XH), HT h2 → HX h h2 → rg x1 → I3 x1 h2 → (((128 ≤ x1 → ((∃ (I6 : Int → XH → Prop) (m6 : Int → XH → Nat), I6 0 h2 ∧ ∀ (x4 : Int) (h5 : XH), HT h5 → HX h h5 → rg x4 → I6 x4 h5 → (((hI h5 57 8 ≤ x4 → (K h5)) ∧ (¬ (hI h5 57 8 ≤ x4) → (w_X7_isTaken x4 (fun x7 => rg x7 → (x7 = 0 ∨ x7 = 1) → (∃ J9 : XH → Prop, (∀ (h8 : XH), HT h8 → HX h h8 → J9 h8 → (∀ x10 : Int, x10 = wr (x4 + 1) → rg x10 → (I6 x10 h8 ∧ m6 x10 h8 < m6 x4 h5))) ∧ ((x7 = 0 → J9 h5) ∧ (¬ (x7 = 0) → ((0 ≤ x4 ∧ x4 < 3926) ∧ ((¬ (hL h5 60 x4.toNat) &&& (hL h5 61 x4.toNat) = (0#64) → J9 h5) ∧ (¬ (¬ (hL h5 60 x4.toNat) &&& (hL h5 61 x4.toNat) = (0#64)) → (w_X7_watch x4 (fun h12 => HT h12 → HX h5 h12 → J9 h12) h5)))))))) h5))))))) ∧ (¬ (128 ≤ x1) → ((0 ≤ wr (7848 + x1) ∧ wr (7848 + x1) < 7976) ∧ ∀ h17 : XH, h17 = sI h2 66 (wr (7848 + x1)).toNat (-1) → HT h17 → HX h2 h17 → ∀ x18 : Int, x18 = wr (x1 + 1) → rg x18 → (I3 x18 h17 ∧ m3 x18 h17 < m3 x1 h2)))))))
set_option maxHeartbeats 4000000 in
theorem a_X7_watchAll {sc : Nat × (Nat → Int32)} {goal : XO → XH → Prop} {fs : List XF} {h : XH}  {K : XH → Prop} (hd : fs.length + 3 ≤ 1000) (w : w_X7_watchAll  K h) (t0 : HT h) (k : ∀ (h1 : XH), HT h1 → HX h h1 → K h1 → XFin xP sc goal fs (.inl none) h1) : RR sc goal fs 447 0 [some (rv 57), none] [] h := by
  unfold w_X7_watchAll at w
  refine r_n (pc1 := 1) [.int (J 0)] _ rfl rfl ?_
  refine r_istn (pc1 := 2) (ls1 := [some (rv 57), some (.int (J 0))]) rfl rfl rfl rfl ?_
  obtain ⟨I3, m3, w, y3⟩ := w
  have Q3 : ∀ (n : Nat)  (x1 : Int) (h2 : XH), HT h2 → HX h h2 → rg x1 → m3 x1 h2 < n → I3 x1 h2 → RR sc goal fs 447 2 [some (rv 57), some (.int (J x1))] [] h2 := by
    intro n
    induction n with
    | zero => intro x1 h2 t2 s2 rx1 q3 _; exact absurd q3 (Nat.not_lt_zero _)
    | succ n ih3 =>
      intro x1 h2 t2 s2 rx1 q3 z3
      have w := y3 x1 h2 t2 s2 rx1 z3
      refine r_n (pc1 := 3) [.int (J x1)] _ rfl rfl ?_
      refine r_n (pc1 := 6) [.int (J 128), .int (J x1)] _ rfl rfl ?_
      refine r_ic (t := 26) (pc1 := 9) rfl rfl rfl rx1 (rgk rfl) (fun c19 => ?_) (fun c19 => ?_)
      · have w := w.1 c19
        refine r_n (pc1 := 27) [.int (J 0)] _ rfl rfl ?_
        refine r_istn (pc1 := 28) (ls1 := [some (rv 57), some (.int (J 0))]) rfl rfl rfl rfl ?_
        obtain ⟨I6, m6, w, y6⟩ := w
        have Q6 : ∀ (n : Nat)  (x4 : Int) (h5 : XH), HT h5 → HX h h5 → rg x4 → m6 x4 h5 < n → I6 x4 h5 → RR sc goal fs 447 28 [some (rv 57), some (.int (J x4))] [] h5 := by
          intro n
          induction n with
          | zero => intro x4 h5 t5 s5 rx4 q6 _; exact absurd q6 (Nat.not_lt_zero _)
          | succ n ih6 =>
            intro x4 h5 t5 s5 rx4 q6 z6
            have w := y6 x4 h5 t5 s5 rx4 z6
            refine r_n (pc1 := 29) [.int (J x4)] _ rfl rfl ?_
            refine r_aldn (pc1 := 30) rfl rfl rfl ?_
            refine r_gfI (pc1 := 33) rfl rfl rfl t5 (lyk t5 rfl) rfl rfl ?_
            refine r_ic (t := 73) (pc1 := 36) rfl rfl rfl rx4 (rgh _ _ _) (fun c15 => ?_) (fun c15 => ?_)
            · have w := w.1 c15
              exact r_retV rfl rfl rfl (k _ t5 s5 w)
            · have w := w.2 c15
              refine r_aldn (pc1 := 37) rfl rfl rfl ?_
              refine r_n (pc1 := 38) [.int (J x4), rv 57] _ rfl rfl ?_
              refine r_iv rfl rfl rfl rfl rfl rfl t5 (lyk t5 rfl) rfl (xe_of (xa_r (xa_i xa_0)) rfl rfl) (r_d0 hd rfl) (a_X7_isTaken x4 (r_d1 hd rfl) rx4 w t5 (fun x7 rx7 vx7 w => ?_))
              refine r_fI (pc1 := 41) rfl ?_
              have w := w rx7 vx7
              obtain ⟨J9, j9, w⟩ := w
              have Q9 : ∀ (h8 : XH), HT h8 → HX h h8 → J9 h8 → RR sc goal fs 447 67 [some (rv 57), some (.int (J x4))] [] h8 := by
                intro h8 t8 s8 z9
                have w := j9 h8 t8 s8 z9
                refine r_inc (pc1 := 70) (g := fun zz => [some (rv 57), some (.int (J zz))]) rfl rfl rfl rfl (fun _ => rfl) (fun x10 ex10 rx10 => ?_)
                have w := w x10 ex10 rx10
                refine r_goto (t := 28) rfl rfl ?_
                exact ih6  x10 h8 t8 s8 rx10 (Nat.lt_of_lt_of_le w.2 (Nat.le_of_lt_succ q6)) w.1
              refine r_iz (t := 67) (pc1 := 44) rfl rfl rfl rx7 (fun c14 => ?_) (fun c14 => ?_)
              · have w := w.1 c14
                exact Q9   h5 t5 s5  w
              · have w := w.2 c14
                refine r_aldn (pc1 := 45) rfl rfl rfl ?_
                refine r_gfC (pc1 := 48) (q := 60) rfl rfl rfl t5 (lyk t5 rfl) rfl rfl (lyR t5 rfl rfl) ?_
                refine r_n (pc1 := 49) [.int (J x4), rv 60] _ rfl rfl ?_
                obtain ⟨c11, w⟩ := w
                refine r_lal (pc1 := 50) rfl rfl t5 (lyk t5 rfl) rx4 c11.1 (lt_len (lyn t5 rfl) c11.2) ?_
                refine r_aldn (pc1 := 51) rfl rfl rfl ?_
                refine r_gfC (pc1 := 54) (q := 61) rfl rfl rfl t5 (lyk t5 rfl) rfl rfl (lyR t5 rfl rfl) ?_
                refine r_n (pc1 := 55) [.int (J x4), rv 61, .long (G (hL h5 60 x4.toNat))] _ rfl rfl ?_
                refine r_lal (pc1 := 56) rfl rfl t5 (lyk t5 rfl) rx4 c11.1 (lt_len (lyn t5 rfl) c11.2) ?_
                refine r_land (pc1 := 57) rfl rfl ?_
                refine r_n (pc1 := 58) [.long (G (0#64)), .long (G ((hL h5 60 x4.toNat) &&& (hL h5 61 x4.toNat)))] _ rfl rfl ?_
                refine r_lc (pc2 := 59) (t := 67) (pc1 := 62) rfl rfl rfl rfl rfl (fun c13 => ?_) (fun c13 => ?_)
                · have w := w.1 c13
                  exact Q9   h5 t5 s5  w
                · have w := w.2 c13
                  refine r_aldn (pc1 := 63) rfl rfl rfl ?_
                  refine r_n (pc1 := 64) [.int (J x4), rv 57] _ rfl rfl ?_
                  refine r_iv rfl rfl rfl rfl rfl rfl t5 (lyk t5 rfl) rfl (xe_of (xa_r (xa_i xa_0)) rfl rfl) (r_d0 hd rfl) (a_X7_watch x4 (r_d1 hd rfl) rx4 w t5 (fun h12 t12 u12 w => ?_))
                  refine r_fV (pc1 := 67) rfl ?_
                  have s12 := HX_trans s5 u12
                  have w := w t12 u12
                  exact Q9   h12 t12 s12  w
        exact Q6 _  0 h2 t2 s2 (rgk rfl) (Nat.lt_succ_self _) w
      · have w := w.2 c19
        refine r_aldn (pc1 := 10) rfl rfl rfl ?_
        refine r_gfC (pc1 := 13) (q := 66) rfl rfl rfl t2 (lyk t2 rfl) rfl rfl (lyR t2 rfl rfl) ?_
        refine r_n (pc1 := 16) [.int (J 7848), rv 66] _ rfl rfl ?_
        refine r_n (pc1 := 17) [.int (J x1), .int (J 7848), rv 66] _ rfl rfl ?_
        refine r_iadd (pc1 := 18) rfl rfl ?_
        refine r_n (pc1 := 19) [.int (J (-1)), .int (J (wr (7848 + x1))), rv 66] _ rfl rfl ?_
        obtain ⟨c16, w⟩ := w
        refine r_iast (pc1 := 20) rfl rfl t2 (lyk t2 rfl) (rgw _) c16.1 (lt_len (lyn t2 rfl) c16.2) (fun h17 eh17 t17 u17 => ?_)
        have w := w h17 eh17 t17 u17
        have s17 := HX_trans s2 u17
        refine r_inc (pc1 := 23) (g := fun zz => [some (rv 57), some (.int (J zz))]) rfl rfl rfl rfl (fun _ => rfl) (fun x18 ex18 rx18 => ?_)
        have w := w x18 ex18 rx18
        refine r_goto (t := 2) rfl rfl ?_
        exact ih3  x18 h17 t17 s17 rx18 (Nat.lt_of_lt_of_le w.2 (Nat.le_of_lt_succ q3)) w.1
  exact Q3 _  0 h t0 (HX_refl h) (rgk rfl) (Nat.lt_succ_self _) w
def w_X7_load (p0 : BitVec 64) (p1 : Int) (K : XH → Prop) (h : XH) : Prop :=
  (∀ h1 : XH, h1 = sL h 57 3 p0 → HT h1 → HX h h1 → ∀ h2 : XH, h2 = sI h1 57 4 p1 → HT h2 → HX h1 h2 → ∀ h3 : XH, h3 = sL h2 57 9 (0#64) → HT h3 → HX h2 h3 → ∀ h4 : XH, h4 = sL h3 57 10 (0#64) → HT h4 → HX h3 h4 → ∀ h5 : XH, h5 = sI h4 57 11 0 → HT h5 → HX h4 h5 → ∀ h6 : XH, h6 = sL h5 62 0 (0#64) → HT h6 → HX h5 h6 → ∀ h7 : XH, h7 = sI h6 57 14 0 → HT h7 → HX h6 h7 → ∀ h8 : XH, h8 = sI h7 57 19 1 → HT h8 → HX h7 h8 → w_J7_fill_53178 67 0 (fun h9 => HT h9 → HX h8 h9 → ((¬ 52 = 60 ∧ (0 : Int) ≤ 0 ∧ (0 : Int) ≤ 0 ∧ (0 : Int) ≤ hI h9 51 3 ∧ ((0 + (hI h9 51 3) : Int)) ≤ 3712 ∧ ((0 + (hI h9 51 3) : Int)) ≤ 3926) ∧ ∀ h11 : XH, h11 = cA h9 52 0 60 0 (hI h9 51 3).toNat → HT h11 → HX h9 h11 → (¬ 53 = 61 ∧ (0 : Int) ≤ 0 ∧ (0 : Int) ≤ 0 ∧ (0 : Int) ≤ hI h11 51 3 ∧ ((0 + (hI h11 51 3) : Int)) ≤ 3712 ∧ ((0 + (hI h11 51 3) : Int)) ≤ 3926) ∧ ∀ h13 : XH, h13 = cA h11 53 0 61 0 (hI h11 51 3).toNat → HT h13 → HX h11 h13 → ∀ h14 : XH, h14 = sI h13 57 7 (hI h13 51 3) → HT h14 → HX h13 h14 → ∀ x15 : Int, x15 = hI h14 9 0 → rg x15 → (∃ (I18 : Int → XH → Prop) (m18 : Int → XH → Nat), I18 0 h14 ∧ ∀ (x16 : Int) (h17 : XH), HT h17 → HX h h17 → rg x16 → I18 x16 h17 → (∃ J19 : Prop, (J19 → (∀ h20 : XH, h20 = sI h17 57 8 (hI h17 57 7) → HT h20 → HX h17 h20 → w_X7_watchAll (fun h21 => HT h21 → HX h20 h21 → (K h21)) h20)) ∧ ((x15 ≤ x16 → J19) ∧ (¬ (x15 ≤ x16) → (((x15 ≤ hI h17 57 4 → J19) ∧ (¬ (x15 ≤ hI h17 57 4) → (w_X7_tellChange x16 (fun h22 => HT h22 → HX h17 h22 → (∀ x23 : Int, x23 = wr (x16 + 1) → rg x23 → (I18 x23 h22 ∧ m18 x23 h22 < m18 x16 h17))) h17)))))))))) h8)
set_option maxHeartbeats 4000000 in
theorem a_X7_load {sc : Nat × (Nat → Int32)} {goal : XO → XH → Prop} {fs : List XF} {h : XH} (p0 : BitVec 64) (p1 : Int) {K : XH → Prop} (hd : fs.length + 4 ≤ 1000) (rp1 : rg p1) (w : w_X7_load p0 p1 K h) (t0 : HT h) (k : ∀ (h1 : XH), HT h1 → HX h h1 → K h1 → XFin xP sc goal fs (.inl none) h1) : RR sc goal fs 438 0 [some (rv 57), some (.long (G p0)), none, some (.int (J p1)), none, none] [] h := by
  unfold w_X7_load at w
  refine r_aldn (pc1 := 1) rfl rfl rfl ?_
  refine r_n (pc1 := 2) [.long (G p0), rv 57] _ rfl rfl ?_
  refine r_pfL (pc1 := 5) rfl rfl rfl t0 (lyk t0 rfl) rfl rfl rfl (fun h1 eh1 t1 u1 => ?_)
  have w := w h1 eh1 t1 u1
  have s1 := HX_trans (HX_refl h) u1
  refine r_aldn (pc1 := 6) rfl rfl rfl ?_
  refine r_n (pc1 := 7) [.int (J p1), rv 57] _ rfl rfl ?_
  refine r_pfI (pc1 := 10) rfl rfl rfl t1 (lyk t1 rfl) rfl rfl rfl (fun h2 eh2 t2 u2 => ?_)
  have w := w h2 eh2 t2 u2
  have s2 := HX_trans s1 u2
  refine r_aldn (pc1 := 11) rfl rfl rfl ?_
  refine r_n (pc1 := 12) [.long (G (0#64)), rv 57] _ rfl rfl ?_
  refine r_pfL (pc1 := 15) rfl rfl rfl t2 (lyk t2 rfl) rfl rfl rfl (fun h3 eh3 t3 u3 => ?_)
  have w := w h3 eh3 t3 u3
  have s3 := HX_trans s2 u3
  refine r_aldn (pc1 := 16) rfl rfl rfl ?_
  refine r_n (pc1 := 17) [.long (G (0#64)), rv 57] _ rfl rfl ?_
  refine r_pfL (pc1 := 20) rfl rfl rfl t3 (lyk t3 rfl) rfl rfl rfl (fun h4 eh4 t4 u4 => ?_)
  have w := w h4 eh4 t4 u4
  have s4 := HX_trans s3 u4
  refine r_aldn (pc1 := 21) rfl rfl rfl ?_
  refine r_n (pc1 := 22) [.int (J 0), rv 57] _ rfl rfl ?_
  refine r_pfI (pc1 := 25) rfl rfl rfl t4 (lyk t4 rfl) rfl rfl rfl (fun h5 eh5 t5 u5 => ?_)
  have w := w h5 eh5 t5 u5
  have s5 := HX_trans s4 u5
  refine r_aldn (pc1 := 26) rfl rfl rfl ?_
  refine r_gfC (pc1 := 29) (q := 62) rfl rfl rfl t5 (lyk t5 rfl) rfl rfl (lyR t5 rfl rfl) ?_
  refine r_n (pc1 := 30) [.int (J 0), rv 62] _ rfl rfl ?_
  refine r_n (pc1 := 31) [.long (G (0#64)), .int (J 0), rv 62] _ rfl rfl ?_
  refine r_last (pc1 := 32) rfl rfl t5 (lyk t5 rfl) (rgk rfl) (by decide) (lt_len (lyn t5 rfl) (by decide)) (fun h6 eh6 t6 u6 => ?_)
  have w := w h6 eh6 t6 u6
  have s6 := HX_trans s5 u6
  refine r_aldn (pc1 := 33) rfl rfl rfl ?_
  refine r_n (pc1 := 34) [.int (J 0), rv 57] _ rfl rfl ?_
  refine r_pfI (pc1 := 37) rfl rfl rfl t6 (lyk t6 rfl) rfl rfl rfl (fun h7 eh7 t7 u7 => ?_)
  have w := w h7 eh7 t7 u7
  have s7 := HX_trans s6 u7
  refine r_aldn (pc1 := 38) rfl rfl rfl ?_
  refine r_n (pc1 := 39) [.int (J 1), rv 57] _ rfl rfl ?_
  refine r_pfI (pc1 := 42) rfl rfl rfl t7 (lyk t7 rfl) rfl rfl rfl (fun h8 eh8 t8 u8 => ?_)
  have w := w h8 eh8 t8 u8
  have s8 := HX_trans s7 u8
  refine r_aldn (pc1 := 43) rfl rfl rfl ?_
  refine r_gfC (pc1 := 46) (q := 67) rfl rfl rfl t8 (lyk t8 rfl) rfl rfl (lyR t8 rfl rfl) ?_
  refine r_n (pc1 := 47) [.int (J 0), rv 67] _ rfl rfl ?_
  refine r_iq rfl rfl rfl rfl rfl rfl (xe_of (xa_r (xa_i xa_0)) rfl rfl) (r_d0 hd rfl) (a_J7_fill_53178 67 0 (r_d1 hd rfl) (rgk rfl) w t8 (fun h9 t9 u9 w => ?_))
  refine r_fV (pc1 := 50) rfl ?_
  have s9 := HX_trans s8 u9
  have w := w t9 u9
  refine r_aldn (pc1 := 51) rfl rfl rfl ?_
  refine r_gfC (pc1 := 54) (q := 51) rfl rfl rfl t9 (lyk t9 rfl) rfl rfl (lyR t9 rfl rfl) ?_
  refine r_gfC (pc1 := 57) (q := 52) rfl rfl rfl t9 (lyk t9 rfl) rfl rfl (lyR t9 rfl rfl) ?_
  refine r_n (pc1 := 58) [.int (J 0), rv 52] _ rfl rfl ?_
  refine r_aldn (pc1 := 59) rfl rfl rfl ?_
  refine r_gfC (pc1 := 62) (q := 60) rfl rfl rfl t9 (lyk t9 rfl) rfl rfl (lyR t9 rfl rfl) ?_
  refine r_n (pc1 := 63) [.int (J 0), rv 60, .int (J 0), rv 52] _ rfl rfl ?_
  refine r_aldn (pc1 := 64) rfl rfl rfl ?_
  refine r_gfC (pc1 := 67) (q := 51) rfl rfl rfl t9 (lyk t9 rfl) rfl rfl (lyR t9 rfl rfl) ?_
  refine r_gfI (pc1 := 70) rfl rfl rfl t9 (lyk t9 rfl) rfl rfl ?_
  obtain ⟨c10, w⟩ := w
  refine r_cp (pc1 := 73) (u := 1) rfl rfl rfl rfl t9 (lyk t9 rfl) (lyk t9 rfl) (by decide) (rgk rfl) (rgk rfl) (rgh _ _ _) (lyn t9 rfl) (lyn t9 rfl) c10 (fun h11 eh11 t11 u11 => ?_)
  have w := w h11 eh11 t11 u11
  have s11 := HX_trans s9 u11
  refine r_aldn (pc1 := 74) rfl rfl rfl ?_
  refine r_gfC (pc1 := 77) (q := 51) rfl rfl rfl t11 (lyk t11 rfl) rfl rfl (lyR t11 rfl rfl) ?_
  refine r_gfC (pc1 := 80) (q := 53) rfl rfl rfl t11 (lyk t11 rfl) rfl rfl (lyR t11 rfl rfl) ?_
  refine r_n (pc1 := 81) [.int (J 0), rv 53] _ rfl rfl ?_
  refine r_aldn (pc1 := 82) rfl rfl rfl ?_
  refine r_gfC (pc1 := 85) (q := 61) rfl rfl rfl t11 (lyk t11 rfl) rfl rfl (lyR t11 rfl rfl) ?_
  refine r_n (pc1 := 86) [.int (J 0), rv 61, .int (J 0), rv 53] _ rfl rfl ?_
  refine r_aldn (pc1 := 87) rfl rfl rfl ?_
  refine r_gfC (pc1 := 90) (q := 51) rfl rfl rfl t11 (lyk t11 rfl) rfl rfl (lyR t11 rfl rfl) ?_
  refine r_gfI (pc1 := 93) rfl rfl rfl t11 (lyk t11 rfl) rfl rfl ?_
  obtain ⟨c12, w⟩ := w
  refine r_cp (pc1 := 96) (u := 1) rfl rfl rfl rfl t11 (lyk t11 rfl) (lyk t11 rfl) (by decide) (rgk rfl) (rgk rfl) (rgh _ _ _) (lyn t11 rfl) (lyn t11 rfl) c12 (fun h13 eh13 t13 u13 => ?_)
  have w := w h13 eh13 t13 u13
  have s13 := HX_trans s11 u13
  refine r_aldn (pc1 := 97) rfl rfl rfl ?_
  refine r_aldn (pc1 := 98) rfl rfl rfl ?_
  refine r_gfC (pc1 := 101) (q := 51) rfl rfl rfl t13 (lyk t13 rfl) rfl rfl (lyR t13 rfl rfl) ?_
  refine r_gfI (pc1 := 104) rfl rfl rfl t13 (lyk t13 rfl) rfl rfl ?_
  refine r_pfI (pc1 := 107) rfl rfl rfl t13 (lyk t13 rfl) rfl rfl rfl (fun h14 eh14 t14 u14 => ?_)
  have w := w h14 eh14 t14 u14
  have s14 := HX_trans s13 u14
  refine r_aldn (pc1 := 108) rfl rfl rfl ?_
  refine r_gfC (pc1 := 111) (q := 51) rfl rfl rfl t14 (lyk t14 rfl) rfl rfl (lyR t14 rfl rfl) ?_
  refine r_gfC (pc1 := 114) (q := 9) rfl rfl rfl t14 (lyk t14 rfl) rfl rfl (lyR t14 rfl rfl) ?_
  refine r_gfI (pc1 := 117) rfl rfl rfl t14 (lyk t14 rfl) rfl rfl ?_
  refine r_vI (rgh _ _ _) (fun x15 ex15 rx15 => ?_)
  have w := w x15 ex15 rx15
  refine r_ist (pc1 := 119) (ls1 := [some (rv 57), some (.long (G p0)), none, some (.int (J p1)), some (.int (J x15)), none]) rfl rfl rfl rfl ?_
  refine r_n (pc1 := 120) [.int (J 0)] _ rfl rfl ?_
  refine r_ist (pc1 := 122) (ls1 := [some (rv 57), some (.long (G p0)), none, some (.int (J p1)), some (.int (J x15)), some (.int (J 0))]) rfl rfl rfl rfl ?_
  obtain ⟨I18, m18, w, y18⟩ := w
  have Q18 : ∀ (n : Nat)  (x16 : Int) (h17 : XH), HT h17 → HX h h17 → rg x16 → m18 x16 h17 < n → I18 x16 h17 → RR sc goal fs 438 122 [some (rv 57), some (.long (G p0)), none, some (.int (J p1)), some (.int (J x15)), some (.int (J x16))] [] h17 := by
    intro n
    induction n with
    | zero => intro x16 h17 t17 s17 rx16 q18 _; exact absurd q18 (Nat.not_lt_zero _)
    | succ n ih18 =>
      intro x16 h17 t17 s17 rx16 q18 z18
      have w := y18 x16 h17 t17 s17 rx16 z18
      refine r_n (pc1 := 124) [.int (J x16)] _ rfl rfl ?_
      refine r_n (pc1 := 126) [.int (J x15), .int (J x16)] _ rfl rfl ?_
      obtain ⟨J19, j19, w⟩ := w
      have Q19 : J19 → RR sc goal fs 438 150 [some (rv 57), some (.long (G p0)), none, some (.int (J p1)), some (.int (J x15)), some (.int (J x16))] [] h17 := by
        intro z19
        have w := j19 z19
        refine r_aldn (pc1 := 151) rfl rfl rfl ?_
        refine r_aldn (pc1 := 152) rfl rfl rfl ?_
        refine r_gfI (pc1 := 155) rfl rfl rfl t17 (lyk t17 rfl) rfl rfl ?_
        refine r_pfI (pc1 := 158) rfl rfl rfl t17 (lyk t17 rfl) rfl rfl rfl (fun h20 eh20 t20 u20 => ?_)
        have w := w h20 eh20 t20 u20
        have s20 := HX_trans s17 u20
        refine r_aldn (pc1 := 159) rfl rfl rfl ?_
        refine r_iv rfl rfl rfl rfl rfl rfl t20 (lyk t20 rfl) rfl (xe_of (xa_r xa_0) rfl rfl) (r_d0 hd rfl) (a_X7_watchAll  (r_d1 hd rfl)  w t20 (fun h21 t21 u21 w => ?_))
        refine r_fV (pc1 := 162) rfl ?_
        have s21 := HX_trans s20 u21
        have w := w t21 u21
        exact r_retV rfl rfl rfl (k _ t21 s21 w)
      refine r_ic (t := 150) (pc1 := 129) rfl rfl rfl rx16 rx15 (fun c25 => ?_) (fun c25 => ?_)
      · have w := w.1 c25
        exact Q19     w
      · have w := w.2 c25
        refine r_aldn (pc1 := 130) rfl rfl rfl ?_
        refine r_gfI (pc1 := 133) rfl rfl rfl t17 (lyk t17 rfl) rfl rfl ?_
        refine r_n (pc1 := 135) [.int (J x15), .int (J (hI h17 57 4))] _ rfl rfl ?_
        refine r_ic (t := 150) (pc1 := 138) rfl rfl rfl (rgh _ _ _) rx15 (fun c24 => ?_) (fun c24 => ?_)
        · have w := w.1 c24
          exact Q19     w
        · have w := w.2 c24
          refine r_aldn (pc1 := 139) rfl rfl rfl ?_
          refine r_n (pc1 := 141) [.int (J x16), rv 57] _ rfl rfl ?_
          refine r_iv rfl rfl rfl rfl rfl rfl t17 (lyk t17 rfl) rfl (xe_of (xa_r (xa_i xa_0)) rfl rfl) (r_d0 hd rfl) (a_X7_tellChange x16 (r_d1 hd rfl) rx16 w t17 (fun h22 t22 u22 w => ?_))
          refine r_fV (pc1 := 144) rfl ?_
          have s22 := HX_trans s17 u22
          have w := w t22 u22
          refine r_inc (pc1 := 147) (g := fun zz => [some (rv 57), some (.long (G p0)), none, some (.int (J p1)), some (.int (J x15)), some (.int (J zz))]) rfl rfl rfl rfl (fun _ => rfl) (fun x23 ex23 rx23 => ?_)
          have w := w x23 ex23 rx23
          refine r_goto (t := 122) rfl rfl ?_
          exact ih18  x23 h22 t22 s22 rx23 (Nat.lt_of_lt_of_le w.2 (Nat.le_of_lt_succ q18)) w.1
  exact Q18 _  0 h14 t14 s14 (rgk rfl) (Nat.lt_succ_self _) w
def w_X7_back (p0 : Int) (K : XH → Prop) (h : XH) : Prop :=
  (∃ (I2 : XH → Prop) (m2 : XH → Nat), I2 h ∧ ∀ (h1 : XH), HT h1 → HX h h1 → I2 h1 → (∃ J3 : Prop, (J3 → (w_J13_bitCount_95d88 ((hL h1 57 9) ||| (hL h1 57 10)) (fun x4 => rg x4 → (w_J9_min_7cf53 (hI h1 57 14) x4 (fun x5 => rg x5 → (∀ h6 : XH, h6 = sI h1 57 14 x5 → HT h6 → HX h1 h6 → K h6)) h1)) h1)) ∧ ((hI h1 57 11 ≤ p0 → J3) ∧ (¬ (hI h1 57 11 ≤ p0) → (((hI h1 57 11 ≤ 0 → J3) ∧ (¬ (hI h1 57 11 ≤ 0) → (∀ x7 : Int, x7 = hI h1 57 11 → rg x7 → (0 ≤ x7 ∧ x7 < 66) ∧ ∀ h9 : XH, h9 = sL h1 57 9 ((hL h1 57 9) &&& ((hL h1 62 x7.toNat) ^^^ (18446744073709551615#64))) → HT h9 → HX h1 h9 → ∀ x10 : Int, x10 = hI h9 57 11 → rg x10 → (0 ≤ x10 ∧ x10 < 66) ∧ ∀ h12 : XH, h12 = sL h9 57 10 ((hL h9 57 10) &&& ((hL h9 62 x10.toNat) ^^^ (18446744073709551615#64))) → HT h12 → HX h9 h12 → ∀ h13 : XH, h13 = sI h12 57 11 (wr ((hI h12 57 11) - 1)) → HT h13 → HX h12 h13 → (I2 h13 ∧ m2 h13 < m2 h1)))))))))
set_option maxHeartbeats 4000000 in
theorem a_X7_back {sc : Nat × (Nat → Int32)} {goal : XO → XH → Prop} {fs : List XF} {h : XH} (p0 : Int) {K : XH → Prop} (hd : fs.length + 1 ≤ 1000) (rp0 : rg p0) (w : w_X7_back p0 K h) (t0 : HT h) (k : ∀ (h1 : XH), HT h1 → HX h h1 → K h1 → XFin xP sc goal fs (.inl none) h1) : RR sc goal fs 422 0 [some (rv 57), some (.int (J p0))] [] h := by
  unfold w_X7_back at w
  obtain ⟨I2, m2, w, y2⟩ := w
  have Q2 : ∀ (n : Nat)  (h1 : XH), HT h1 → HX h h1 → m2 h1 < n → I2 h1 → RR sc goal fs 422 0 [some (rv 57), some (.int (J p0))] [] h1 := by
    intro n
    induction n with
    | zero => intro h1 t1 s1 q2 _; exact absurd q2 (Nat.not_lt_zero _)
    | succ n ih2 =>
      intro h1 t1 s1 q2 z2
      have w := y2 h1 t1 s1 z2
      refine r_aldn (pc1 := 1) rfl rfl rfl ?_
      refine r_gfI (pc1 := 4) rfl rfl rfl t1 (lyk t1 rfl) rfl rfl ?_
      refine r_n (pc1 := 5) [.int (J p0), .int (J (hI h1 57 11))] _ rfl rfl ?_
      obtain ⟨J3, j3, w⟩ := w
      have Q3 : J3 → RR sc goal fs 422 72 [some (rv 57), some (.int (J p0))] [] h1 := by
        intro z3
        have w := j3 z3
        refine r_aldn (pc1 := 73) rfl rfl rfl ?_
        refine r_aldn (pc1 := 74) rfl rfl rfl ?_
        refine r_gfI (pc1 := 77) rfl rfl rfl t1 (lyk t1 rfl) rfl rfl ?_
        refine r_aldn (pc1 := 78) rfl rfl rfl ?_
        refine r_gfL (pc1 := 81) rfl rfl rfl t1 (lyk t1 rfl) rfl rfl ?_
        refine r_aldn (pc1 := 82) rfl rfl rfl ?_
        refine r_gfL (pc1 := 85) rfl rfl rfl t1 (lyk t1 rfl) rfl rfl ?_
        refine r_lor (pc1 := 86) rfl rfl ?_
        refine r_iq rfl rfl rfl rfl rfl rfl (xe_of (xa_l xa_0) rfl rfl) (r_d0 hd rfl) (a_J13_bitCount_95d88 ((hL h1 57 9) ||| (hL h1 57 10)) (r_d1 hd rfl)  w t1 (fun x4 rx4 w => ?_))
        refine r_fI (pc1 := 89) rfl ?_
        have w := w rx4
        refine r_iq rfl rfl rfl rfl rfl rfl (xe_of (xa_i (xa_i xa_0)) rfl rfl) (r_d0 hd rfl) (a_J9_min_7cf53 (hI h1 57 14) x4 (r_d1 hd rfl) (rgh _ _ _) rx4 w t1 (fun x5 rx5 w => ?_))
        refine r_fI (pc1 := 92) rfl ?_
        have w := w rx5
        refine r_pfI (pc1 := 95) rfl rfl rfl t1 (lyk t1 rfl) rfl rfl rfl (fun h6 eh6 t6 u6 => ?_)
        have w := w h6 eh6 t6 u6
        have s6 := HX_trans s1 u6
        exact r_retV rfl rfl rfl (k _ t6 s6 w)
      refine r_ic (t := 72) (pc1 := 8) rfl rfl rfl (rgh _ _ _) rp0 (fun c15 => ?_) (fun c15 => ?_)
      · have w := w.1 c15
        exact Q3     w
      · have w := w.2 c15
        refine r_aldn (pc1 := 9) rfl rfl rfl ?_
        refine r_gfI (pc1 := 12) rfl rfl rfl t1 (lyk t1 rfl) rfl rfl ?_
        refine r_iz (t := 72) (pc1 := 15) rfl rfl rfl (rgh _ _ _) (fun c14 => ?_) (fun c14 => ?_)
        · have w := w.1 c14
          exact Q3     w
        · have w := w.2 c14
          refine r_aldn (pc1 := 16) rfl rfl rfl ?_
          refine r_dupR (pc1 := 17) rfl rfl ?_
          refine r_gfL (pc1 := 20) rfl rfl rfl t1 (lyk t1 rfl) rfl rfl ?_
          refine r_aldn (pc1 := 21) rfl rfl rfl ?_
          refine r_gfC (pc1 := 24) (q := 62) rfl rfl rfl t1 (lyk t1 rfl) rfl rfl (lyR t1 rfl rfl) ?_
          refine r_aldn (pc1 := 25) rfl rfl rfl ?_
          refine r_gfI (pc1 := 28) rfl rfl rfl t1 (lyk t1 rfl) rfl rfl ?_
          refine r_vI (rgh _ _ _) (fun x7 ex7 rx7 => ?_)
          have w := w x7 ex7 rx7
          obtain ⟨c8, w⟩ := w
          refine r_lal (pc1 := 29) rfl rfl t1 (lyk t1 rfl) rx7 c8.1 (lt_len (lyn t1 rfl) c8.2) ?_
          refine r_n (pc1 := 32) [.long (G (18446744073709551615#64)), .long (G (hL h1 62 x7.toNat)), .long (G (hL h1 57 9)), rv 57] _ rfl rfl ?_
          refine r_lxor (pc1 := 33) rfl rfl ?_
          refine r_land (pc1 := 34) rfl rfl ?_
          refine r_pfL (pc1 := 37) rfl rfl rfl t1 (lyk t1 rfl) rfl rfl rfl (fun h9 eh9 t9 u9 => ?_)
          have w := w h9 eh9 t9 u9
          have s9 := HX_trans s1 u9
          refine r_aldn (pc1 := 38) rfl rfl rfl ?_
          refine r_dupR (pc1 := 39) rfl rfl ?_
          refine r_gfL (pc1 := 42) rfl rfl rfl t9 (lyk t9 rfl) rfl rfl ?_
          refine r_aldn (pc1 := 43) rfl rfl rfl ?_
          refine r_gfC (pc1 := 46) (q := 62) rfl rfl rfl t9 (lyk t9 rfl) rfl rfl (lyR t9 rfl rfl) ?_
          refine r_aldn (pc1 := 47) rfl rfl rfl ?_
          refine r_gfI (pc1 := 50) rfl rfl rfl t9 (lyk t9 rfl) rfl rfl ?_
          refine r_vI (rgh _ _ _) (fun x10 ex10 rx10 => ?_)
          have w := w x10 ex10 rx10
          obtain ⟨c11, w⟩ := w
          refine r_lal (pc1 := 51) rfl rfl t9 (lyk t9 rfl) rx10 c11.1 (lt_len (lyn t9 rfl) c11.2) ?_
          refine r_n (pc1 := 54) [.long (G (18446744073709551615#64)), .long (G (hL h9 62 x10.toNat)), .long (G (hL h9 57 10)), rv 57] _ rfl rfl ?_
          refine r_lxor (pc1 := 55) rfl rfl ?_
          refine r_land (pc1 := 56) rfl rfl ?_
          refine r_pfL (pc1 := 59) rfl rfl rfl t9 (lyk t9 rfl) rfl rfl rfl (fun h12 eh12 t12 u12 => ?_)
          have w := w h12 eh12 t12 u12
          have s12 := HX_trans s9 u12
          refine r_aldn (pc1 := 60) rfl rfl rfl ?_
          refine r_dupR (pc1 := 61) rfl rfl ?_
          refine r_gfI (pc1 := 64) rfl rfl rfl t12 (lyk t12 rfl) rfl rfl ?_
          refine r_n (pc1 := 65) [.int (J 1), .int (J (hI h12 57 11)), rv 57] _ rfl rfl ?_
          refine r_isub (pc1 := 66) rfl rfl ?_
          refine r_pfI (pc1 := 69) rfl rfl rfl t12 (lyk t12 rfl) rfl rfl rfl (fun h13 eh13 t13 u13 => ?_)
          have w := w h13 eh13 t13 u13
          have s13 := HX_trans s12 u13
          refine r_goto (t := 0) rfl rfl ?_
          exact ih2   h13 t13 s13  (Nat.lt_of_lt_of_le w.2 (Nat.le_of_lt_succ q2)) w.1
  exact Q2 _   h t0 (HX_refl h)  (Nat.lt_succ_self _) w
def w_X7_hasEmpty  (K : Int → XH → Prop) (h : XH) : Prop :=
  ((∃ (I2 : Int → Prop) (m2 : Int → Nat), I2 0 ∧ ∀ (x1 : Int), rg x1 → I2 x1 → (((hI h 51 3 ≤ x1 → (K 0 h)) ∧ (¬ (hI h 51 3 ≤ x1) → ((0 ≤ x1 ∧ x1 < 3712) ∧ ∃ J4 : Prop, (J4 → (∀ x5 : Int, x5 = wr (x1 + 1) → rg x5 → (I2 x5 ∧ m2 x5 < m2 x1))) ∧ ((¬ hI h 58 x1.toNat = 0 → J4) ∧ (¬ (¬ hI h 58 x1.toNat = 0) → ((0 ≤ x1 ∧ x1 < 3926) ∧ ((¬ (hL h 60 x1.toNat) ||| (hL h 61 x1.toNat) = (0#64) → J4) ∧ (¬ (¬ (hL h 60 x1.toNat) ||| (hL h 61 x1.toNat) = (0#64)) → (∀ h7 : XH, h7 = sI h 59 x1.toNat 1 → HT h7 → HX h h7 → K 1 h7))))))))))))
set_option maxHeartbeats 4000000 in
theorem a_X7_hasEmpty {sc : Nat × (Nat → Int32)} {goal : XO → XH → Prop} {fs : List XF} {h : XH}  {K : Int → XH → Prop} (hd : fs.length + 0 ≤ 1000) (w : w_X7_hasEmpty  K h) (t0 : HT h) (k : ∀ (r : Int) (h1 : XH), HT h1 → HX h h1 → rg r → (r = 0 ∨ r = 1) → K r h1 → XFin xP sc goal fs (.inl (some (.int (J r)))) h1) : RR sc goal fs 429 0 [some (rv 57), none] [] h := by
  unfold w_X7_hasEmpty at w
  refine r_n (pc1 := 1) [.int (J 0)] _ rfl rfl ?_
  refine r_istn (pc1 := 2) (ls1 := [some (rv 57), some (.int (J 0))]) rfl rfl rfl rfl ?_
  obtain ⟨I2, m2, w, y2⟩ := w
  have Q2 : ∀ (n : Nat)  (x1 : Int), rg x1 → m2 x1 < n → I2 x1 → RR sc goal fs 429 2 [some (rv 57), some (.int (J x1))] [] h := by
    intro n
    induction n with
    | zero => intro x1 rx1 q2 _; exact absurd q2 (Nat.not_lt_zero _)
    | succ n ih2 =>
      intro x1 rx1 q2 z2
      have w := y2 x1 rx1 z2
      refine r_n (pc1 := 3) [.int (J x1)] _ rfl rfl ?_
      refine r_aldn (pc1 := 4) rfl rfl rfl ?_
      refine r_gfC (pc1 := 7) (q := 51) rfl rfl rfl t0 (lyk t0 rfl) rfl rfl (lyR t0 rfl rfl) ?_
      refine r_gfI (pc1 := 10) rfl rfl rfl t0 (lyk t0 rfl) rfl rfl ?_
      refine r_ic (t := 55) (pc1 := 13) rfl rfl rfl rx1 (rgh _ _ _) (fun c10 => ?_) (fun c10 => ?_)
      · have w := w.1 c10
        refine r_n (pc1 := 56) [.int (J 0)] _ rfl rfl ?_
        exact r_retB rfl rfl rfl (.inl rfl) (k _ _ t0 (HX_refl h) (rgk rfl) (.inl rfl) w)
      · have w := w.2 c10
        refine r_aldn (pc1 := 14) rfl rfl rfl ?_
        refine r_gfC (pc1 := 17) (q := 58) rfl rfl rfl t0 (lyk t0 rfl) rfl rfl (lyR t0 rfl rfl) ?_
        refine r_n (pc1 := 18) [.int (J x1), rv 58] _ rfl rfl ?_
        obtain ⟨c3, w⟩ := w
        refine r_bal (pc1 := 19) rfl rfl t0 (lyk t0 rfl) rx1 c3.1 (lt_len (lyn t0 rfl) c3.2) ?_
        obtain ⟨J4, j4, w⟩ := w
        have Q4 : J4 → RR sc goal fs 429 49 [some (rv 57), some (.int (J x1))] [] h := by
          intro z4
          have w := j4 z4
          refine r_inc (pc1 := 52) (g := fun zz => [some (rv 57), some (.int (J zz))]) rfl rfl rfl rfl (fun _ => rfl) (fun x5 ex5 rx5 => ?_)
          have w := w x5 ex5 rx5
          refine r_goto (t := 2) rfl rfl ?_
          exact ih2  x5  rx5 (Nat.lt_of_lt_of_le w.2 (Nat.le_of_lt_succ q2)) w.1
        refine r_iz (t := 49) (pc1 := 22) rfl rfl rfl (rgh _ _ _) (fun c9 => ?_) (fun c9 => ?_)
        · have w := w.1 c9
          exact Q4     w
        · have w := w.2 c9
          refine r_aldn (pc1 := 23) rfl rfl rfl ?_
          refine r_gfC (pc1 := 26) (q := 60) rfl rfl rfl t0 (lyk t0 rfl) rfl rfl (lyR t0 rfl rfl) ?_
          refine r_n (pc1 := 27) [.int (J x1), rv 60] _ rfl rfl ?_
          obtain ⟨c6, w⟩ := w
          refine r_lal (pc1 := 28) rfl rfl t0 (lyk t0 rfl) rx1 c6.1 (lt_len (lyn t0 rfl) c6.2) ?_
          refine r_aldn (pc1 := 29) rfl rfl rfl ?_
          refine r_gfC (pc1 := 32) (q := 61) rfl rfl rfl t0 (lyk t0 rfl) rfl rfl (lyR t0 rfl rfl) ?_
          refine r_n (pc1 := 33) [.int (J x1), rv 61, .long (G (hL h 60 x1.toNat))] _ rfl rfl ?_
          refine r_lal (pc1 := 34) rfl rfl t0 (lyk t0 rfl) rx1 c6.1 (lt_len (lyn t0 rfl) c6.2) ?_
          refine r_lor (pc1 := 35) rfl rfl ?_
          refine r_n (pc1 := 36) [.long (G (0#64)), .long (G ((hL h 60 x1.toNat) ||| (hL h 61 x1.toNat)))] _ rfl rfl ?_
          refine r_lc (pc2 := 37) (t := 49) (pc1 := 40) rfl rfl rfl rfl rfl (fun c8 => ?_) (fun c8 => ?_)
          · have w := w.1 c8
            exact Q4     w
          · have w := w.2 c8
            refine r_aldn (pc1 := 41) rfl rfl rfl ?_
            refine r_gfC (pc1 := 44) (q := 59) rfl rfl rfl t0 (lyk t0 rfl) rfl rfl (lyR t0 rfl rfl) ?_
            refine r_n (pc1 := 45) [.int (J x1), rv 59] _ rfl rfl ?_
            refine r_n (pc1 := 46) [.int (J 1), .int (J x1), rv 59] _ rfl rfl ?_
            refine r_bast (pc1 := 47) rfl rfl t0 (lyk t0 rfl) (.inr rfl) rx1 c3.1 (lt_len (lyn t0 rfl) c3.2) (fun h7 eh7 t7 u7 => ?_)
            have w := w h7 eh7 t7 u7
            have s7 := HX_trans (HX_refl h) u7
            refine r_n (pc1 := 48) [.int (J 1)] _ rfl rfl ?_
            exact r_retB rfl rfl rfl (.inr rfl) (k _ _ t7 s7 (rgk rfl) (.inr rfl) w)
  exact Q2 _  0  (rgk rfl) (Nat.lt_succ_self _) w
def w_X7_visit (p0 : Int) (K : Int → XH → Prop) (h : XH) : Prop :=
  (∀ x1 : Int, x1 = wr (7848 + p0) → rg x1 → (0 ≤ x1 ∧ x1 < 7976) ∧ ∀ x3 : Int, x3 = hI h 66 x1.toNat → rg x3 → (0 ≤ wr (7848 + p0) ∧ wr (7848 + p0) < 7976) ∧ ∀ h5 : XH, h5 = sI h 66 (wr (7848 + p0)).toNat (-1) → HT h5 → HX h h5 → (∃ (I19 : Int → Int → Int → XH → Prop) (m19 : Int → Int → Int → XH → Nat), I19 (-1) x3 0 h5 ∧ ∀ (x6 : Int) (x7 : Int) (x8 : Int) (h18 : XH), HT h18 → HX h h18 → rg x6 → rg x7 → rg x8 → I19 x6 x7 x8 h18 → (∃ J20 : Prop, (J20 → (K x6 h18)) ∧ ((7848 ≤ x8 → J20) ∧ (¬ (7848 ≤ x8) → (((x7 = (-1) → J20) ∧ (¬ (x7 = (-1)) → ((0 ≤ x7 ∧ x7 < 7976) ∧ ∀ x22 : Int, x22 = hI h18 66 x7.toNat → rg x22 → ∀ x23 : Int, x23 = idiv x7 2 → rg x23 → ∃ J25 : Int → Prop, (∀ (x24 : Int), rg x24 → J25 x24 → ((0 ≤ x24 ∧ x24 < 7848) ∧ ∀ x27 : Int, x27 = hI h18 65 x24.toNat → rg x27 → ∃ J37 : Int → Int → XH → Prop, (∀ (x28 : Int) (x30 : Int) (h36 : XH), HT h36 → HX h h36 → rg x28 → rg x30 → J37 x28 x30 h36 → (w_X7_link x7 x30 (fun h38 => HT h38 → HX h36 h38 → (∀ x39 : Int, x39 = wr (x8 + 1) → rg x39 → (I19 x28 x22 x39 h38 ∧ m19 x28 x22 x39 h38 < m19 x6 x7 x8 h18))) h36)) ∧ ((¬ x6 = (-1) → J37 x6 p0 h18) ∧ (¬ (¬ x6 = (-1)) → ((0 ≤ x23 ∧ x23 < 3926) ∧ ((¬ ((hL h18 60 x23.toNat) &&& (hL h18 57 9)) ||| ((hL h18 61 x23.toNat) &&& (hL h18 57 10)) = (0#64) → J37 x6 p0 h18) ∧ (¬ (¬ ((hL h18 60 x23.toNat) &&& (hL h18 57 9)) ||| ((hL h18 61 x23.toNat) &&& (hL h18 57 10)) = (0#64)) → (∀ b41 : BitVec 64, b41 = (hL h18 60 x23.toNat) &&& ((hL h18 57 10) ^^^ (18446744073709551615#64)) → ∀ b42 : BitVec 64, b42 = (hL h18 61 x23.toNat) &&& ((hL h18 57 9) ^^^ (18446744073709551615#64)) → w_X7_pick b41 b42 x27 (fun x43 => rg x43 → (∃ J45 : Int → Prop, (∀ (x44 : Int), rg x44 → J45 x44 → (((¬ b41 ||| b42 = (0#64) → (((¬ x43 = (-1) → J37 x6 x44 h18) ∧ (¬ (¬ x43 = (-1)) → (w_X7_put x27 x23 (fun h46 => HT h46 → HX h18 h46 → J37 x6 x44 h46) h18))))) ∧ (¬ (¬ b41 ||| b42 = (0#64)) → (J37 x23 x44 h18))))) ∧ ((¬ x43 = (-1) → (J45 x43)) ∧ (¬ (¬ x43 = (-1)) → (J45 p0))))) h18)))))))) ∧ ((¬ irem x7 2 = 0 → (J25 (wr (x7 - 1)))) ∧ (¬ (¬ irem x7 2 = 0) → (J25 (wr (x7 + 1))))))))))))))
set_option maxHeartbeats 4000000 in
theorem a_X7_visit {sc : Nat × (Nat → Int32)} {goal : XO → XH → Prop} {fs : List XF} {h : XH} (p0 : Int) {K : Int → XH → Prop} (hd : fs.length + 2 ≤ 1000) (rp0 : rg p0) (w : w_X7_visit p0 K h) (t0 : HT h) (k : ∀ (r : Int) (h1 : XH), HT h1 → HX h h1 → rg r → K r h1 → XFin xP sc goal fs (.inl (some (.int (J r)))) h1) : RR sc goal fs 445 0 [some (rv 57), some (.int (J p0)), none, none, none, none, none, none, none, none, none, none, none, none] [] h := by
  unfold w_X7_visit at w
  refine r_n (pc1 := 1) [.int (J (-1))] _ rfl rfl ?_
  refine r_istn (pc1 := 2) (ls1 := [some (rv 57), some (.int (J p0)), some (.int (J (-1))), none, none, none, none, none, none, none, none, none, none, none]) rfl rfl rfl rfl ?_
  refine r_aldn (pc1 := 3) rfl rfl rfl ?_
  refine r_gfC (pc1 := 6) (q := 66) rfl rfl rfl t0 (lyk t0 rfl) rfl rfl (lyR t0 rfl rfl) ?_
  refine r_n (pc1 := 9) [.int (J 7848), rv 66] _ rfl rfl ?_
  refine r_n (pc1 := 10) [.int (J p0), .int (J 7848), rv 66] _ rfl rfl ?_
  refine r_iadd (pc1 := 11) rfl rfl ?_
  refine r_vI (rgw _) (fun x1 ex1 rx1 => ?_)
  have w := w x1 ex1 rx1
  obtain ⟨c2, w⟩ := w
  refine r_ial (pc1 := 12) rfl rfl t0 (lyk t0 rfl) rx1 c2.1 (lt_len (lyn t0 rfl) c2.2) ?_
  refine r_vI (rgh _ _ _) (fun x3 ex3 rx3 => ?_)
  have w := w x3 ex3 rx3
  refine r_istn (pc1 := 13) (ls1 := [some (rv 57), some (.int (J p0)), some (.int (J (-1))), some (.int (J x3)), none, none, none, none, none, none, none, none, none, none]) rfl rfl rfl rfl ?_
  refine r_aldn (pc1 := 14) rfl rfl rfl ?_
  refine r_gfC (pc1 := 17) (q := 66) rfl rfl rfl t0 (lyk t0 rfl) rfl rfl (lyR t0 rfl rfl) ?_
  refine r_n (pc1 := 20) [.int (J 7848), rv 66] _ rfl rfl ?_
  refine r_n (pc1 := 21) [.int (J p0), .int (J 7848), rv 66] _ rfl rfl ?_
  refine r_iadd (pc1 := 22) rfl rfl ?_
  refine r_n (pc1 := 23) [.int (J (-1)), .int (J (wr (7848 + p0))), rv 66] _ rfl rfl ?_
  obtain ⟨c4, w⟩ := w
  refine r_iast (pc1 := 24) rfl rfl t0 (lyk t0 rfl) (rgw _) c4.1 (lt_len (lyn t0 rfl) c4.2) (fun h5 eh5 t5 u5 => ?_)
  have w := w h5 eh5 t5 u5
  have s5 := HX_trans (HX_refl h) u5
  refine r_n (pc1 := 25) [.int (J 0)] _ rfl rfl ?_
  refine r_ist (pc1 := 27) (ls1 := [some (rv 57), some (.int (J p0)), some (.int (J (-1))), some (.int (J x3)), some (.int (J 0)), none, none, none, none, none, none, none, none, none]) rfl rfl rfl rfl ?_
  obtain ⟨I19, m19, w, y19⟩ := w
  have Q19 : ∀ (n : Nat) (d9 : Option Value) (d10 : Option Value) (d11 : Option Value) (d12 : Option Value) (d13 : Option Value) (d14 : Option Value) (d15 : Option Value) (d16 : Option Value) (d17 : Option Value) (x6 : Int) (x7 : Int) (x8 : Int) (h18 : XH), HT h18 → HX h h18 → rg x6 → rg x7 → rg x8 → m19 x6 x7 x8 h18 < n → I19 x6 x7 x8 h18 → RR sc goal fs 445 27 [some (rv 57), some (.int (J p0)), some (.int (J x6)), some (.int (J x7)), some (.int (J x8)), d9, d10, d11, d12, d13, d14, d15, d16, d17] [] h18 := by
    intro n
    induction n with
    | zero => intro d9 d10 d11 d12 d13 d14 d15 d16 d17 x6 x7 x8 h18 t18 s18 rx6 rx7 rx8 q19 _; exact absurd q19 (Nat.not_lt_zero _)
    | succ n ih19 =>
      intro d9 d10 d11 d12 d13 d14 d15 d16 d17 x6 x7 x8 h18 t18 s18 rx6 rx7 rx8 q19 z19
      have w := y19 x6 x7 x8 h18 t18 s18 rx6 rx7 rx8 z19
      refine r_n (pc1 := 29) [.int (J x8)] _ rfl rfl ?_
      refine r_n (pc1 := 32) [.int (J 7848), .int (J x8)] _ rfl rfl ?_
      obtain ⟨J20, j20, w⟩ := w
      have Q20 : J20 → RR sc goal fs 445 220 [some (rv 57), some (.int (J p0)), some (.int (J x6)), some (.int (J x7)), some (.int (J x8)), d9, d10, d11, d12, d13, d14, d15, d16, d17] [] h18 := by
        intro z20
        have w := j20 z20
        refine r_n (pc1 := 221) [.int (J x6)] _ rfl rfl ?_
        exact r_retI rfl rfl rfl (k _ _ t18 s18 rx6 w)
      refine r_ic (t := 220) (pc1 := 35) rfl rfl rfl rx8 (rgk rfl) (fun c54 => ?_) (fun c54 => ?_)
      · have w := w.1 c54
        exact Q20     w
      · have w := w.2 c54
        refine r_n (pc1 := 36) [.int (J x7)] _ rfl rfl ?_
        refine r_n (pc1 := 37) [.int (J (-1)), .int (J x7)] _ rfl rfl ?_
        refine r_ic (t := 220) (pc1 := 40) rfl rfl rfl rx7 (rgk rfl) (fun c53 => ?_) (fun c53 => ?_)
        · have w := w.1 c53
          exact Q20     w
        · have w := w.2 c53
          refine r_aldn (pc1 := 41) rfl rfl rfl ?_
          refine r_gfC (pc1 := 44) (q := 66) rfl rfl rfl t18 (lyk t18 rfl) rfl rfl (lyR t18 rfl rfl) ?_
          refine r_n (pc1 := 45) [.int (J x7), rv 66] _ rfl rfl ?_
          obtain ⟨c21, w⟩ := w
          refine r_ial (pc1 := 46) rfl rfl t18 (lyk t18 rfl) rx7 c21.1 (lt_len (lyn t18 rfl) c21.2) ?_
          refine r_vI (rgh _ _ _) (fun x22 ex22 rx22 => ?_)
          have w := w x22 ex22 rx22
          refine r_ist (pc1 := 48) (ls1 := [some (rv 57), some (.int (J p0)), some (.int (J x6)), some (.int (J x7)), some (.int (J x8)), some (.int (J x22)), d10, d11, d12, d13, d14, d15, d16, d17]) rfl rfl rfl rfl ?_
          refine r_n (pc1 := 49) [.int (J x7)] _ rfl rfl ?_
          refine r_n (pc1 := 50) [.int (J 2), .int (J x7)] _ rfl rfl ?_
          refine r_idiv (pc1 := 51) rfl rfl (rgk rfl) (by decide) ?_
          refine r_vI (rgt _) (fun x23 ex23 rx23 => ?_)
          have w := w x23 ex23 rx23
          refine r_ist (pc1 := 53) (ls1 := [some (rv 57), some (.int (J p0)), some (.int (J x6)), some (.int (J x7)), some (.int (J x8)), some (.int (J x22)), some (.int (J x23)), d11, d12, d13, d14, d15, d16, d17]) rfl rfl rfl rfl ?_
          refine r_aldn (pc1 := 54) rfl rfl rfl ?_
          refine r_gfC (pc1 := 57) (q := 65) rfl rfl rfl t18 (lyk t18 rfl) rfl rfl (lyR t18 rfl rfl) ?_
          refine r_n (pc1 := 58) [.int (J x7), rv 65] _ rfl rfl ?_
          refine r_n (pc1 := 59) [.int (J 2), .int (J x7), rv 65] _ rfl rfl ?_
          refine r_irem (pc1 := 60) rfl rfl (rgk rfl) (by decide) ?_
          obtain ⟨J25, j25, w⟩ := w
          have Q25 : ∀ (x24 : Int), rg x24 → J25 x24 → RR sc goal fs 445 72 [some (rv 57), some (.int (J p0)), some (.int (J x6)), some (.int (J x7)), some (.int (J x8)), some (.int (J x22)), some (.int (J x23)), d11, d12, d13, d14, d15, d16, d17] [.int (J x24), rv 65] h18 := by
            intro x24 rx24 z25
            have w := j25 x24 rx24 z25
            obtain ⟨c26, w⟩ := w
            refine r_ial (pc1 := 73) rfl rfl t18 (lyk t18 rfl) rx24 c26.1 (lt_len (lyn t18 rfl) c26.2) ?_
            refine r_vI (rgh _ _ _) (fun x27 ex27 rx27 => ?_)
            have w := w x27 ex27 rx27
            refine r_ist (pc1 := 75) (ls1 := [some (rv 57), some (.int (J p0)), some (.int (J x6)), some (.int (J x7)), some (.int (J x8)), some (.int (J x22)), some (.int (J x23)), some (.int (J x27)), d12, d13, d14, d15, d16, d17]) rfl rfl rfl rfl ?_
            refine r_n (pc1 := 76) [.int (J p0)] _ rfl rfl ?_
            refine r_ist (pc1 := 78) (ls1 := [some (rv 57), some (.int (J p0)), some (.int (J x6)), some (.int (J x7)), some (.int (J x8)), some (.int (J x22)), some (.int (J x23)), some (.int (J x27)), some (.int (J p0)), d13, d14, d15, d16, d17]) rfl rfl rfl rfl ?_
            refine r_n (pc1 := 79) [.int (J x6)] _ rfl rfl ?_
            refine r_n (pc1 := 80) [.int (J (-1)), .int (J x6)] _ rfl rfl ?_
            obtain ⟨J37, j37, w⟩ := w
            have Q37 : ∀ (d29 : Option Value) (d31 : Option Value) (d32 : Option Value) (d33 : Option Value) (d34 : Option Value) (d35 : Option Value) (x28 : Int) (x30 : Int) (h36 : XH), HT h36 → HX h h36 → rg x28 → rg x30 → J37 x28 x30 h36 → RR sc goal fs 445 204 [some (rv 57), some (.int (J p0)), some (.int (J x28)), some (.int (J x7)), some (.int (J x8)), some (.int (J x22)), some (.int (J x23)), d29, some (.int (J x30)), d31, d32, d33, d34, d35] [] h36 := by
              intro d29 d31 d32 d33 d34 d35 x28 x30 h36 t36 s36 rx28 rx30 z37
              have w := j37 x28 x30 h36 t36 s36 rx28 rx30 z37
              refine r_aldn (pc1 := 205) rfl rfl rfl ?_
              refine r_n (pc1 := 206) [.int (J x7), rv 57] _ rfl rfl ?_
              refine r_n (pc1 := 208) [.int (J x30), .int (J x7), rv 57] _ rfl rfl ?_
              refine r_iv rfl rfl rfl rfl rfl rfl t36 (lyk t36 rfl) rfl (xe_of (xa_r (xa_i (xa_i xa_0))) rfl rfl) (r_d0 hd rfl) (a_X7_link x7 x30 (r_d1 hd rfl) rx7 rx30 w t36 (fun h38 t38 u38 w => ?_))
              refine r_fV (pc1 := 211) rfl ?_
              have s38 := HX_trans s36 u38
              have w := w t38 u38
              refine r_n (pc1 := 213) [.int (J x22)] _ rfl rfl ?_
              refine r_istn (pc1 := 214) (ls1 := [some (rv 57), some (.int (J p0)), some (.int (J x28)), some (.int (J x22)), some (.int (J x8)), some (.int (J x22)), some (.int (J x23)), d29, some (.int (J x30)), d31, d32, d33, d34, d35]) rfl rfl rfl rfl ?_
              refine r_inc (pc1 := 217) (g := fun zz => [some (rv 57), some (.int (J p0)), some (.int (J x28)), some (.int (J x22)), some (.int (J zz)), some (.int (J x22)), some (.int (J x23)), d29, some (.int (J x30)), d31, d32, d33, d34, d35]) rfl rfl rfl rfl (fun _ => rfl) (fun x39 ex39 rx39 => ?_)
              have w := w x39 ex39 rx39
              refine r_goto (t := 27) rfl rfl ?_
              exact ih19 _ _ _ _ _ _ _ _ _ x28 x22 x39 h38 t38 s38 rx28 rx22 rx39 (Nat.lt_of_lt_of_le w.2 (Nat.le_of_lt_succ q19)) w.1
            refine r_ic (t := 204) (pc1 := 83) rfl rfl rfl rx6 (rgk rfl) (fun c51 => ?_) (fun c51 => ?_)
            · have w := w.1 c51
              exact Q37 _ _ _ _ _ _ x6 p0 h18 t18 s18 rx6 rp0 w
            · have w := w.2 c51
              refine r_aldn (pc1 := 84) rfl rfl rfl ?_
              refine r_gfC (pc1 := 87) (q := 60) rfl rfl rfl t18 (lyk t18 rfl) rfl rfl (lyR t18 rfl rfl) ?_
              refine r_n (pc1 := 89) [.int (J x23), rv 60] _ rfl rfl ?_
              obtain ⟨c40, w⟩ := w
              refine r_lal (pc1 := 90) rfl rfl t18 (lyk t18 rfl) rx23 c40.1 (lt_len (lyn t18 rfl) c40.2) ?_
              refine r_aldn (pc1 := 91) rfl rfl rfl ?_
              refine r_gfL (pc1 := 94) rfl rfl rfl t18 (lyk t18 rfl) rfl rfl ?_
              refine r_land (pc1 := 95) rfl rfl ?_
              refine r_aldn (pc1 := 96) rfl rfl rfl ?_
              refine r_gfC (pc1 := 99) (q := 61) rfl rfl rfl t18 (lyk t18 rfl) rfl rfl (lyR t18 rfl rfl) ?_
              refine r_n (pc1 := 101) [.int (J x23), rv 61, .long (G ((hL h18 60 x23.toNat) &&& (hL h18 57 9)))] _ rfl rfl ?_
              refine r_lal (pc1 := 102) rfl rfl t18 (lyk t18 rfl) rx23 c40.1 (lt_len (lyn t18 rfl) c40.2) ?_
              refine r_aldn (pc1 := 103) rfl rfl rfl ?_
              refine r_gfL (pc1 := 106) rfl rfl rfl t18 (lyk t18 rfl) rfl rfl ?_
              refine r_land (pc1 := 107) rfl rfl ?_
              refine r_lor (pc1 := 108) rfl rfl ?_
              refine r_n (pc1 := 109) [.long (G (0#64)), .long (G (((hL h18 60 x23.toNat) &&& (hL h18 57 9)) ||| ((hL h18 61 x23.toNat) &&& (hL h18 57 10))))] _ rfl rfl ?_
              refine r_lc (pc2 := 110) (t := 204) (pc1 := 113) rfl rfl rfl rfl rfl (fun c50 => ?_) (fun c50 => ?_)
              · have w := w.1 c50
                exact Q37 _ _ _ _ _ _ x6 p0 h18 t18 s18 rx6 rp0 w
              · have w := w.2 c50
                refine r_aldn (pc1 := 114) rfl rfl rfl ?_
                refine r_gfC (pc1 := 117) (q := 60) rfl rfl rfl t18 (lyk t18 rfl) rfl rfl (lyR t18 rfl rfl) ?_
                refine r_n (pc1 := 119) [.int (J x23), rv 60] _ rfl rfl ?_
                refine r_lal (pc1 := 120) rfl rfl t18 (lyk t18 rfl) rx23 c40.1 (lt_len (lyn t18 rfl) c40.2) ?_
                refine r_aldn (pc1 := 121) rfl rfl rfl ?_
                refine r_gfL (pc1 := 124) rfl rfl rfl t18 (lyk t18 rfl) rfl rfl ?_
                refine r_n (pc1 := 127) [.long (G (18446744073709551615#64)), .long (G (hL h18 57 10)), .long (G (hL h18 60 x23.toNat))] _ rfl rfl ?_
                refine r_lxor (pc1 := 128) rfl rfl ?_
                refine r_land (pc1 := 129) rfl rfl ?_
                refine r_vL (fun b41 eb41 => ?_)
                have w := w b41 eb41
                refine r_lst (pc1 := 131) (ls1 := [some (rv 57), some (.int (J p0)), some (.int (J x6)), some (.int (J x7)), some (.int (J x8)), some (.int (J x22)), some (.int (J x23)), some (.int (J x27)), some (.int (J p0)), some (.long (G b41)), none, d15, d16, d17]) rfl rfl rfl rfl ?_
                refine r_aldn (pc1 := 132) rfl rfl rfl ?_
                refine r_gfC (pc1 := 135) (q := 61) rfl rfl rfl t18 (lyk t18 rfl) rfl rfl (lyR t18 rfl rfl) ?_
                refine r_n (pc1 := 137) [.int (J x23), rv 61] _ rfl rfl ?_
                refine r_lal (pc1 := 138) rfl rfl t18 (lyk t18 rfl) rx23 c40.1 (lt_len (lyn t18 rfl) c40.2) ?_
                refine r_aldn (pc1 := 139) rfl rfl rfl ?_
                refine r_gfL (pc1 := 142) rfl rfl rfl t18 (lyk t18 rfl) rfl rfl ?_
                refine r_n (pc1 := 145) [.long (G (18446744073709551615#64)), .long (G (hL h18 57 9)), .long (G (hL h18 61 x23.toNat))] _ rfl rfl ?_
                refine r_lxor (pc1 := 146) rfl rfl ?_
                refine r_land (pc1 := 147) rfl rfl ?_
                refine r_vL (fun b42 eb42 => ?_)
                have w := w b42 eb42
                refine r_lst (pc1 := 149) (ls1 := [some (rv 57), some (.int (J p0)), some (.int (J x6)), some (.int (J x7)), some (.int (J x8)), some (.int (J x22)), some (.int (J x23)), some (.int (J x27)), some (.int (J p0)), some (.long (G b41)), none, some (.long (G b42)), none, d17]) rfl rfl rfl rfl ?_
                refine r_n (pc1 := 151) [.long (G b41)] _ rfl rfl ?_
                refine r_n (pc1 := 153) [.long (G b42), .long (G b41)] _ rfl rfl ?_
                refine r_n (pc1 := 155) [.int (J x27), .long (G b42), .long (G b41)] _ rfl rfl ?_
                refine r_iq rfl rfl rfl rfl rfl rfl (xe_of (xa_l (xa_l (xa_i xa_0))) rfl rfl) (r_d0 hd rfl) (a_X7_pick b41 b42 x27 (r_d1 hd rfl) rx27 w t18 (fun x43 rx43 w => ?_))
                refine r_fI (pc1 := 158) rfl ?_
                have w := w rx43
                refine r_ist (pc1 := 160) (ls1 := [some (rv 57), some (.int (J p0)), some (.int (J x6)), some (.int (J x7)), some (.int (J x8)), some (.int (J x22)), some (.int (J x23)), some (.int (J x27)), some (.int (J p0)), some (.long (G b41)), none, some (.long (G b42)), none, some (.int (J x43))]) rfl rfl rfl rfl ?_
                refine r_n (pc1 := 162) [.int (J x43)] _ rfl rfl ?_
                refine r_n (pc1 := 163) [.int (J (-1)), .int (J x43)] _ rfl rfl ?_
                obtain ⟨J45, j45, w⟩ := w
                have Q45 : ∀ (x44 : Int), rg x44 → J45 x44 → RR sc goal fs 445 172 [some (rv 57), some (.int (J p0)), some (.int (J x6)), some (.int (J x7)), some (.int (J x8)), some (.int (J x22)), some (.int (J x23)), some (.int (J x27)), some (.int (J p0)), some (.long (G b41)), none, some (.long (G b42)), none, some (.int (J x43))] [.int (J x44)] h18 := by
                  intro x44 rx44 z45
                  have w := j45 x44 rx44 z45
                  refine r_ist (pc1 := 174) (ls1 := [some (rv 57), some (.int (J p0)), some (.int (J x6)), some (.int (J x7)), some (.int (J x8)), some (.int (J x22)), some (.int (J x23)), some (.int (J x27)), some (.int (J x44)), some (.long (G b41)), none, some (.long (G b42)), none, some (.int (J x43))]) rfl rfl rfl rfl ?_
                  refine r_n (pc1 := 176) [.long (G b41)] _ rfl rfl ?_
                  refine r_n (pc1 := 178) [.long (G b42), .long (G b41)] _ rfl rfl ?_
                  refine r_lor (pc1 := 179) rfl rfl ?_
                  refine r_n (pc1 := 180) [.long (G (0#64)), .long (G (b41 ||| b42))] _ rfl rfl ?_
                  refine r_lc (pc2 := 181) (t := 190) (pc1 := 184) rfl rfl rfl rfl rfl (fun c48 => ?_) (fun c48 => ?_)
                  · have w := w.1 c48
                    refine r_n (pc1 := 192) [.int (J x43)] _ rfl rfl ?_
                    refine r_n (pc1 := 193) [.int (J (-1)), .int (J x43)] _ rfl rfl ?_
                    refine r_ic (t := 204) (pc1 := 196) rfl rfl rfl rx43 (rgk rfl) (fun c47 => ?_) (fun c47 => ?_)
                    · have w := w.1 c47
                      exact Q37 _ _ _ _ _ _ x6 x44 h18 t18 s18 rx6 rx44 w
                    · have w := w.2 c47
                      refine r_aldn (pc1 := 197) rfl rfl rfl ?_
                      refine r_n (pc1 := 199) [.int (J x27), rv 57] _ rfl rfl ?_
                      refine r_n (pc1 := 201) [.int (J x23), .int (J x27), rv 57] _ rfl rfl ?_
                      refine r_iv rfl rfl rfl rfl rfl rfl t18 (lyk t18 rfl) rfl (xe_of (xa_r (xa_i (xa_i xa_0))) rfl rfl) (r_d0 hd rfl) (a_X7_put x27 x23 (r_d1 hd rfl) rx27 rx23 w t18 (fun h46 t46 u46 w => ?_))
                      refine r_fV (pc1 := 204) rfl ?_
                      have s46 := HX_trans s18 u46
                      have w := w t46 u46
                      exact Q37 _ _ _ _ _ _ x6 x44 h46 t46 s46 rx6 rx44 w
                  · have w := w.2 c48
                    refine r_n (pc1 := 186) [.int (J x23)] _ rfl rfl ?_
                    refine r_istn (pc1 := 187) (ls1 := [some (rv 57), some (.int (J p0)), some (.int (J x23)), some (.int (J x7)), some (.int (J x8)), some (.int (J x22)), some (.int (J x23)), some (.int (J x27)), some (.int (J x44)), some (.long (G b41)), none, some (.long (G b42)), none, some (.int (J x43))]) rfl rfl rfl rfl ?_
                    refine r_goto (t := 204) rfl rfl ?_
                    exact Q37 _ _ _ _ _ _ x23 x44 h18 t18 s18 rx23 rx44 w
                refine r_ic (t := 170) (pc1 := 166) rfl rfl rfl rx43 (rgk rfl) (fun c49 => ?_) (fun c49 => ?_)
                · have w := w.1 c49
                  refine r_n (pc1 := 172) [.int (J x43)] _ rfl rfl ?_
                  exact Q45  x43  rx43 w
                · have w := w.2 c49
                  refine r_n (pc1 := 167) [.int (J p0)] _ rfl rfl ?_
                  refine r_goto (t := 172) rfl rfl ?_
                  exact Q45  p0  rp0 w
          refine r_iz (t := 69) (pc1 := 63) rfl rfl rfl (rgt _) (fun c52 => ?_) (fun c52 => ?_)
          · have w := w.1 c52
            refine r_n (pc1 := 70) [.int (J x7), rv 65] _ rfl rfl ?_
            refine r_n (pc1 := 71) [.int (J 1), .int (J x7), rv 65] _ rfl rfl ?_
            refine r_isub (pc1 := 72) rfl rfl ?_
            exact Q25  (wr (x7 - 1))  (rgw _) w
          · have w := w.2 c52
            refine r_n (pc1 := 64) [.int (J x7), rv 65] _ rfl rfl ?_
            refine r_n (pc1 := 65) [.int (J 1), .int (J x7), rv 65] _ rfl rfl ?_
            refine r_iadd (pc1 := 66) rfl rfl ?_
            refine r_goto (t := 72) rfl rfl ?_
            exact Q25  (wr (x7 + 1))  (rgw _) w
  exact Q19 _ _ _ _ _ _ _ _ _ _ (-1) x3 0 h5 t5 s5 (rgk rfl) rx3 (rgk rfl) (Nat.lt_succ_self _) w
def w_X7_spread  (K : Int → XH → Prop) (h : XH) : Prop :=
  (w_J13_bitCount_95d88 ((hL h 57 9) &&& (18442240474082181120#64)) (fun x1 => rg x1 → ((∃ (I4 : Int → XH → Prop) (m4 : Int → XH → Nat), I4 0 h ∧ ∀ (x2 : Int) (h3 : XH), HT h3 → HX h h3 → rg x2 → I4 x2 h3 → (∃ J5 : Prop, (J5 → (∃ J7 : Int → Prop, (∀ (x6 : Int), rg x6 → J7 x6 → (K x6 h3)) ∧ ((x1 ≤ hI h3 57 4 → (J7 (-1))) ∧ (¬ (x1 ≤ hI h3 57 4) → (J7 3924))))) ∧ ((hI h3 9 0 ≤ x2 → J5) ∧ (¬ (hI h3 9 0 ≤ x2) → (((¬ x1 = hI h3 57 4 → J5) ∧ (¬ (¬ x1 = hI h3 57 4) → (∃ J10 : XH → Prop, (∀ (h9 : XH), HT h9 → HX h h9 → J10 h9 → (∀ x11 : Int, x11 = wr (x2 + 1) → rg x11 → (I4 x11 h9 ∧ m4 x11 h9 < m4 x2 h3))) ∧ ((¬ (lshr ((hL h3 57 9) ||| (hL h3 57 10)) (wr (52 + x2))) &&& (1#64) = (0#64) → J10 h3) ∧ (¬ (¬ (lshr ((hL h3 57 9) ||| (hL h3 57 10)) (wr (52 + x2))) &&& (1#64) = (0#64)) → (w_X7_put (wr (116 + x2)) 3924 (fun h12 => HT h12 → HX h3 h12 → J10 h12) h3))))))))))))) h)
set_option maxHeartbeats 4000000 in
theorem a_X7_spread {sc : Nat × (Nat → Int32)} {goal : XO → XH → Prop} {fs : List XF} {h : XH}  {K : Int → XH → Prop} (hd : fs.length + 2 ≤ 1000) (w : w_X7_spread  K h) (t0 : HT h) (k : ∀ (r : Int) (h1 : XH), HT h1 → HX h h1 → rg r → K r h1 → XFin xP sc goal fs (.inl (some (.int (J r)))) h1) : RR sc goal fs 442 0 [some (rv 57), none, none] [] h := by
  unfold w_X7_spread at w
  refine r_aldn (pc1 := 1) rfl rfl rfl ?_
  refine r_gfL (pc1 := 4) rfl rfl rfl t0 (lyk t0 rfl) rfl rfl ?_
  refine r_n (pc1 := 7) [.long (G (18442240474082181120#64)), .long (G (hL h 57 9))] _ rfl rfl ?_
  refine r_land (pc1 := 8) rfl rfl ?_
  refine r_iq rfl rfl rfl rfl rfl rfl (xe_of (xa_l xa_0) rfl rfl) (r_d0 hd rfl) (a_J13_bitCount_95d88 ((hL h 57 9) &&& (18442240474082181120#64)) (r_d1 hd rfl)  w t0 (fun x1 rx1 w => ?_))
  refine r_fI (pc1 := 11) rfl ?_
  have w := w rx1
  refine r_istn (pc1 := 12) (ls1 := [some (rv 57), some (.int (J x1)), none]) rfl rfl rfl rfl ?_
  refine r_n (pc1 := 13) [.int (J 0)] _ rfl rfl ?_
  refine r_istn (pc1 := 14) (ls1 := [some (rv 57), some (.int (J x1)), some (.int (J 0))]) rfl rfl rfl rfl ?_
  obtain ⟨I4, m4, w, y4⟩ := w
  have Q4 : ∀ (n : Nat)  (x2 : Int) (h3 : XH), HT h3 → HX h h3 → rg x2 → m4 x2 h3 < n → I4 x2 h3 → RR sc goal fs 442 14 [some (rv 57), some (.int (J x1)), some (.int (J x2))] [] h3 := by
    intro n
    induction n with
    | zero => intro x2 h3 t3 s3 rx2 q4 _; exact absurd q4 (Nat.not_lt_zero _)
    | succ n ih4 =>
      intro x2 h3 t3 s3 rx2 q4 z4
      have w := y4 x2 h3 t3 s3 rx2 z4
      refine r_n (pc1 := 15) [.int (J x2)] _ rfl rfl ?_
      refine r_aldn (pc1 := 16) rfl rfl rfl ?_
      refine r_gfC (pc1 := 19) (q := 51) rfl rfl rfl t3 (lyk t3 rfl) rfl rfl (lyR t3 rfl rfl) ?_
      refine r_gfC (pc1 := 22) (q := 9) rfl rfl rfl t3 (lyk t3 rfl) rfl rfl (lyR t3 rfl rfl) ?_
      refine r_gfI (pc1 := 25) rfl rfl rfl t3 (lyk t3 rfl) rfl rfl ?_
      obtain ⟨J5, j5, w⟩ := w
      have Q5 : J5 → RR sc goal fs 442 74 [some (rv 57), some (.int (J x1)), some (.int (J x2))] [] h3 := by
        intro z5
        have w := j5 z5
        refine r_n (pc1 := 75) [.int (J x1)] _ rfl rfl ?_
        refine r_aldn (pc1 := 76) rfl rfl rfl ?_
        refine r_gfI (pc1 := 79) rfl rfl rfl t3 (lyk t3 rfl) rfl rfl ?_
        obtain ⟨J7, j7, w⟩ := w
        have Q7 : ∀ (x6 : Int), rg x6 → J7 x6 → RR sc goal fs 442 89 [some (rv 57), some (.int (J x1)), some (.int (J x2))] [.int (J x6)] h3 := by
          intro x6 rx6 z7
          have w := j7 x6 rx6 z7
          exact r_retI rfl rfl rfl (k _ _ t3 s3 rx6 w)
        refine r_ic (t := 88) (pc1 := 82) rfl rfl rfl rx1 (rgh _ _ _) (fun c8 => ?_) (fun c8 => ?_)
        · have w := w.1 c8
          refine r_n (pc1 := 89) [.int (J (-1))] _ rfl rfl ?_
          exact Q7  (-1)  (rgk rfl) w
        · have w := w.2 c8
          refine r_n (pc1 := 85) [.int (J 3924)] _ rfl rfl ?_
          refine r_goto (t := 89) rfl rfl ?_
          exact Q7  3924  (rgk rfl) w
      refine r_ic (t := 74) (pc1 := 28) rfl rfl rfl rx2 (rgh _ _ _) (fun c15 => ?_) (fun c15 => ?_)
      · have w := w.1 c15
        exact Q5     w
      · have w := w.2 c15
        refine r_n (pc1 := 29) [.int (J x1)] _ rfl rfl ?_
        refine r_aldn (pc1 := 30) rfl rfl rfl ?_
        refine r_gfI (pc1 := 33) rfl rfl rfl t3 (lyk t3 rfl) rfl rfl ?_
        refine r_ic (t := 74) (pc1 := 36) rfl rfl rfl rx1 (rgh _ _ _) (fun c14 => ?_) (fun c14 => ?_)
        · have w := w.1 c14
          exact Q5     w
        · have w := w.2 c14
          refine r_aldn (pc1 := 37) rfl rfl rfl ?_
          refine r_gfL (pc1 := 40) rfl rfl rfl t3 (lyk t3 rfl) rfl rfl ?_
          refine r_aldn (pc1 := 41) rfl rfl rfl ?_
          refine r_gfL (pc1 := 44) rfl rfl rfl t3 (lyk t3 rfl) rfl rfl ?_
          refine r_lor (pc1 := 45) rfl rfl ?_
          refine r_n (pc1 := 47) [.int (J 52), .long (G ((hL h3 57 9) ||| (hL h3 57 10)))] _ rfl rfl ?_
          refine r_n (pc1 := 48) [.int (J x2), .int (J 52), .long (G ((hL h3 57 9) ||| (hL h3 57 10)))] _ rfl rfl ?_
          refine r_iadd (pc1 := 49) rfl rfl ?_
          refine r_lshr (pc1 := 50) rfl rfl ?_
          refine r_n (pc1 := 51) [.long (G (1#64)), .long (G (lshr ((hL h3 57 9) ||| (hL h3 57 10)) (wr (52 + x2))))] _ rfl rfl ?_
          refine r_land (pc1 := 52) rfl rfl ?_
          refine r_n (pc1 := 53) [.long (G (0#64)), .long (G ((lshr ((hL h3 57 9) ||| (hL h3 57 10)) (wr (52 + x2))) &&& (1#64)))] _ rfl rfl ?_
          obtain ⟨J10, j10, w⟩ := w
          have Q10 : ∀ (h9 : XH), HT h9 → HX h h9 → J10 h9 → RR sc goal fs 442 68 [some (rv 57), some (.int (J x1)), some (.int (J x2))] [] h9 := by
            intro h9 t9 s9 z10
            have w := j10 h9 t9 s9 z10
            refine r_inc (pc1 := 71) (g := fun zz => [some (rv 57), some (.int (J x1)), some (.int (J zz))]) rfl rfl rfl rfl (fun _ => rfl) (fun x11 ex11 rx11 => ?_)
            have w := w x11 ex11 rx11
            refine r_goto (t := 14) rfl rfl ?_
            exact ih4  x11 h9 t9 s9 rx11 (Nat.lt_of_lt_of_le w.2 (Nat.le_of_lt_succ q4)) w.1
          refine r_lc (pc2 := 54) (t := 68) (pc1 := 57) rfl rfl rfl rfl rfl (fun c13 => ?_) (fun c13 => ?_)
          · have w := w.1 c13
            exact Q10   h3 t3 s3  w
          · have w := w.2 c13
            refine r_aldn (pc1 := 58) rfl rfl rfl ?_
            refine r_n (pc1 := 60) [.int (J 116), rv 57] _ rfl rfl ?_
            refine r_n (pc1 := 61) [.int (J x2), .int (J 116), rv 57] _ rfl rfl ?_
            refine r_iadd (pc1 := 62) rfl rfl ?_
            refine r_n (pc1 := 65) [.int (J 3924), .int (J (wr (116 + x2))), rv 57] _ rfl rfl ?_
            refine r_iv rfl rfl rfl rfl rfl rfl t3 (lyk t3 rfl) rfl (xe_of (xa_r (xa_i (xa_i xa_0))) rfl rfl) (r_d0 hd rfl) (a_X7_put (wr (116 + x2)) 3924 (r_d1 hd rfl) (rgw _) (rgk rfl) w t3 (fun h12 t12 u12 w => ?_))
            refine r_fV (pc1 := 68) rfl ?_
            have s12 := HX_trans s3 u12
            have w := w t12 u12
            exact Q10   h12 t12 s12  w
  exact Q4 _  0 h t0 (HX_refl h) (rgk rfl) (Nat.lt_succ_self _) w
def w_X7_draw  (K : Int → XH → Prop) (h : XH) : Prop :=
  ((∃ (I5 : Int → Int → XH → Prop) (m5 : Int → Int → XH → Nat), I5 (-1) 0 h ∧ ∀ (x1 : Int) (x2 : Int) (h4 : XH), HT h4 → HX h h4 → rg x1 → rg x2 → I5 x1 x2 h4 → (∃ J6 : Prop, (J6 → (K x1 h4)) ∧ ((64 ≤ x2 → J6) ∧ (¬ (64 ≤ x2) → (((¬ x1 = (-1) → J6) ∧ (¬ (¬ x1 = (-1)) → (w_J13_bitCount_95d88 ((hL h4 57 9) ||| (hL h4 57 10)) (fun x7 => rg x7 → (((x7 ≤ hI h4 57 14 → J6) ∧ (¬ (x7 ≤ hI h4 57 14) → (∀ x8 : Int, x8 = hI h4 57 14 → rg x8 → (0 ≤ x8 ∧ x8 < 64) ∧ ∀ x10 : Int, x10 = hI h4 63 x8.toNat → rg x10 → ∀ h11 : XH, h11 = sI h4 57 14 (wr ((hI h4 57 14) + 1)) → HT h11 → HX h4 h11 → ∃ J13 : Int → Prop, (∀ (x12 : Int), rg x12 → J13 x12 → (w_X7_visit x12 (fun x14 h15 => HT h15 → HX h11 h15 → rg x14 → (∃ J18 : Int → XH → Prop, (∀ (x16 : Int) (h17 : XH), HT h17 → HX h h17 → rg x16 → J18 x16 h17 → (∀ x19 : Int, x19 = wr (x2 + 1) → rg x19 → (I5 x16 x19 h17 ∧ m5 x16 x19 h17 < m5 x1 x2 h4))) ∧ ((¬ x14 = (-1) → J18 x14 h15) ∧ (¬ (¬ x14 = (-1)) → (((x10 < 52 → J18 x14 h15) ∧ (¬ (x10 < 52) → (((64 ≤ x10 → J18 x14 h15) ∧ (¬ (64 ≤ x10) → (w_X7_spread (fun x20 h21 => HT h21 → HX h15 h21 → rg x20 → (J18 x20 h21)) h15))))))))))) h11)) ∧ ((64 ≤ x10 → (J13 (wr (x10 - 64)))) ∧ (¬ (64 ≤ x10) → (J13 (wr (x10 + 64)))))))))) h4)))))))))
set_option maxHeartbeats 4000000 in
theorem a_X7_draw {sc : Nat × (Nat → Int32)} {goal : XO → XH → Prop} {fs : List XF} {h : XH}  {K : Int → XH → Prop} (hd : fs.length + 3 ≤ 1000) (w : w_X7_draw  K h) (t0 : HT h) (k : ∀ (r : Int) (h1 : XH), HT h1 → HX h h1 → rg r → K r h1 → XFin xP sc goal fs (.inl (some (.int (J r)))) h1) : RR sc goal fs 426 0 [some (rv 57), none, none, none] [] h := by
  unfold w_X7_draw at w
  refine r_n (pc1 := 1) [.int (J (-1))] _ rfl rfl ?_
  refine r_istn (pc1 := 2) (ls1 := [some (rv 57), some (.int (J (-1))), none, none]) rfl rfl rfl rfl ?_
  refine r_n (pc1 := 3) [.int (J 0)] _ rfl rfl ?_
  refine r_istn (pc1 := 4) (ls1 := [some (rv 57), some (.int (J (-1))), some (.int (J 0)), none]) rfl rfl rfl rfl ?_
  obtain ⟨I5, m5, w, y5⟩ := w
  have Q5 : ∀ (n : Nat) (d3 : Option Value) (x1 : Int) (x2 : Int) (h4 : XH), HT h4 → HX h h4 → rg x1 → rg x2 → m5 x1 x2 h4 < n → I5 x1 x2 h4 → RR sc goal fs 426 4 [some (rv 57), some (.int (J x1)), some (.int (J x2)), d3] [] h4 := by
    intro n
    induction n with
    | zero => intro d3 x1 x2 h4 t4 s4 rx1 rx2 q5 _; exact absurd q5 (Nat.not_lt_zero _)
    | succ n ih5 =>
      intro d3 x1 x2 h4 t4 s4 rx1 rx2 q5 z5
      have w := y5 x1 x2 h4 t4 s4 rx1 rx2 z5
      refine r_n (pc1 := 5) [.int (J x2)] _ rfl rfl ?_
      refine r_n (pc1 := 7) [.int (J 64), .int (J x2)] _ rfl rfl ?_
      obtain ⟨J6, j6, w⟩ := w
      have Q6 : J6 → RR sc goal fs 426 104 [some (rv 57), some (.int (J x1)), some (.int (J x2)), d3] [] h4 := by
        intro z6
        have w := j6 z6
        refine r_n (pc1 := 105) [.int (J x1)] _ rfl rfl ?_
        exact r_retI rfl rfl rfl (k _ _ t4 s4 rx1 w)
      refine r_ic (t := 104) (pc1 := 10) rfl rfl rfl rx2 (rgk rfl) (fun c28 => ?_) (fun c28 => ?_)
      · have w := w.1 c28
        exact Q6     w
      · have w := w.2 c28
        refine r_n (pc1 := 11) [.int (J x1)] _ rfl rfl ?_
        refine r_n (pc1 := 12) [.int (J (-1)), .int (J x1)] _ rfl rfl ?_
        refine r_ic (t := 104) (pc1 := 15) rfl rfl rfl rx1 (rgk rfl) (fun c27 => ?_) (fun c27 => ?_)
        · have w := w.1 c27
          exact Q6     w
        · have w := w.2 c27
          refine r_aldn (pc1 := 16) rfl rfl rfl ?_
          refine r_gfI (pc1 := 19) rfl rfl rfl t4 (lyk t4 rfl) rfl rfl ?_
          refine r_aldn (pc1 := 20) rfl rfl rfl ?_
          refine r_gfL (pc1 := 23) rfl rfl rfl t4 (lyk t4 rfl) rfl rfl ?_
          refine r_aldn (pc1 := 24) rfl rfl rfl ?_
          refine r_gfL (pc1 := 27) rfl rfl rfl t4 (lyk t4 rfl) rfl rfl ?_
          refine r_lor (pc1 := 28) rfl rfl ?_
          refine r_iq rfl rfl rfl rfl rfl rfl (xe_of (xa_l xa_0) rfl rfl) (r_d0 hd rfl) (a_J13_bitCount_95d88 ((hL h4 57 9) ||| (hL h4 57 10)) (r_d1 hd rfl)  w t4 (fun x7 rx7 w => ?_))
          refine r_fI (pc1 := 31) rfl ?_
          have w := w rx7
          refine r_ic (t := 104) (pc1 := 34) rfl rfl rfl (rgh _ _ _) rx7 (fun c26 => ?_) (fun c26 => ?_)
          · have w := w.1 c26
            exact Q6     w
          · have w := w.2 c26
            refine r_aldn (pc1 := 35) rfl rfl rfl ?_
            refine r_gfC (pc1 := 38) (q := 63) rfl rfl rfl t4 (lyk t4 rfl) rfl rfl (lyR t4 rfl rfl) ?_
            refine r_aldn (pc1 := 39) rfl rfl rfl ?_
            refine r_gfI (pc1 := 42) rfl rfl rfl t4 (lyk t4 rfl) rfl rfl ?_
            refine r_vI (rgh _ _ _) (fun x8 ex8 rx8 => ?_)
            have w := w x8 ex8 rx8
            obtain ⟨c9, w⟩ := w
            refine r_ial (pc1 := 43) rfl rfl t4 (lyk t4 rfl) rx8 c9.1 (lt_len (lyn t4 rfl) c9.2) ?_
            refine r_vI (rgh _ _ _) (fun x10 ex10 rx10 => ?_)
            have w := w x10 ex10 rx10
            refine r_istn (pc1 := 44) (ls1 := [some (rv 57), some (.int (J x1)), some (.int (J x2)), some (.int (J x10))]) rfl rfl rfl rfl ?_
            refine r_aldn (pc1 := 45) rfl rfl rfl ?_
            refine r_dupR (pc1 := 46) rfl rfl ?_
            refine r_gfI (pc1 := 49) rfl rfl rfl t4 (lyk t4 rfl) rfl rfl ?_
            refine r_n (pc1 := 50) [.int (J 1), .int (J (hI h4 57 14)), rv 57] _ rfl rfl ?_
            refine r_iadd (pc1 := 51) rfl rfl ?_
            refine r_pfI (pc1 := 54) rfl rfl rfl t4 (lyk t4 rfl) rfl rfl rfl (fun h11 eh11 t11 u11 => ?_)
            have w := w h11 eh11 t11 u11
            have s11 := HX_trans s4 u11
            refine r_aldn (pc1 := 55) rfl rfl rfl ?_
            refine r_n (pc1 := 56) [.int (J x10), rv 57] _ rfl rfl ?_
            refine r_n (pc1 := 58) [.int (J 64), .int (J x10), rv 57] _ rfl rfl ?_
            obtain ⟨J13, j13, w⟩ := w
            have Q13 : ∀ (x12 : Int), rg x12 → J13 x12 → RR sc goal fs 426 72 [some (rv 57), some (.int (J x1)), some (.int (J x2)), some (.int (J x10))] [.int (J x12), rv 57] h11 := by
              intro x12 rx12 z13
              have w := j13 x12 rx12 z13
              refine r_iv rfl rfl rfl rfl rfl rfl t11 (lyk t11 rfl) rfl (xe_of (xa_r (xa_i xa_0)) rfl rfl) (r_d0 hd rfl) (a_X7_visit x12 (r_d1 hd rfl) rx12 w t11 (fun x14 h15 t15 u15 rx14 w => ?_))
              refine r_fI (pc1 := 75) rfl ?_
              have s15 := HX_trans s11 u15
              have w := w t15 u15
              have w := w rx14
              refine r_istn (pc1 := 76) (ls1 := [some (rv 57), some (.int (J x14)), some (.int (J x2)), some (.int (J x10))]) rfl rfl rfl rfl ?_
              refine r_n (pc1 := 77) [.int (J x14)] _ rfl rfl ?_
              refine r_n (pc1 := 78) [.int (J (-1)), .int (J x14)] _ rfl rfl ?_
              obtain ⟨J18, j18, w⟩ := w
              have Q18 : ∀ (x16 : Int) (h17 : XH), HT h17 → HX h h17 → rg x16 → J18 x16 h17 → RR sc goal fs 426 98 [some (rv 57), some (.int (J x16)), some (.int (J x2)), some (.int (J x10))] [] h17 := by
                intro x16 h17 t17 s17 rx16 z18
                have w := j18 x16 h17 t17 s17 rx16 z18
                refine r_inc (pc1 := 101) (g := fun zz => [some (rv 57), some (.int (J x16)), some (.int (J zz)), some (.int (J x10))]) rfl rfl rfl rfl (fun _ => rfl) (fun x19 ex19 rx19 => ?_)
                have w := w x19 ex19 rx19
                refine r_goto (t := 4) rfl rfl ?_
                exact ih5 _ x16 x19 h17 t17 s17 rx16 rx19 (Nat.lt_of_lt_of_le w.2 (Nat.le_of_lt_succ q5)) w.1
              refine r_ic (t := 98) (pc1 := 81) rfl rfl rfl rx14 (rgk rfl) (fun c24 => ?_) (fun c24 => ?_)
              · have w := w.1 c24
                exact Q18  x14 h15 t15 s15 rx14 w
              · have w := w.2 c24
                refine r_n (pc1 := 82) [.int (J x10)] _ rfl rfl ?_
                refine r_n (pc1 := 84) [.int (J 52), .int (J x10)] _ rfl rfl ?_
                refine r_ic (t := 98) (pc1 := 87) rfl rfl rfl rx10 (rgk rfl) (fun c23 => ?_) (fun c23 => ?_)
                · have w := w.1 c23
                  exact Q18  x14 h15 t15 s15 rx14 w
                · have w := w.2 c23
                  refine r_n (pc1 := 88) [.int (J x10)] _ rfl rfl ?_
                  refine r_n (pc1 := 90) [.int (J 64), .int (J x10)] _ rfl rfl ?_
                  refine r_ic (t := 98) (pc1 := 93) rfl rfl rfl rx10 (rgk rfl) (fun c22 => ?_) (fun c22 => ?_)
                  · have w := w.1 c22
                    exact Q18  x14 h15 t15 s15 rx14 w
                  · have w := w.2 c22
                    refine r_aldn (pc1 := 94) rfl rfl rfl ?_
                    refine r_iv rfl rfl rfl rfl rfl rfl t15 (lyk t15 rfl) rfl (xe_of (xa_r xa_0) rfl rfl) (r_d0 hd rfl) (a_X7_spread  (r_d1 hd rfl)  w t15 (fun x20 h21 t21 u21 rx20 w => ?_))
                    refine r_fI (pc1 := 97) rfl ?_
                    have s21 := HX_trans s15 u21
                    have w := w t21 u21
                    have w := w rx20
                    refine r_istn (pc1 := 98) (ls1 := [some (rv 57), some (.int (J x20)), some (.int (J x2)), some (.int (J x10))]) rfl rfl rfl rfl ?_
                    exact Q18  x20 h21 t21 s21 rx20 w
            refine r_ic (t := 68) (pc1 := 61) rfl rfl rfl rx10 (rgk rfl) (fun c25 => ?_) (fun c25 => ?_)
            · have w := w.1 c25
              refine r_n (pc1 := 69) [.int (J x10), rv 57] _ rfl rfl ?_
              refine r_n (pc1 := 71) [.int (J 64), .int (J x10), rv 57] _ rfl rfl ?_
              refine r_isub (pc1 := 72) rfl rfl ?_
              exact Q13  (wr (x10 - 64))  (rgw _) w
            · have w := w.2 c25
              refine r_n (pc1 := 62) [.int (J x10), rv 57] _ rfl rfl ?_
              refine r_n (pc1 := 64) [.int (J 64), .int (J x10), rv 57] _ rfl rfl ?_
              refine r_iadd (pc1 := 65) rfl rfl ?_
              refine r_goto (t := 72) rfl rfl ?_
              exact Q13  (wr (x10 + 64))  (rgw _) w
  exact Q5 _ _ (-1) 0 h t0 (HX_refl h) (rgk rfl) (rgk rfl) (Nat.lt_succ_self _) w
def w_X7_join (p0 : Int) (p1 : BitVec 64) (K : BitVec 64 → XH → Prop) (h : XH) : Prop :=
  (∃ J2 : XH → Prop, (∀ (h1 : XH), HT h1 → HX h h1 → J2 h1 → ((0 ≤ p0 ∧ p0 < 3926) ∧ ∀ h4 : XH, h4 = sL h1 60 3925 (((hL h1 60 3925) ||| (hL h1 60 p0.toNat)) &&& (p1 ^^^ (18446744073709551615#64))) → HT h4 → HX h1 h4 → ∀ h5 : XH, h5 = sL h4 61 3925 (((hL h4 61 3925) ||| (hL h4 61 p0.toNat)) &&& (p1 ^^^ (18446744073709551615#64))) → HT h5 → HX h4 h5 → K ((hL h5 60 p0.toNat) ||| (hL h5 61 p0.toNat)) h5)) ∧ ((hI h 51 3 ≤ p0 → J2 h) ∧ (¬ (hI h 51 3 ≤ p0) → ((0 ≤ p0 ∧ p0 < 3712) ∧ ∀ h7 : XH, h7 = sI h 59 p0.toNat 1 → HT h7 → HX h h7 → J2 h7))))
set_option maxHeartbeats 4000000 in
theorem a_X7_join {sc : Nat × (Nat → Int32)} {goal : XO → XH → Prop} {fs : List XF} {h : XH} (p0 : Int) (p1 : BitVec 64) {K : BitVec 64 → XH → Prop} (hd : fs.length + 0 ≤ 1000) (rp0 : rg p0) (w : w_X7_join p0 p1 K h) (t0 : HT h) (k : ∀ (r : BitVec 64) (h1 : XH), HT h1 → HX h h1 → K r h1 → XFin xP sc goal fs (.inl (some (.long (G r)))) h1) : RR sc goal fs 434 0 [some (rv 57), some (.int (J p0)), some (.long (G p1)), none] [] h := by
  unfold w_X7_join at w
  refine r_n (pc1 := 1) [.int (J p0)] _ rfl rfl ?_
  refine r_aldn (pc1 := 2) rfl rfl rfl ?_
  refine r_gfC (pc1 := 5) (q := 51) rfl rfl rfl t0 (lyk t0 rfl) rfl rfl (lyR t0 rfl rfl) ?_
  refine r_gfI (pc1 := 8) rfl rfl rfl t0 (lyk t0 rfl) rfl rfl ?_
  obtain ⟨J2, j2, w⟩ := w
  have Q2 : ∀ (h1 : XH), HT h1 → HX h h1 → J2 h1 → RR sc goal fs 434 18 [some (rv 57), some (.int (J p0)), some (.long (G p1)), none] [] h1 := by
    intro h1 t1 s1 z2
    have w := j2 h1 t1 s1 z2
    refine r_aldn (pc1 := 19) rfl rfl rfl ?_
    refine r_gfC (pc1 := 22) (q := 60) rfl rfl rfl t1 (lyk t1 rfl) rfl rfl (lyR t1 rfl rfl) ?_
    refine r_n (pc1 := 25) [.int (J 3925), rv 60] _ rfl rfl ?_
    refine r_aldn (pc1 := 26) rfl rfl rfl ?_
    refine r_gfC (pc1 := 29) (q := 60) rfl rfl rfl t1 (lyk t1 rfl) rfl rfl (lyR t1 rfl rfl) ?_
    refine r_n (pc1 := 32) [.int (J 3925), rv 60, .int (J 3925), rv 60] _ rfl rfl ?_
    refine r_lal (pc1 := 33) rfl rfl t1 (lyk t1 rfl) (rgk rfl) (by decide) (lt_len (lyn t1 rfl) (by decide)) ?_
    refine r_aldn (pc1 := 34) rfl rfl rfl ?_
    refine r_gfC (pc1 := 37) (q := 60) rfl rfl rfl t1 (lyk t1 rfl) rfl rfl (lyR t1 rfl rfl) ?_
    refine r_n (pc1 := 38) [.int (J p0), rv 60, .long (G (hL h1 60 3925)), .int (J 3925), rv 60] _ rfl rfl ?_
    obtain ⟨c3, w⟩ := w
    refine r_lal (pc1 := 39) rfl rfl t1 (lyk t1 rfl) rp0 c3.1 (lt_len (lyn t1 rfl) c3.2) ?_
    refine r_lor (pc1 := 40) rfl rfl ?_
    refine r_n (pc1 := 41) [.long (G p1), .long (G ((hL h1 60 3925) ||| (hL h1 60 p0.toNat))), .int (J 3925), rv 60] _ rfl rfl ?_
    refine r_n (pc1 := 44) [.long (G (18446744073709551615#64)), .long (G p1), .long (G ((hL h1 60 3925) ||| (hL h1 60 p0.toNat))), .int (J 3925), rv 60] _ rfl rfl ?_
    refine r_lxor (pc1 := 45) rfl rfl ?_
    refine r_land (pc1 := 46) rfl rfl ?_
    refine r_last (pc1 := 47) rfl rfl t1 (lyk t1 rfl) (rgk rfl) (by decide) (lt_len (lyn t1 rfl) (by decide)) (fun h4 eh4 t4 u4 => ?_)
    have w := w h4 eh4 t4 u4
    have s4 := HX_trans s1 u4
    refine r_aldn (pc1 := 48) rfl rfl rfl ?_
    refine r_gfC (pc1 := 51) (q := 61) rfl rfl rfl t4 (lyk t4 rfl) rfl rfl (lyR t4 rfl rfl) ?_
    refine r_n (pc1 := 54) [.int (J 3925), rv 61] _ rfl rfl ?_
    refine r_aldn (pc1 := 55) rfl rfl rfl ?_
    refine r_gfC (pc1 := 58) (q := 61) rfl rfl rfl t4 (lyk t4 rfl) rfl rfl (lyR t4 rfl rfl) ?_
    refine r_n (pc1 := 61) [.int (J 3925), rv 61, .int (J 3925), rv 61] _ rfl rfl ?_
    refine r_lal (pc1 := 62) rfl rfl t4 (lyk t4 rfl) (rgk rfl) (by decide) (lt_len (lyn t4 rfl) (by decide)) ?_
    refine r_aldn (pc1 := 63) rfl rfl rfl ?_
    refine r_gfC (pc1 := 66) (q := 61) rfl rfl rfl t4 (lyk t4 rfl) rfl rfl (lyR t4 rfl rfl) ?_
    refine r_n (pc1 := 67) [.int (J p0), rv 61, .long (G (hL h4 61 3925)), .int (J 3925), rv 61] _ rfl rfl ?_
    refine r_lal (pc1 := 68) rfl rfl t4 (lyk t4 rfl) rp0 c3.1 (lt_len (lyn t4 rfl) c3.2) ?_
    refine r_lor (pc1 := 69) rfl rfl ?_
    refine r_n (pc1 := 70) [.long (G p1), .long (G ((hL h4 61 3925) ||| (hL h4 61 p0.toNat))), .int (J 3925), rv 61] _ rfl rfl ?_
    refine r_n (pc1 := 73) [.long (G (18446744073709551615#64)), .long (G p1), .long (G ((hL h4 61 3925) ||| (hL h4 61 p0.toNat))), .int (J 3925), rv 61] _ rfl rfl ?_
    refine r_lxor (pc1 := 74) rfl rfl ?_
    refine r_land (pc1 := 75) rfl rfl ?_
    refine r_last (pc1 := 76) rfl rfl t4 (lyk t4 rfl) (rgk rfl) (by decide) (lt_len (lyn t4 rfl) (by decide)) (fun h5 eh5 t5 u5 => ?_)
    have w := w h5 eh5 t5 u5
    have s5 := HX_trans s4 u5
    refine r_aldn (pc1 := 77) rfl rfl rfl ?_
    refine r_gfC (pc1 := 80) (q := 60) rfl rfl rfl t5 (lyk t5 rfl) rfl rfl (lyR t5 rfl rfl) ?_
    refine r_n (pc1 := 81) [.int (J p0), rv 60] _ rfl rfl ?_
    refine r_lal (pc1 := 82) rfl rfl t5 (lyk t5 rfl) rp0 c3.1 (lt_len (lyn t5 rfl) c3.2) ?_
    refine r_aldn (pc1 := 83) rfl rfl rfl ?_
    refine r_gfC (pc1 := 86) (q := 61) rfl rfl rfl t5 (lyk t5 rfl) rfl rfl (lyR t5 rfl rfl) ?_
    refine r_n (pc1 := 87) [.int (J p0), rv 61, .long (G (hL h5 60 p0.toNat))] _ rfl rfl ?_
    refine r_lal (pc1 := 88) rfl rfl t5 (lyk t5 rfl) rp0 c3.1 (lt_len (lyn t5 rfl) c3.2) ?_
    refine r_lor (pc1 := 89) rfl rfl ?_
    exact r_retL rfl rfl rfl (k _ _ t5 s5 w)
  refine r_ic (t := 18) (pc1 := 11) rfl rfl rfl rp0 (rgh _ _ _) (fun c8 => ?_) (fun c8 => ?_)
  · have w := w.1 c8
    exact Q2   h t0 (HX_refl h)  w
  · have w := w.2 c8
    refine r_aldn (pc1 := 12) rfl rfl rfl ?_
    refine r_gfC (pc1 := 15) (q := 59) rfl rfl rfl t0 (lyk t0 rfl) rfl rfl (lyR t0 rfl rfl) ?_
    refine r_n (pc1 := 16) [.int (J p0), rv 59] _ rfl rfl ?_
    refine r_n (pc1 := 17) [.int (J 1), .int (J p0), rv 59] _ rfl rfl ?_
    obtain ⟨c6, w⟩ := w
    refine r_bast (pc1 := 18) rfl rfl t0 (lyk t0 rfl) (.inr rfl) rp0 c6.1 (lt_len (lyn t0 rfl) c6.2) (fun h7 eh7 t7 u7 => ?_)
    have w := w h7 eh7 t7 u7
    have s7 := HX_trans (HX_refl h) u7
    exact Q2   h7 t7 s7  w
