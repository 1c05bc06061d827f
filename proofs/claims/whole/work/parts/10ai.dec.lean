/-! printed by dec.py: what each method wants, and that the machine keeps it -/ 
def w_X3_areNeedsMet (p0 : Int) (p1 : BitVec 64) (K : Int → Prop) (h : XH) : Prop :=
  ((∃ (I3 : Int → Prop) (m3 : Int → Nat), I3 0 ∧ ∀ (x1 : Int), rg x1 → I3 x1 → ((0 ≤ p0 ∧ p0 < 40) ∧ ((hI h 18 p0.toNat ≤ x1 → (w_X3_isOptionOn p0 p1 (fun x5 => rg x5 → (x5 = 0 ∨ x5 = 1) → (∃ J7 : Int → Prop, (∀ (x6 : Int), rg x6 → J7 x6 → ((x6 = 0 ∨ x6 = 1) ∧ K x6)) ∧ ∃ J9 : Prop, (J9 → (J7 1)) ∧ ((x5 = 0 → J9) ∧ (¬ (x5 = 0) → (w_X3_isMet (hR h 26 p0.toNat) (hL h 47 p0.toNat) p1 (fun x10 => rg x10 → (x10 = 0 ∨ x10 = 1) → (((x10 = 0 → (J7 0)) ∧ (¬ (x10 = 0) → J9)))) h))))) h)) ∧ (¬ (hI h 18 p0.toNat ≤ x1) → (∀ x13 : Int, x13 = wr ((wr (p0 * 3)) + x1) → rg x13 → (0 ≤ x13 ∧ x13 < 120) ∧ w_X3_isMet (hR h 19 x13.toNat) (hL h 45 x13.toNat) p1 (fun x15 => rg x15 → (x15 = 0 ∨ x15 = 1) → (((¬ x15 = 0 → (∀ x16 : Int, x16 = wr (x1 + 1) → rg x16 → (I3 x16 ∧ m3 x16 < m3 x1))) ∧ (¬ (¬ x15 = 0) → (K 0))))) h))))))
set_option maxHeartbeats 4000000 in
theorem a_X3_areNeedsMet {sc : Nat × (Nat → Int32)} {goal : XO → XH → Prop} {fs : List XF} {h : XH} (p0 : Int) (p1 : BitVec 64) {K : Int → Prop} (hd : fs.length + 2 ≤ 1000) (rp0 : rg p0) (w : w_X3_areNeedsMet p0 p1 K h) (t0 : HT h) (k : ∀ (r : Int), rg r → (r = 0 ∨ r = 1) → K r → XFin xP sc goal fs (.inl (some (.int (J r)))) h) : RR sc goal fs 362 0 [some (rv 44), some (.int (J p0)), some (.long (G p1)), none, none, none] [] h := by
  unfold w_X3_areNeedsMet at w
  refine r_n (pc1 := 1) [.int (J 0)] _ rfl rfl ?_
  refine r_ist (pc1 := 3) (ls1 := [some (rv 44), some (.int (J p0)), some (.long (G p1)), none, some (.int (J 0)), none]) rfl rfl rfl rfl ?_
  obtain ⟨I3, m3, w, y3⟩ := w
  have Q3 : ∀ (n : Nat) (d2 : Option Value) (x1 : Int), rg x1 → m3 x1 < n → I3 x1 → RR sc goal fs 362 3 [some (rv 44), some (.int (J p0)), some (.long (G p1)), none, some (.int (J x1)), d2] [] h := by
    intro n
    induction n with
    | zero => intro d2 x1 rx1 q3 _; exact absurd q3 (Nat.not_lt_zero _)
    | succ n ih3 =>
      intro d2 x1 rx1 q3 z3
      have w := y3 x1 rx1 z3
      refine r_n (pc1 := 5) [.int (J x1)] _ rfl rfl ?_
      refine r_aldn (pc1 := 6) rfl rfl rfl ?_
      refine r_gfC (pc1 := 9) (q := 9) rfl rfl rfl t0 (lyk t0 rfl) rfl rfl (lyR t0 rfl rfl) ?_
      refine r_gfC (pc1 := 12) (q := 18) rfl rfl rfl t0 (lyk t0 rfl) rfl rfl (lyR t0 rfl rfl) ?_
      refine r_n (pc1 := 13) [.int (J p0), rv 18, .int (J x1)] _ rfl rfl ?_
      obtain ⟨c4, w⟩ := w
      refine r_ial (pc1 := 14) rfl rfl t0 (lyk t0 rfl) rp0 c4.1 (lt_len (lyn t0 rfl) c4.2) ?_
      refine r_ic (t := 57) (pc1 := 17) rfl rfl rfl rx1 (rgh _ _ _) (fun c18 => ?_) (fun c18 => ?_)
      · have w := w.1 c18
        refine r_aldn (pc1 := 58) rfl rfl rfl ?_
        refine r_n (pc1 := 59) [.int (J p0), rv 44] _ rfl rfl ?_
        refine r_n (pc1 := 60) [.long (G p1), .int (J p0), rv 44] _ rfl rfl ?_
        refine r_iv rfl rfl rfl rfl rfl rfl t0 (lyk t0 rfl) rfl (xe_of (xa_r (xa_i (xa_l xa_0))) rfl rfl) (r_d0 hd rfl) (a_X3_isOptionOn p0 p1 (r_d1 hd rfl) rp0 w t0 (fun x5 rx5 vx5 w => ?_))
        refine r_fI (pc1 := 63) rfl ?_
        have w := w rx5 vx5
        obtain ⟨J7, j7, w⟩ := w
        have Q7 : ∀ (x6 : Int), rg x6 → J7 x6 → RR sc goal fs 362 93 [some (rv 44), some (.int (J p0)), some (.long (G p1)), none, some (.int (J x1)), d2] [.int (J x6)] h := by
          intro x6 rx6 z7
          have w := j7 x6 rx6 z7
          obtain ⟨c8, w⟩ := w
          exact r_retB rfl rfl rfl c8 (k _ rx6 c8 w)
        obtain ⟨J9, j9, w⟩ := w
        have Q9 : J9 → RR sc goal fs 362 88 [some (rv 44), some (.int (J p0)), some (.long (G p1)), none, some (.int (J x1)), d2] [] h := by
          intro z9
          have w := j9 z9
          refine r_n (pc1 := 89) [.int (J 1)] _ rfl rfl ?_
          refine r_goto (t := 93) rfl rfl ?_
          exact Q7  1  (rgk rfl) w
        refine r_iz (t := 88) (pc1 := 66) rfl rfl rfl rx5 (fun c12 => ?_) (fun c12 => ?_)
        · have w := w.1 c12
          exact Q9     w
        · have w := w.2 c12
          refine r_aldn (pc1 := 67) rfl rfl rfl ?_
          refine r_gfC (pc1 := 70) (q := 9) rfl rfl rfl t0 (lyk t0 rfl) rfl rfl (lyR t0 rfl rfl) ?_
          refine r_gfC (pc1 := 73) (q := 26) rfl rfl rfl t0 (lyk t0 rfl) rfl rfl (lyR t0 rfl rfl) ?_
          refine r_n (pc1 := 74) [.int (J p0), rv 26] _ rfl rfl ?_
          refine r_aal (pc1 := 75) (u := 3) rfl rfl t0 (lyk t0 rfl) rfl rfl rp0 c4.1 (lt_len (lyn t0 rfl) c4.2) ?_
          refine r_aldn (pc1 := 76) rfl rfl rfl ?_
          refine r_gfC (pc1 := 79) (q := 47) rfl rfl rfl t0 (lyk t0 rfl) rfl rfl (lyR t0 rfl rfl) ?_
          refine r_n (pc1 := 80) [.int (J p0), rv 47, rv (hR h 26 p0.toNat)] _ rfl rfl ?_
          refine r_lal (pc1 := 81) rfl rfl t0 (lyk t0 rfl) rp0 c4.1 (lt_len (lyn t0 rfl) c4.2) ?_
          refine r_n (pc1 := 82) [.long (G p1), .long (G (hL h 47 p0.toNat)), rv (hR h 26 p0.toNat)] _ rfl rfl ?_
          refine r_iq rfl rfl rfl rfl rfl rfl (xe_of (xa_r (xa_l (xa_l xa_0))) rfl rfl) (r_d0 hd rfl) (a_X3_isMet (hR h 26 p0.toNat) (hL h 47 p0.toNat) p1 (r_d1 hd rfl)  w t0 (fun x10 rx10 vx10 w => ?_))
          refine r_fI (pc1 := 85) rfl ?_
          have w := w rx10 vx10
          refine r_iz (t := 92) (pc1 := 88) rfl rfl rfl rx10 (fun c11 => ?_) (fun c11 => ?_)
          · have w := w.1 c11
            refine r_n (pc1 := 93) [.int (J 0)] _ rfl rfl ?_
            exact Q7  0  (rgk rfl) w
          · have w := w.2 c11
            exact Q9     w
      · have w := w.2 c18
        refine r_n (pc1 := 18) [.int (J p0)] _ rfl rfl ?_
        refine r_n (pc1 := 19) [.int (J 3), .int (J p0)] _ rfl rfl ?_
        refine r_imul (pc1 := 20) rfl rfl ?_
        refine r_n (pc1 := 22) [.int (J x1), .int (J (wr (p0 * 3)))] _ rfl rfl ?_
        refine r_iadd (pc1 := 23) rfl rfl ?_
        refine r_vI (rgw _) (fun x13 ex13 rx13 => ?_)
        have w := w x13 ex13 rx13
        refine r_ist (pc1 := 25) (ls1 := [some (rv 44), some (.int (J p0)), some (.long (G p1)), none, some (.int (J x1)), some (.int (J x13))]) rfl rfl rfl rfl ?_
        refine r_aldn (pc1 := 26) rfl rfl rfl ?_
        refine r_gfC (pc1 := 29) (q := 9) rfl rfl rfl t0 (lyk t0 rfl) rfl rfl (lyR t0 rfl rfl) ?_
        refine r_gfC (pc1 := 32) (q := 19) rfl rfl rfl t0 (lyk t0 rfl) rfl rfl (lyR t0 rfl rfl) ?_
        refine r_n (pc1 := 34) [.int (J x13), rv 19] _ rfl rfl ?_
        obtain ⟨c14, w⟩ := w
        refine r_aal (pc1 := 35) (u := 3) rfl rfl t0 (lyk t0 rfl) rfl rfl rx13 c14.1 (lt_len (lyn t0 rfl) c14.2) ?_
        refine r_aldn (pc1 := 36) rfl rfl rfl ?_
        refine r_gfC (pc1 := 39) (q := 45) rfl rfl rfl t0 (lyk t0 rfl) rfl rfl (lyR t0 rfl rfl) ?_
        refine r_n (pc1 := 41) [.int (J x13), rv 45, rv (hR h 19 x13.toNat)] _ rfl rfl ?_
        refine r_lal (pc1 := 42) rfl rfl t0 (lyk t0 rfl) rx13 c14.1 (lt_len (lyn t0 rfl) c14.2) ?_
        refine r_n (pc1 := 43) [.long (G p1), .long (G (hL h 45 x13.toNat)), rv (hR h 19 x13.toNat)] _ rfl rfl ?_
        refine r_iq rfl rfl rfl rfl rfl rfl (xe_of (xa_r (xa_l (xa_l xa_0))) rfl rfl) (r_d0 hd rfl) (a_X3_isMet (hR h 19 x13.toNat) (hL h 45 x13.toNat) p1 (r_d1 hd rfl)  w t0 (fun x15 rx15 vx15 w => ?_))
        refine r_fI (pc1 := 46) rfl ?_
        have w := w rx15 vx15
        refine r_iz (t := 51) (pc1 := 49) rfl rfl rfl rx15 (fun c17 => ?_) (fun c17 => ?_)
        · have w := w.1 c17
          refine r_inc (pc1 := 54) (g := fun zz => [some (rv 44), some (.int (J p0)), some (.long (G p1)), none, some (.int (J zz)), some (.int (J x13))]) rfl rfl rfl rfl (fun _ => rfl) (fun x16 ex16 rx16 => ?_)
          have w := w x16 ex16 rx16
          refine r_goto (t := 3) rfl rfl ?_
          exact ih3 _ x16  rx16 (Nat.lt_of_lt_of_le w.2 (Nat.le_of_lt_succ q3)) w.1
        · have w := w.2 c17
          refine r_n (pc1 := 50) [.int (J 0)] _ rfl rfl ?_
          exact r_retB rfl rfl rfl (.inl rfl) (k _ (rgk rfl) (.inl rfl) w)
  exact Q3 _ _ 0  (rgk rfl) (Nat.lt_succ_self _) w
def w_X3_isBanMet (p0 : Int) (p1 : BitVec 64) (K : Int → Prop) (h : XH) : Prop :=
  ((∃ (I2 : Int → Prop) (m2 : Int → Nat), I2 0 ∧ ∀ (x1 : Int), rg x1 → I2 x1 → ((0 ≤ p0 ∧ p0 < 40) ∧ ((hI h 21 p0.toNat ≤ x1 → (K 0)) ∧ (¬ (hI h 21 p0.toNat ≤ x1) → (∀ x4 : Int, x4 = wr ((wr (p0 * 2)) + x1) → rg x4 → (0 ≤ x4 ∧ x4 < 80) ∧ (((p1 &&& (hL h 46 x4.toNat)) &&& ((lshl (1#64) p0) ^^^ (18446744073709551615#64)) = (0#64) → (∀ x6 : Int, x6 = wr (x1 + 1) → rg x6 → (I2 x6 ∧ m2 x6 < m2 x1))) ∧ (¬ ((p1 &&& (hL h 46 x4.toNat)) &&& ((lshl (1#64) p0) ^^^ (18446744073709551615#64)) = (0#64)) → (K 1)))))))))
set_option maxHeartbeats 4000000 in
theorem a_X3_isBanMet {sc : Nat × (Nat → Int32)} {goal : XO → XH → Prop} {fs : List XF} {h : XH} (p0 : Int) (p1 : BitVec 64) {K : Int → Prop} (hd : fs.length + 0 ≤ 1000) (rp0 : rg p0) (w : w_X3_isBanMet p0 p1 K h) (t0 : HT h) (k : ∀ (r : Int), rg r → (r = 0 ∨ r = 1) → K r → XFin xP sc goal fs (.inl (some (.int (J r)))) h) : RR sc goal fs 365 0 [some (rv 44), some (.int (J p0)), some (.long (G p1)), none, none] [] h := by
  unfold w_X3_isBanMet at w
  refine r_n (pc1 := 1) [.int (J 0)] _ rfl rfl ?_
  refine r_ist (pc1 := 3) (ls1 := [some (rv 44), some (.int (J p0)), some (.long (G p1)), none, some (.int (J 0))]) rfl rfl rfl rfl ?_
  obtain ⟨I2, m2, w, y2⟩ := w
  have Q2 : ∀ (n : Nat)  (x1 : Int), rg x1 → m2 x1 < n → I2 x1 → RR sc goal fs 365 3 [some (rv 44), some (.int (J p0)), some (.long (G p1)), none, some (.int (J x1))] [] h := by
    intro n
    induction n with
    | zero => intro x1 rx1 q2 _; exact absurd q2 (Nat.not_lt_zero _)
    | succ n ih2 =>
      intro x1 rx1 q2 z2
      have w := y2 x1 rx1 z2
      refine r_n (pc1 := 5) [.int (J x1)] _ rfl rfl ?_
      refine r_aldn (pc1 := 6) rfl rfl rfl ?_
      refine r_gfC (pc1 := 9) (q := 9) rfl rfl rfl t0 (lyk t0 rfl) rfl rfl (lyR t0 rfl rfl) ?_
      refine r_gfC (pc1 := 12) (q := 21) rfl rfl rfl t0 (lyk t0 rfl) rfl rfl (lyR t0 rfl rfl) ?_
      refine r_n (pc1 := 13) [.int (J p0), rv 21, .int (J x1)] _ rfl rfl ?_
      obtain ⟨c3, w⟩ := w
      refine r_ial (pc1 := 14) rfl rfl t0 (lyk t0 rfl) rp0 c3.1 (lt_len (lyn t0 rfl) c3.2) ?_
      refine r_ic (t := 51) (pc1 := 17) rfl rfl rfl rx1 (rgh _ _ _) (fun c8 => ?_) (fun c8 => ?_)
      · have w := w.1 c8
        refine r_n (pc1 := 52) [.int (J 0)] _ rfl rfl ?_
        exact r_retB rfl rfl rfl (.inl rfl) (k _ (rgk rfl) (.inl rfl) w)
      · have w := w.2 c8
        refine r_n (pc1 := 18) [.long (G p1)] _ rfl rfl ?_
        refine r_aldn (pc1 := 19) rfl rfl rfl ?_
        refine r_gfC (pc1 := 22) (q := 46) rfl rfl rfl t0 (lyk t0 rfl) rfl rfl (lyR t0 rfl rfl) ?_
        refine r_n (pc1 := 23) [.int (J p0), rv 46, .long (G p1)] _ rfl rfl ?_
        refine r_n (pc1 := 24) [.int (J 2), .int (J p0), rv 46, .long (G p1)] _ rfl rfl ?_
        refine r_imul (pc1 := 25) rfl rfl ?_
        refine r_n (pc1 := 27) [.int (J x1), .int (J (wr (p0 * 2))), rv 46, .long (G p1)] _ rfl rfl ?_
        refine r_iadd (pc1 := 28) rfl rfl ?_
        refine r_vI (rgw _) (fun x4 ex4 rx4 => ?_)
        have w := w x4 ex4 rx4
        obtain ⟨c5, w⟩ := w
        refine r_lal (pc1 := 29) rfl rfl t0 (lyk t0 rfl) rx4 c5.1 (lt_len (lyn t0 rfl) c5.2) ?_
        refine r_land (pc1 := 30) rfl rfl ?_
        refine r_n (pc1 := 31) [.long (G (1#64)), .long (G (p1 &&& (hL h 46 x4.toNat)))] _ rfl rfl ?_
        refine r_n (pc1 := 32) [.int (J p0), .long (G (1#64)), .long (G (p1 &&& (hL h 46 x4.toNat)))] _ rfl rfl ?_
        refine r_lshl (pc1 := 33) rfl rfl ?_
        refine r_n (pc1 := 36) [.long (G (18446744073709551615#64)), .long (G (lshl (1#64) p0)), .long (G (p1 &&& (hL h 46 x4.toNat)))] _ rfl rfl ?_
        refine r_lxor (pc1 := 37) rfl rfl ?_
        refine r_land (pc1 := 38) rfl rfl ?_
        refine r_n (pc1 := 39) [.long (G (0#64)), .long (G ((p1 &&& (hL h 46 x4.toNat)) &&& ((lshl (1#64) p0) ^^^ (18446744073709551615#64))))] _ rfl rfl ?_
        refine r_lc (pc2 := 40) (t := 45) (pc1 := 43) rfl rfl rfl rfl rfl (fun c7 => ?_) (fun c7 => ?_)
        · have w := w.1 c7
          refine r_inc (pc1 := 48) (g := fun zz => [some (rv 44), some (.int (J p0)), some (.long (G p1)), none, some (.int (J zz))]) rfl rfl rfl rfl (fun _ => rfl) (fun x6 ex6 rx6 => ?_)
          have w := w x6 ex6 rx6
          refine r_goto (t := 3) rfl rfl ?_
          exact ih2  x6  rx6 (Nat.lt_of_lt_of_le w.2 (Nat.le_of_lt_succ q2)) w.1
        · have w := w.2 c7
          refine r_n (pc1 := 44) [.int (J 1)] _ rfl rfl ?_
          exact r_retB rfl rfl rfl (.inr rfl) (k _ (rgk rfl) (.inr rfl) w)
  exact Q2 _  0  (rgk rfl) (Nat.lt_succ_self _) w
def w_X3_isSoundSet (p0 : BitVec 64) (K : Int → Prop) (h : XH) : Prop :=
  ((∃ (I2 : Int → Prop) (m2 : Int → Nat), I2 0 ∧ ∀ (x1 : Int), rg x1 → I2 x1 → (((hI h 9 1 ≤ x1 → ((∃ (I4 : Int → Prop) (m4 : Int → Nat), I4 0 ∧ ∀ (x3 : Int), rg x3 → I4 x3 → (((hI h 9 0 ≤ x3 → (K 1)) ∧ (¬ (hI h 9 0 ≤ x3) → (w_X12_switchOf x3 (fun b5 => (∃ J6 : Prop, (J6 → (∀ x7 : Int, x7 = wr (x3 + 1) → rg x7 → (I4 x7 ∧ m4 x7 < m4 x3))) ∧ ((p0 &&& b5 = (0#64) → J6) ∧ (¬ (p0 &&& b5 = (0#64)) → ((0 ≤ x3 ∧ x3 < 12) ∧ ((¬ p0 &&& (hL h 48 x3.toNat) = (0#64) → J6) ∧ (¬ (¬ p0 &&& (hL h 48 x3.toNat) = (0#64)) → (K 0)))))))) h))))))) ∧ (¬ (hI h 9 1 ≤ x1) → (w_X12_has p0 x1 (fun x12 => rg x12 → (x12 = 0 ∨ x12 = 1) → (∃ J13 : Prop, (J13 → (∀ x14 : Int, x14 = wr (x1 + 1) → rg x14 → (I2 x14 ∧ m2 x14 < m2 x1))) ∧ ((x12 = 0 → J13) ∧ (¬ (x12 = 0) → (w_X3_areNeedsMet x1 p0 (fun x15 => rg x15 → (x15 = 0 ∨ x15 = 1) → (∃ J16 : Prop, (J16 → (K 0)) ∧ ((x15 = 0 → J16) ∧ (¬ (x15 = 0) → (w_X3_isBanMet x1 p0 (fun x17 => rg x17 → (x17 = 0 ∨ x17 = 1) → (((x17 = 0 → J13) ∧ (¬ (x17 = 0) → J16)))) h))))) h))))) h))))))
set_option maxHeartbeats 4000000 in
theorem a_X3_isSoundSet {sc : Nat × (Nat → Int32)} {goal : XO → XH → Prop} {fs : List XF} {h : XH} (p0 : BitVec 64) {K : Int → Prop} (hd : fs.length + 3 ≤ 1000) (w : w_X3_isSoundSet p0 K h) (t0 : HT h) (k : ∀ (r : Int), rg r → (r = 0 ∨ r = 1) → K r → XFin xP sc goal fs (.inl (some (.int (J r)))) h) : RR sc goal fs 370 0 [some (rv 44), some (.long (G p0)), none, none] [] h := by
  unfold w_X3_isSoundSet at w
  refine r_n (pc1 := 1) [.int (J 0)] _ rfl rfl ?_
  refine r_istn (pc1 := 2) (ls1 := [some (rv 44), some (.long (G p0)), none, some (.int (J 0))]) rfl rfl rfl rfl ?_
  obtain ⟨I2, m2, w, y2⟩ := w
  have Q2 : ∀ (n : Nat)  (x1 : Int), rg x1 → m2 x1 < n → I2 x1 → RR sc goal fs 370 2 [some (rv 44), some (.long (G p0)), none, some (.int (J x1))] [] h := by
    intro n
    induction n with
    | zero => intro x1 rx1 q2 _; exact absurd q2 (Nat.not_lt_zero _)
    | succ n ih2 =>
      intro x1 rx1 q2 z2
      have w := y2 x1 rx1 z2
      refine r_n (pc1 := 3) [.int (J x1)] _ rfl rfl ?_
      refine r_aldn (pc1 := 4) rfl rfl rfl ?_
      refine r_gfC (pc1 := 7) (q := 9) rfl rfl rfl t0 (lyk t0 rfl) rfl rfl (lyR t0 rfl rfl) ?_
      refine r_gfI (pc1 := 10) rfl rfl rfl t0 (lyk t0 rfl) rfl rfl ?_
      refine r_ic (t := 47) (pc1 := 13) rfl rfl rfl rx1 (rgh _ _ _) (fun c21 => ?_) (fun c21 => ?_)
      · have w := w.1 c21
        refine r_n (pc1 := 48) [.int (J 0)] _ rfl rfl ?_
        refine r_istn (pc1 := 49) (ls1 := [some (rv 44), some (.long (G p0)), none, some (.int (J 0))]) rfl rfl rfl rfl ?_
        obtain ⟨I4, m4, w, y4⟩ := w
        have Q4 : ∀ (n : Nat)  (x3 : Int), rg x3 → m4 x3 < n → I4 x3 → RR sc goal fs 370 49 [some (rv 44), some (.long (G p0)), none, some (.int (J x3))] [] h := by
          intro n
          induction n with
          | zero => intro x3 rx3 q4 _; exact absurd q4 (Nat.not_lt_zero _)
          | succ n ih4 =>
            intro x3 rx3 q4 z4
            have w := y4 x3 rx3 z4
            refine r_n (pc1 := 50) [.int (J x3)] _ rfl rfl ?_
            refine r_aldn (pc1 := 51) rfl rfl rfl ?_
            refine r_gfC (pc1 := 54) (q := 9) rfl rfl rfl t0 (lyk t0 rfl) rfl rfl (lyR t0 rfl rfl) ?_
            refine r_gfI (pc1 := 57) rfl rfl rfl t0 (lyk t0 rfl) rfl rfl ?_
            refine r_ic (t := 92) (pc1 := 60) rfl rfl rfl rx3 (rgh _ _ _) (fun c11 => ?_) (fun c11 => ?_)
            · have w := w.1 c11
              refine r_n (pc1 := 93) [.int (J 1)] _ rfl rfl ?_
              exact r_retB rfl rfl rfl (.inr rfl) (k _ (rgk rfl) (.inr rfl) w)
            · have w := w.2 c11
              refine r_n (pc1 := 61) [.long (G p0)] _ rfl rfl ?_
              refine r_n (pc1 := 62) [.int (J x3), .long (G p0)] _ rfl rfl ?_
              refine r_iq rfl rfl rfl rfl rfl rfl (xe_of (xa_i xa_0) rfl rfl) (r_d0 hd rfl) (a_X12_switchOf x3 (r_d1 hd rfl) rx3 w t0 (fun b5 w => ?_))
              refine r_fL (pc1 := 65) rfl ?_
              refine r_land (pc1 := 66) rfl rfl ?_
              refine r_n (pc1 := 67) [.long (G (0#64)), .long (G (p0 &&& b5))] _ rfl rfl ?_
              obtain ⟨J6, j6, w⟩ := w
              have Q6 : J6 → RR sc goal fs 370 86 [some (rv 44), some (.long (G p0)), none, some (.int (J x3))] [] h := by
                intro z6
                have w := j6 z6
                refine r_inc (pc1 := 89) (g := fun zz => [some (rv 44), some (.long (G p0)), none, some (.int (J zz))]) rfl rfl rfl rfl (fun _ => rfl) (fun x7 ex7 rx7 => ?_)
                have w := w x7 ex7 rx7
                refine r_goto (t := 49) rfl rfl ?_
                exact ih4  x7  rx7 (Nat.lt_of_lt_of_le w.2 (Nat.le_of_lt_succ q4)) w.1
              refine r_lc (pc2 := 68) (t := 86) (pc1 := 71) rfl rfl rfl rfl rfl (fun c10 => ?_) (fun c10 => ?_)
              · have w := w.1 c10
                exact Q6     w
              · have w := w.2 c10
                refine r_n (pc1 := 72) [.long (G p0)] _ rfl rfl ?_
                refine r_aldn (pc1 := 73) rfl rfl rfl ?_
                refine r_gfC (pc1 := 76) (q := 48) rfl rfl rfl t0 (lyk t0 rfl) rfl rfl (lyR t0 rfl rfl) ?_
                refine r_n (pc1 := 77) [.int (J x3), rv 48, .long (G p0)] _ rfl rfl ?_
                obtain ⟨c8, w⟩ := w
                refine r_lal (pc1 := 78) rfl rfl t0 (lyk t0 rfl) rx3 c8.1 (lt_len (lyn t0 rfl) c8.2) ?_
                refine r_land (pc1 := 79) rfl rfl ?_
                refine r_n (pc1 := 80) [.long (G (0#64)), .long (G (p0 &&& (hL h 48 x3.toNat)))] _ rfl rfl ?_
                refine r_lc (pc2 := 81) (t := 86) (pc1 := 84) rfl rfl rfl rfl rfl (fun c9 => ?_) (fun c9 => ?_)
                · have w := w.1 c9
                  exact Q6     w
                · have w := w.2 c9
                  refine r_n (pc1 := 85) [.int (J 0)] _ rfl rfl ?_
                  exact r_retB rfl rfl rfl (.inl rfl) (k _ (rgk rfl) (.inl rfl) w)
        exact Q4 _  0  (rgk rfl) (Nat.lt_succ_self _) w
      · have w := w.2 c21
        refine r_n (pc1 := 14) [.long (G p0)] _ rfl rfl ?_
        refine r_n (pc1 := 15) [.int (J x1), .long (G p0)] _ rfl rfl ?_
        refine r_iq rfl rfl rfl rfl rfl rfl (xe_of (xa_l (xa_i xa_0)) rfl rfl) (r_d0 hd rfl) (a_X12_has p0 x1 (r_d1 hd rfl) rx1 w t0 (fun x12 rx12 vx12 w => ?_))
        refine r_fI (pc1 := 18) rfl ?_
        have w := w rx12 vx12
        obtain ⟨J13, j13, w⟩ := w
        have Q13 : J13 → RR sc goal fs 370 41 [some (rv 44), some (.long (G p0)), none, some (.int (J x1))] [] h := by
          intro z13
          have w := j13 z13
          refine r_inc (pc1 := 44) (g := fun zz => [some (rv 44), some (.long (G p0)), none, some (.int (J zz))]) rfl rfl rfl rfl (fun _ => rfl) (fun x14 ex14 rx14 => ?_)
          have w := w x14 ex14 rx14
          refine r_goto (t := 2) rfl rfl ?_
          exact ih2  x14  rx14 (Nat.lt_of_lt_of_le w.2 (Nat.le_of_lt_succ q2)) w.1
        refine r_iz (t := 41) (pc1 := 21) rfl rfl rfl rx12 (fun c20 => ?_) (fun c20 => ?_)
        · have w := w.1 c20
          exact Q13     w
        · have w := w.2 c20
          refine r_aldn (pc1 := 22) rfl rfl rfl ?_
          refine r_n (pc1 := 23) [.int (J x1), rv 44] _ rfl rfl ?_
          refine r_n (pc1 := 24) [.long (G p0), .int (J x1), rv 44] _ rfl rfl ?_
          refine r_iv rfl rfl rfl rfl rfl rfl t0 (lyk t0 rfl) rfl (xe_of (xa_r (xa_i (xa_l xa_0))) rfl rfl) (r_d0 hd rfl) (a_X3_areNeedsMet x1 p0 (r_d1 hd rfl) rx1 w t0 (fun x15 rx15 vx15 w => ?_))
          refine r_fI (pc1 := 27) rfl ?_
          have w := w rx15 vx15
          obtain ⟨J16, j16, w⟩ := w
          have Q16 : J16 → RR sc goal fs 370 39 [some (rv 44), some (.long (G p0)), none, some (.int (J x1))] [] h := by
            intro z16
            have w := j16 z16
            refine r_n (pc1 := 40) [.int (J 0)] _ rfl rfl ?_
            exact r_retB rfl rfl rfl (.inl rfl) (k _ (rgk rfl) (.inl rfl) w)
          refine r_iz (t := 39) (pc1 := 30) rfl rfl rfl rx15 (fun c19 => ?_) (fun c19 => ?_)
          · have w := w.1 c19
            exact Q16     w
          · have w := w.2 c19
            refine r_aldn (pc1 := 31) rfl rfl rfl ?_
            refine r_n (pc1 := 32) [.int (J x1), rv 44] _ rfl rfl ?_
            refine r_n (pc1 := 33) [.long (G p0), .int (J x1), rv 44] _ rfl rfl ?_
            refine r_iv rfl rfl rfl rfl rfl rfl t0 (lyk t0 rfl) rfl (xe_of (xa_r (xa_i (xa_l xa_0))) rfl rfl) (r_d0 hd rfl) (a_X3_isBanMet x1 p0 (r_d1 hd rfl) rx1 w t0 (fun x17 rx17 vx17 w => ?_))
            refine r_fI (pc1 := 36) rfl ?_
            have w := w rx17 vx17
            refine r_iz (t := 41) (pc1 := 39) rfl rfl rfl rx17 (fun c18 => ?_) (fun c18 => ?_)
            · have w := w.1 c18
              exact Q13     w
            · have w := w.2 c18
              exact Q16     w
  exact Q2 _  0  (rgk rfl) (Nat.lt_succ_self _) w
def w_X12_checkGoalSound  (K : XH → Prop) (E : Nat → XH → Prop) (h : XH) : Prop :=
  (w_X12_knowMet (fun h1 => HT h1 → HX h h1 → (w_X11_atHand (fun a2 => (hk h1 a2 = 7 ∧ w_X3_isSoundSet (hL h1 a2 5) (fun x4 => rg x4 → (x4 = 0 ∨ x4 = 1) → (((¬ x4 = 0 → (K h1)) ∧ (¬ (¬ x4 = 0) → (E 0 (nT h1)))))) h1)) h1)) h)
set_option maxHeartbeats 4000000 in
theorem a_X12_checkGoalSound {sc : Nat × (Nat → Int32)} {goal : XO → XH → Prop} {fs : List XF} {h : XH}  {K : XH → Prop} {E : Nat → XH → Prop} (hd : fs.length + 6 ≤ 1000) (w : w_X12_checkGoalSound  K E h) (t0 : HT h) (k : ∀ (h1 : XH), HT h1 → HX h h1 → K h1 → XFin xP sc goal fs (.inl none) h1) (kE : ∀ (x : Nat) (h1 : XH), HT h1 → HX h h1 → E x h1 → XFin xP sc goal fs (.inr x) h1) : RR sc goal fs 89 0 [some (rv 2)] [] h := by
  unfold w_X12_checkGoalSound at w
  refine r_aldn (pc1 := 1) rfl rfl rfl ?_
  refine r_iv rfl rfl rfl rfl rfl rfl t0 (lyk t0 rfl) rfl (xe_of (xa_r xa_0) rfl rfl) (r_d0 hd rfl) (a_X12_knowMet  (r_d1 hd rfl)  w t0 (fun h1 t1 u1 w => ?_))
  refine r_fV (pc1 := 4) rfl ?_
  have s1 := HX_trans (HX_refl h) u1
  have w := w t1 u1
  refine r_aldn (pc1 := 5) rfl rfl rfl ?_
  refine r_gfC (pc1 := 8) (q := 44) rfl rfl rfl t1 (lyk t1 rfl) rfl rfl (lyR t1 rfl rfl) ?_
  refine r_aldn (pc1 := 9) rfl rfl rfl ?_
  refine r_gfC (pc1 := 12) (q := 8) rfl rfl rfl t1 (lyk t1 rfl) rfl rfl (lyR t1 rfl rfl) ?_
  refine r_iv rfl rfl rfl rfl rfl rfl t1 (lyk t1 rfl) rfl (xe_of (xa_r xa_0) rfl rfl) (r_d0 hd rfl) (a_X11_atHand  (r_d1 hd rfl)  w t1 (fun a2 w => ?_))
  refine r_fR (pc1 := 15) rfl ?_
  obtain ⟨c3, w⟩ := w
  refine r_gfL (pc1 := 18) rfl rfl rfl t1 c3 rfl rfl ?_
  refine r_iv rfl rfl rfl rfl rfl rfl t1 (lyk t1 rfl) rfl (xe_of (xa_r (xa_l xa_0)) rfl rfl) (r_d0 hd rfl) (a_X3_isSoundSet (hL h1 a2 5) (r_d1 hd rfl)  w t1 (fun x4 rx4 vx4 w => ?_))
  refine r_fI (pc1 := 21) rfl ?_
  have w := w rx4 vx4
  refine r_iz (t := 35) (pc1 := 24) rfl rfl rfl rx4 (fun c5 => ?_) (fun c5 => ?_)
  · have w := w.1 c5
    exact r_retV rfl rfl rfl (k _ t1 s1 w)
  · have w := w.2 c5
    exact r_thr rfl rfl rfl rfl rfl rfl (kE _ _ (HT_nT t1).1 (HX_trans s1 (HT_nT t1).2) w)
def w_X2_isAllFetched  (K : Int → XH → Prop) (h : XH) : Prop :=
  ((∃ (I4 : Int → XH → Prop) (m4 : Int → XH → Nat), I4 0 h ∧ ∀ (x1 : Int) (h3 : XH), HT h3 → HX h h3 → rg x1 → I4 x1 h3 → (∃ J5 : Prop, (J5 → (K 1 h3)) ∧ ((hI h3 79 6 ≤ x1 → J5) ∧ (¬ (hI h3 79 6 ≤ x1) → (((hI h3 8 6 ≤ 0 → J5) ∧ (¬ (hI h3 8 6 ≤ 0) → ((0 ≤ x1 ∧ x1 < 12) ∧ w_X2_comingOf (hI h3 82 x1.toNat) (fun x7 => rg x7 → (∃ J9 : XH → Prop, (∀ (h8 : XH), HT h8 → HX h h8 → J9 h8 → (∀ x10 : Int, x10 = wr (x1 + 1) → rg x10 → (I4 x10 h8 ∧ m4 x10 h8 < m4 x1 h3))) ∧ ((x7 = (-1) → J9 h3) ∧ (¬ (x7 = (-1)) → (w_X11_mirrorFor x7 (hI h3 8 7) 1 (fun x11 h12 => HT h12 → HX h3 h12 → rg x11 → (((¬ x11 = (-1) → (∀ h13 : XH, h13 = sI h12 8 7 (wr ((hI h12 8 7) + 1)) → HT h13 → HX h12 h13 → J9 h13)) ∧ (¬ (¬ x11 = (-1)) → (w_X11_atHand (fun a14 => (hk h12 a14 = 7 ∧ w_X6_tellFailure a14 1 (hI h12 82 x1.toNat) (-1) (fun h16 => HT h16 → HX h12 h16 → (K 0 h16)) h12)) h12))))) h3))))) h3)))))))))
set_option maxHeartbeats 4000000 in
theorem a_X2_isAllFetched {sc : Nat × (Nat → Int32)} {goal : XO → XH → Prop} {fs : List XF} {h : XH}  {K : Int → XH → Prop} (hd : fs.length + 3 ≤ 1000) (w : w_X2_isAllFetched  K h) (t0 : HT h) (k : ∀ (r : Int) (h1 : XH), HT h1 → HX h h1 → rg r → (r = 0 ∨ r = 1) → K r h1 → XFin xP sc goal fs (.inl (some (.int (J r)))) h1) : RR sc goal fs 351 0 [some (rv 79), none, none] [] h := by
  unfold w_X2_isAllFetched at w
  refine r_n (pc1 := 1) [.int (J 0)] _ rfl rfl ?_
  refine r_istn (pc1 := 2) (ls1 := [some (rv 79), some (.int (J 0)), none]) rfl rfl rfl rfl ?_
  obtain ⟨I4, m4, w, y4⟩ := w
  have Q4 : ∀ (n : Nat) (d2 : Option Value) (x1 : Int) (h3 : XH), HT h3 → HX h h3 → rg x1 → m4 x1 h3 < n → I4 x1 h3 → RR sc goal fs 351 2 [some (rv 79), some (.int (J x1)), d2] [] h3 := by
    intro n
    induction n with
    | zero => intro d2 x1 h3 t3 s3 rx1 q4 _; exact absurd q4 (Nat.not_lt_zero _)
    | succ n ih4 =>
      intro d2 x1 h3 t3 s3 rx1 q4 z4
      have w := y4 x1 h3 t3 s3 rx1 z4
      refine r_n (pc1 := 3) [.int (J x1)] _ rfl rfl ?_
      refine r_aldn (pc1 := 4) rfl rfl rfl ?_
      refine r_gfI (pc1 := 7) rfl rfl rfl t3 (lyk t3 rfl) rfl rfl ?_
      obtain ⟨J5, j5, w⟩ := w
      have Q5 : J5 → RR sc goal fs 351 95 [some (rv 79), some (.int (J x1)), d2] [] h3 := by
        intro z5
        have w := j5 z5
        refine r_n (pc1 := 96) [.int (J 1)] _ rfl rfl ?_
        exact r_retB rfl rfl rfl (.inr rfl) (k _ _ t3 s3 (rgk rfl) (.inr rfl) w)
      refine r_ic (t := 95) (pc1 := 10) rfl rfl rfl rx1 (rgh _ _ _) (fun c20 => ?_) (fun c20 => ?_)
      · have w := w.1 c20
        exact Q5     w
      · have w := w.2 c20
        refine r_aldn (pc1 := 11) rfl rfl rfl ?_
        refine r_gfC (pc1 := 14) (q := 8) rfl rfl rfl t3 (lyk t3 rfl) rfl rfl (lyR t3 rfl rfl) ?_
        refine r_gfI (pc1 := 17) rfl rfl rfl t3 (lyk t3 rfl) rfl rfl ?_
        refine r_iz (t := 95) (pc1 := 20) rfl rfl rfl (rgh _ _ _) (fun c19 => ?_) (fun c19 => ?_)
        · have w := w.1 c19
          exact Q5     w
        · have w := w.2 c19
          refine r_aldn (pc1 := 21) rfl rfl rfl ?_
          refine r_aldn (pc1 := 22) rfl rfl rfl ?_
          refine r_gfC (pc1 := 25) (q := 82) rfl rfl rfl t3 (lyk t3 rfl) rfl rfl (lyR t3 rfl rfl) ?_
          refine r_n (pc1 := 26) [.int (J x1), rv 82, rv 79] _ rfl rfl ?_
          obtain ⟨c6, w⟩ := w
          refine r_ial (pc1 := 27) rfl rfl t3 (lyk t3 rfl) rx1 c6.1 (lt_len (lyn t3 rfl) c6.2) ?_
          refine r_iv rfl rfl rfl rfl rfl rfl t3 (lyk t3 rfl) rfl (xe_of (xa_r (xa_i xa_0)) rfl rfl) (r_d0 hd rfl) (a_X2_comingOf (hI h3 82 x1.toNat) (r_d1 hd rfl) (rgh _ _ _) w t3 (fun x7 rx7 w => ?_))
          refine r_fI (pc1 := 30) rfl ?_
          have w := w rx7
          refine r_istn (pc1 := 31) (ls1 := [some (rv 79), some (.int (J x1)), some (.int (J x7))]) rfl rfl rfl rfl ?_
          refine r_n (pc1 := 32) [.int (J x7)] _ rfl rfl ?_
          refine r_n (pc1 := 33) [.int (J (-1)), .int (J x7)] _ rfl rfl ?_
          obtain ⟨J9, j9, w⟩ := w
          have Q9 : ∀ (h8 : XH), HT h8 → HX h h8 → J9 h8 → RR sc goal fs 351 89 [some (rv 79), some (.int (J x1)), some (.int (J x7))] [] h8 := by
            intro h8 t8 s8 z9
            have w := j9 h8 t8 s8 z9
            refine r_inc (pc1 := 92) (g := fun zz => [some (rv 79), some (.int (J zz)), some (.int (J x7))]) rfl rfl rfl rfl (fun _ => rfl) (fun x10 ex10 rx10 => ?_)
            have w := w x10 ex10 rx10
            refine r_goto (t := 2) rfl rfl ?_
            exact ih4 _ x10 h8 t8 s8 rx10 (Nat.lt_of_lt_of_le w.2 (Nat.le_of_lt_succ q4)) w.1
          refine r_ic (t := 89) (pc1 := 36) rfl rfl rfl rx7 (rgk rfl) (fun c18 => ?_) (fun c18 => ?_)
          · have w := w.1 c18
            exact Q9   h3 t3 s3  w
          · have w := w.2 c18
            refine r_aldn (pc1 := 37) rfl rfl rfl ?_
            refine r_gfC (pc1 := 40) (q := 8) rfl rfl rfl t3 (lyk t3 rfl) rfl rfl (lyR t3 rfl rfl) ?_
            refine r_n (pc1 := 41) [.int (J x7), rv 8] _ rfl rfl ?_
            refine r_aldn (pc1 := 42) rfl rfl rfl ?_
            refine r_gfC (pc1 := 45) (q := 8) rfl rfl rfl t3 (lyk t3 rfl) rfl rfl (lyR t3 rfl rfl) ?_
            refine r_gfI (pc1 := 48) rfl rfl rfl t3 (lyk t3 rfl) rfl rfl ?_
            refine r_n (pc1 := 49) [.int (J 1), .int (J (hI h3 8 7)), .int (J x7), rv 8] _ rfl rfl ?_
            refine r_iv rfl rfl rfl rfl rfl rfl t3 (lyk t3 rfl) rfl (xe_of (xa_r (xa_i (xa_i (xa_i xa_0)))) rfl rfl) (r_d0 hd rfl) (a_X11_mirrorFor x7 (hI h3 8 7) 1 (r_d1 hd rfl) rx7 (rgh _ _ _) (rgk rfl) w t3 (fun x11 h12 t12 u12 rx11 w => ?_))
            refine r_fI (pc1 := 52) rfl ?_
            have s12 := HX_trans s3 u12
            have w := w t12 u12
            have w := w rx11
            refine r_n (pc1 := 53) [.int (J (-1)), .int (J x11)] _ rfl rfl ?_
            refine r_ic (t := 76) (pc1 := 56) rfl rfl rfl rx11 (rgk rfl) (fun c17 => ?_) (fun c17 => ?_)
            · have w := w.1 c17
              refine r_aldn (pc1 := 77) rfl rfl rfl ?_
              refine r_gfC (pc1 := 80) (q := 8) rfl rfl rfl t12 (lyk t12 rfl) rfl rfl (lyR t12 rfl rfl) ?_
              refine r_dupR (pc1 := 81) rfl rfl ?_
              refine r_gfI (pc1 := 84) rfl rfl rfl t12 (lyk t12 rfl) rfl rfl ?_
              refine r_n (pc1 := 85) [.int (J 1), .int (J (hI h12 8 7)), rv 8] _ rfl rfl ?_
              refine r_iadd (pc1 := 86) rfl rfl ?_
              refine r_pfI (pc1 := 89) rfl rfl rfl t12 (lyk t12 rfl) rfl rfl rfl (fun h13 eh13 t13 u13 => ?_)
              have w := w h13 eh13 t13 u13
              have s13 := HX_trans s12 u13
              exact Q9   h13 t13 s13  w
            · have w := w.2 c17
              refine r_aldn (pc1 := 57) rfl rfl rfl ?_
              refine r_gfC (pc1 := 60) (q := 8) rfl rfl rfl t12 (lyk t12 rfl) rfl rfl (lyR t12 rfl rfl) ?_
              refine r_iv rfl rfl rfl rfl rfl rfl t12 (lyk t12 rfl) rfl (xe_of (xa_r xa_0) rfl rfl) (r_d0 hd rfl) (a_X11_atHand  (r_d1 hd rfl)  w t12 (fun a14 w => ?_))
              refine r_fR (pc1 := 63) rfl ?_
              refine r_n (pc1 := 64) [.int (J 1), rv a14] _ rfl rfl ?_
              refine r_aldn (pc1 := 65) rfl rfl rfl ?_
              refine r_gfC (pc1 := 68) (q := 82) rfl rfl rfl t12 (lyk t12 rfl) rfl rfl (lyR t12 rfl rfl) ?_
              refine r_n (pc1 := 69) [.int (J x1), rv 82, .int (J 1), rv a14] _ rfl rfl ?_
              refine r_ial (pc1 := 70) rfl rfl t12 (lyk t12 rfl) rx1 c6.1 (lt_len (lyn t12 rfl) c6.2) ?_
              refine r_n (pc1 := 71) [.int (J (-1)), .int (J (hI h12 82 x1.toNat)), .int (J 1), rv a14] _ rfl rfl ?_
              obtain ⟨c15, w⟩ := w
              refine r_iv rfl rfl rfl rfl rfl rfl t12 c15 rfl (xe_of (xa_r (xa_i (xa_i (xa_i xa_0)))) rfl rfl) (r_d0 hd rfl) (a_X6_tellFailure a14 1 (hI h12 82 x1.toNat) (-1) (r_d1 hd rfl) c15 (rgk rfl) (rgh _ _ _) (rgk rfl) w t12 (fun h16 t16 u16 w => ?_))
              refine r_fV (pc1 := 74) rfl ?_
              have s16 := HX_trans s12 u16
              have w := w t16 u16
              refine r_n (pc1 := 75) [.int (J 0)] _ rfl rfl ?_
              exact r_retB rfl rfl rfl (.inl rfl) (k _ _ t16 s16 (rgk rfl) (.inl rfl) w)
  exact Q4 _ _ 0 h t0 (HX_refl h) (rgk rfl) (Nat.lt_succ_self _) w
def w_X2_wholeOf (p0 : Int) (K : BitVec 64 → Prop) (h : XH) : Prop :=
  ((∃ (I3 : BitVec 64 → Int → Prop) (m3 : BitVec 64 → Int → Nat), I3 (0#64) 0 ∧ ∀ (b1 : BitVec 64) (x2 : Int), rg x2 → I3 b1 x2 → (((hI h 9 0 ≤ x2 → (K b1)) ∧ (¬ (hI h 9 0 ≤ x2) → (∃ J5 : BitVec 64 → Prop, (∀ (b4 : BitVec 64), J5 b4 → (∀ b6 : BitVec 64, b6 = b1 ||| b4 → ∀ x7 : Int, x7 = wr (x2 + 1) → rg x7 → (I3 b6 x7 ∧ m3 b6 x7 < m3 b1 x2))) ∧ ((iand (ishr p0 x2) 1 = 0 → (J5 (0#64))) ∧ (¬ (iand (ishr p0 x2) 1 = 0) → ((0 ≤ x2 ∧ x2 < 12) ∧ J5 (hL h 11 x2.toNat))))))))))
set_option maxHeartbeats 4000000 in
theorem a_X2_wholeOf {sc : Nat × (Nat → Int32)} {goal : XO → XH → Prop} {fs : List XF} {h : XH} (p0 : Int) {K : BitVec 64 → Prop} (hd : fs.length + 0 ≤ 1000) (rp0 : rg p0) (w : w_X2_wholeOf p0 K h) (t0 : HT h) (k : ∀ (r : BitVec 64), K r → XFin xP sc goal fs (.inl (some (.long (G r)))) h) : RR sc goal fs 361 0 [some (rv 79), some (.int (J p0)), none, none, none] [] h := by
  unfold w_X2_wholeOf at w
  refine r_n (pc1 := 1) [.long (G (0#64))] _ rfl rfl ?_
  refine r_lstn (pc1 := 2) (ls1 := [some (rv 79), some (.int (J p0)), some (.long (G (0#64))), none, none]) rfl rfl rfl rfl ?_
  refine r_n (pc1 := 3) [.int (J 0)] _ rfl rfl ?_
  refine r_ist (pc1 := 5) (ls1 := [some (rv 79), some (.int (J p0)), some (.long (G (0#64))), none, some (.int (J 0))]) rfl rfl rfl rfl ?_
  obtain ⟨I3, m3, w, y3⟩ := w
  have Q3 : ∀ (n : Nat)  (b1 : BitVec 64) (x2 : Int), rg x2 → m3 b1 x2 < n → I3 b1 x2 → RR sc goal fs 361 5 [some (rv 79), some (.int (J p0)), some (.long (G b1)), none, some (.int (J x2))] [] h := by
    intro n
    induction n with
    | zero => intro b1 x2 rx2 q3 _; exact absurd q3 (Nat.not_lt_zero _)
    | succ n ih3 =>
      intro b1 x2 rx2 q3 z3
      have w := y3 b1 x2 rx2 z3
      refine r_n (pc1 := 7) [.int (J x2)] _ rfl rfl ?_
      refine r_aldn (pc1 := 8) rfl rfl rfl ?_
      refine r_gfC (pc1 := 11) (q := 9) rfl rfl rfl t0 (lyk t0 rfl) rfl rfl (lyR t0 rfl rfl) ?_
      refine r_gfI (pc1 := 14) rfl rfl rfl t0 (lyk t0 rfl) rfl rfl ?_
      refine r_ic (t := 49) (pc1 := 17) rfl rfl rfl rx2 (rgh _ _ _) (fun c10 => ?_) (fun c10 => ?_)
      · have w := w.1 c10
        refine r_n (pc1 := 50) [.long (G b1)] _ rfl rfl ?_
        exact r_retL rfl rfl rfl (k _ w)
      · have w := w.2 c10
        refine r_n (pc1 := 18) [.long (G b1)] _ rfl rfl ?_
        refine r_n (pc1 := 19) [.int (J p0), .long (G b1)] _ rfl rfl ?_
        refine r_n (pc1 := 21) [.int (J x2), .int (J p0), .long (G b1)] _ rfl rfl ?_
        refine r_ishr (pc1 := 22) rfl rfl ?_
        refine r_n (pc1 := 23) [.int (J 1), .int (J (ishr p0 x2)), .long (G b1)] _ rfl rfl ?_
        refine r_iand (pc1 := 24) rfl rfl ?_
        obtain ⟨J5, j5, w⟩ := w
        have Q5 : ∀ (b4 : BitVec 64), J5 b4 → RR sc goal fs 361 41 [some (rv 79), some (.int (J p0)), some (.long (G b1)), none, some (.int (J x2))] [.long (G b4), .long (G b1)] h := by
          intro b4 z5
          have w := j5 b4 z5
          refine r_lor (pc1 := 42) rfl rfl ?_
          refine r_vL (fun b6 eb6 => ?_)
          have w := w b6 eb6
          refine r_lstn (pc1 := 43) (ls1 := [some (rv 79), some (.int (J p0)), some (.long (G b6)), none, some (.int (J x2))]) rfl rfl rfl rfl ?_
          refine r_inc (pc1 := 46) (g := fun zz => [some (rv 79), some (.int (J p0)), some (.long (G b6)), none, some (.int (J zz))]) rfl rfl rfl rfl (fun _ => rfl) (fun x7 ex7 rx7 => ?_)
          have w := w x7 ex7 rx7
          refine r_goto (t := 5) rfl rfl ?_
          exact ih3  b6 x7  rx7 (Nat.lt_of_lt_of_le w.2 (Nat.le_of_lt_succ q3)) w.1
        refine r_iz (t := 40) (pc1 := 27) rfl rfl rfl (rgt _) (fun c9 => ?_) (fun c9 => ?_)
        · have w := w.1 c9
          refine r_n (pc1 := 41) [.long (G (0#64)), .long (G b1)] _ rfl rfl ?_
          exact Q5  (0#64)   w
        · have w := w.2 c9
          refine r_aldn (pc1 := 28) rfl rfl rfl ?_
          refine r_gfC (pc1 := 31) (q := 9) rfl rfl rfl t0 (lyk t0 rfl) rfl rfl (lyR t0 rfl rfl) ?_
          refine r_gfC (pc1 := 34) (q := 11) rfl rfl rfl t0 (lyk t0 rfl) rfl rfl (lyR t0 rfl rfl) ?_
          refine r_n (pc1 := 36) [.int (J x2), rv 11, .long (G b1)] _ rfl rfl ?_
          obtain ⟨c8, w⟩ := w
          refine r_lal (pc1 := 37) rfl rfl t0 (lyk t0 rfl) rx2 c8.1 (lt_len (lyn t0 rfl) c8.2) ?_
          refine r_goto (t := 41) rfl rfl ?_
          exact Q5  (hL h 11 x2.toNat)   w
  exact Q3 _  (0#64) 0  (rgk rfl) (Nat.lt_succ_self _) w
def w_X2_moved (p0 : BitVec 64) (p1 : BitVec 64) (p2 : Int) (K : BitVec 64 → Prop) (h : XH) : Prop :=
  (w_X2_wholeOf p2 (fun b1 => (K ((p0 &&& (b1 ^^^ (18446744073709551615#64))) ||| (p1 &&& b1)))) h)
set_option maxHeartbeats 4000000 in
theorem a_X2_moved {sc : Nat × (Nat → Int32)} {goal : XO → XH → Prop} {fs : List XF} {h : XH} (p0 : BitVec 64) (p1 : BitVec 64) (p2 : Int) {K : BitVec 64 → Prop} (hd : fs.length + 1 ≤ 1000) (rp2 : rg p2) (w : w_X2_moved p0 p1 p2 K h) (t0 : HT h) (k : ∀ (r : BitVec 64), K r → XFin xP sc goal fs (.inl (some (.long (G r)))) h) : RR sc goal fs 354 0 [some (rv 79), some (.long (G p0)), none, some (.long (G p1)), none, some (.int (J p2)), none, none] [] h := by
  unfold w_X2_moved at w
  refine r_aldn (pc1 := 1) rfl rfl rfl ?_
  refine r_n (pc1 := 3) [.int (J p2), rv 79] _ rfl rfl ?_
  refine r_iv rfl rfl rfl rfl rfl rfl t0 (lyk t0 rfl) rfl (xe_of (xa_r (xa_i xa_0)) rfl rfl) (r_d0 hd rfl) (a_X2_wholeOf p2 (r_d1 hd rfl) rp2 w t0 (fun b1 w => ?_))
  refine r_fL (pc1 := 6) rfl ?_
  refine r_lst (pc1 := 8) (ls1 := [some (rv 79), some (.long (G p0)), none, some (.long (G p1)), none, some (.int (J p2)), some (.long (G b1)), none]) rfl rfl rfl rfl ?_
  refine r_n (pc1 := 9) [.long (G p0)] _ rfl rfl ?_
  refine r_n (pc1 := 11) [.long (G b1), .long (G p0)] _ rfl rfl ?_
  refine r_n (pc1 := 14) [.long (G (18446744073709551615#64)), .long (G b1), .long (G p0)] _ rfl rfl ?_
  refine r_lxor (pc1 := 15) rfl rfl ?_
  refine r_land (pc1 := 16) rfl rfl ?_
  refine r_n (pc1 := 17) [.long (G p1), .long (G (p0 &&& (b1 ^^^ (18446744073709551615#64))))] _ rfl rfl ?_
  refine r_n (pc1 := 19) [.long (G b1), .long (G p1), .long (G (p0 &&& (b1 ^^^ (18446744073709551615#64))))] _ rfl rfl ?_
  refine r_land (pc1 := 20) rfl rfl ?_
  refine r_lor (pc1 := 21) rfl rfl ?_
  exact r_retL rfl rfl rfl (k _ w)
def w_X2_nextStep (p0 : BitVec 64) (p1 : BitVec 64) (p2 : Int) (K : Int → Prop) (h : XH) : Prop :=
  ((∃ (I3 : Int → Prop) (m3 : Int → Nat), I3 0 ∧ ∀ (x1 : Int), rg x1 → I3 x1 → (((hI h 9 0 ≤ x1 → (K p2)) ∧ (¬ (hI h 9 0 ≤ x1) → (∀ x4 : Int, x4 = iand p2 (ishl 1 x1) → rg x4 → ∃ J5 : Prop, (J5 → (∀ x6 : Int, x6 = wr (x1 + 1) → rg x6 → (I3 x6 ∧ m3 x6 < m3 x1))) ∧ ((x4 = 0 → J5) ∧ (¬ (x4 = 0) → (w_X2_moved p0 p1 x4 (fun b7 => (w_X3_isSoundSet b7 (fun x8 => rg x8 → (x8 = 0 ∨ x8 = 1) → (((x8 = 0 → J5) ∧ (¬ (x8 = 0) → (K x4))))) h)) h)))))))))
set_option maxHeartbeats 4000000 in
theorem a_X2_nextStep {sc : Nat × (Nat → Int32)} {goal : XO → XH → Prop} {fs : List XF} {h : XH} (p0 : BitVec 64) (p1 : BitVec 64) (p2 : Int) {K : Int → Prop} (hd : fs.length + 4 ≤ 1000) (rp2 : rg p2) (w : w_X2_nextStep p0 p1 p2 K h) (t0 : HT h) (k : ∀ (r : Int), rg r → K r → XFin xP sc goal fs (.inl (some (.int (J r)))) h) : RR sc goal fs 355 0 [some (rv 79), some (.long (G p0)), none, some (.long (G p1)), none, some (.int (J p2)), none, none] [] h := by
  unfold w_X2_nextStep at w
  refine r_n (pc1 := 1) [.int (J 0)] _ rfl rfl ?_
  refine r_ist (pc1 := 3) (ls1 := [some (rv 79), some (.long (G p0)), none, some (.long (G p1)), none, some (.int (J p2)), some (.int (J 0)), none]) rfl rfl rfl rfl ?_
  obtain ⟨I3, m3, w, y3⟩ := w
  have Q3 : ∀ (n : Nat) (d2 : Option Value) (x1 : Int), rg x1 → m3 x1 < n → I3 x1 → RR sc goal fs 355 3 [some (rv 79), some (.long (G p0)), none, some (.long (G p1)), none, some (.int (J p2)), some (.int (J x1)), d2] [] h := by
    intro n
    induction n with
    | zero => intro d2 x1 rx1 q3 _; exact absurd q3 (Nat.not_lt_zero _)
    | succ n ih3 =>
      intro d2 x1 rx1 q3 z3
      have w := y3 x1 rx1 z3
      refine r_n (pc1 := 5) [.int (J x1)] _ rfl rfl ?_
      refine r_aldn (pc1 := 6) rfl rfl rfl ?_
      refine r_gfC (pc1 := 9) (q := 9) rfl rfl rfl t0 (lyk t0 rfl) rfl rfl (lyR t0 rfl rfl) ?_
      refine r_gfI (pc1 := 12) rfl rfl rfl t0 (lyk t0 rfl) rfl rfl ?_
      refine r_ic (t := 56) (pc1 := 15) rfl rfl rfl rx1 (rgh _ _ _) (fun c11 => ?_) (fun c11 => ?_)
      · have w := w.1 c11
        refine r_n (pc1 := 58) [.int (J p2)] _ rfl rfl ?_
        exact r_retI rfl rfl rfl (k _ rp2 w)
      · have w := w.2 c11
        refine r_n (pc1 := 17) [.int (J p2)] _ rfl rfl ?_
        refine r_n (pc1 := 18) [.int (J 1), .int (J p2)] _ rfl rfl ?_
        refine r_n (pc1 := 20) [.int (J x1), .int (J 1), .int (J p2)] _ rfl rfl ?_
        refine r_ishl (pc1 := 21) rfl rfl ?_
        refine r_iand (pc1 := 22) rfl rfl ?_
        refine r_vI (rgt _) (fun x4 ex4 rx4 => ?_)
        have w := w x4 ex4 rx4
        refine r_ist (pc1 := 24) (ls1 := [some (rv 79), some (.long (G p0)), none, some (.long (G p1)), none, some (.int (J p2)), some (.int (J x1)), some (.int (J x4))]) rfl rfl rfl rfl ?_
        refine r_n (pc1 := 26) [.int (J x4)] _ rfl rfl ?_
        obtain ⟨J5, j5, w⟩ := w
        have Q5 : J5 → RR sc goal fs 355 50 [some (rv 79), some (.long (G p0)), none, some (.long (G p1)), none, some (.int (J p2)), some (.int (J x1)), some (.int (J x4))] [] h := by
          intro z5
          have w := j5 z5
          refine r_inc (pc1 := 53) (g := fun zz => [some (rv 79), some (.long (G p0)), none, some (.long (G p1)), none, some (.int (J p2)), some (.int (J zz)), some (.int (J x4))]) rfl rfl rfl rfl (fun _ => rfl) (fun x6 ex6 rx6 => ?_)
          have w := w x6 ex6 rx6
          refine r_goto (t := 3) rfl rfl ?_
          exact ih3 _ x6  rx6 (Nat.lt_of_lt_of_le w.2 (Nat.le_of_lt_succ q3)) w.1
        refine r_iz (t := 50) (pc1 := 29) rfl rfl rfl rx4 (fun c10 => ?_) (fun c10 => ?_)
        · have w := w.1 c10
          exact Q5     w
        · have w := w.2 c10
          refine r_aldn (pc1 := 30) rfl rfl rfl ?_
          refine r_gfC (pc1 := 33) (q := 44) rfl rfl rfl t0 (lyk t0 rfl) rfl rfl (lyR t0 rfl rfl) ?_
          refine r_aldn (pc1 := 34) rfl rfl rfl ?_
          refine r_n (pc1 := 35) [.long (G p0), rv 79, rv 44] _ rfl rfl ?_
          refine r_n (pc1 := 36) [.long (G p1), .long (G p0), rv 79, rv 44] _ rfl rfl ?_
          refine r_n (pc1 := 38) [.int (J x4), .long (G p1), .long (G p0), rv 79, rv 44] _ rfl rfl ?_
          refine r_iv rfl rfl rfl rfl rfl rfl t0 (lyk t0 rfl) rfl (xe_of (xa_r (xa_l (xa_l (xa_i xa_0)))) rfl rfl) (r_d0 hd rfl) (a_X2_moved p0 p1 x4 (r_d1 hd rfl) rx4 w t0 (fun b7 w => ?_))
          refine r_fL (pc1 := 41) rfl ?_
          refine r_iv rfl rfl rfl rfl rfl rfl t0 (lyk t0 rfl) rfl (xe_of (xa_r (xa_l xa_0)) rfl rfl) (r_d0 hd rfl) (a_X3_isSoundSet b7 (r_d1 hd rfl)  w t0 (fun x8 rx8 vx8 w => ?_))
          refine r_fI (pc1 := 44) rfl ?_
          have w := w rx8 vx8
          refine r_iz (t := 50) (pc1 := 47) rfl rfl rfl rx8 (fun c9 => ?_) (fun c9 => ?_)
          · have w := w.1 c9
            exact Q5     w
          · have w := w.2 c9
            refine r_n (pc1 := 49) [.int (J x4)] _ rfl rfl ?_
            exact r_retI rfl rfl rfl (k _ rx4 w)
  exact Q3 _ _ 0  (rgk rfl) (Nat.lt_succ_self _) w
def w_X2_findSteps  (K : XH → Prop) (h : XH) : Prop :=
  (w_X11_atHand (fun a1 => (hk h a1 = 7 ∧ ∀ b3 : BitVec 64, b3 = hL h a1 6 → w_X11_atHand (fun a4 => (hk h a4 = 7 ∧ ∀ b6 : BitVec 64, b6 = hL h a4 5 → w_X8_unlikePacks b3 b6 (fun x7 => rg x7 → (∀ h8 : XH, h8 = sI h 79 11 0 → HT h8 → HX h h8 → (∃ (I14 : BitVec 64 → Int → Int → XH → Prop) (m14 : BitVec 64 → Int → Int → XH → Nat), I14 b3 x7 0 h8 ∧ ∀ (b9 : BitVec 64) (x10 : Int) (x11 : Int) (h13 : XH), HT h13 → HX h h13 → rg x10 → rg x11 → I14 b9 x10 x11 h13 → (∃ J15 : Prop, (J15 → (K h13)) ∧ ((12 ≤ x11 → J15) ∧ (¬ (12 ≤ x11) → (((x10 = 0 → J15) ∧ (¬ (x10 = 0) → (w_X2_nextStep b9 b6 x10 (fun x16 => rg x16 → ((0 ≤ x11 ∧ x11 < 12) ∧ ∀ h18 : XH, h18 = sI h13 85 x11.toNat x16 → HT h18 → HX h13 h18 → ∀ h19 : XH, h19 = sI h18 79 11 (wr (x11 + 1)) → HT h19 → HX h18 h19 → w_X2_moved b9 b6 x16 (fun b20 => (∀ x21 : Int, x21 = iand x10 (ixor x16 (-1)) → rg x21 → ∀ x22 : Int, x22 = wr (x11 + 1) → rg x22 → (I14 b20 x21 x22 h19 ∧ m14 b20 x21 x22 h19 < m14 b9 x10 x11 h13))) h19)) h13)))))))))) h)) h)) h)
set_option maxHeartbeats 4000000 in
theorem a_X2_findSteps {sc : Nat × (Nat → Int32)} {goal : XO → XH → Prop} {fs : List XF} {h : XH}  {K : XH → Prop} (hd : fs.length + 5 ≤ 1000) (w : w_X2_findSteps  K h) (t0 : HT h) (k : ∀ (h1 : XH), HT h1 → HX h h1 → K h1 → XFin xP sc goal fs (.inl none) h1) : RR sc goal fs 346 0 [some (rv 79), none, none, none, none, none, none, none] [] h := by
  unfold w_X2_findSteps at w
  refine r_aldn (pc1 := 1) rfl rfl rfl ?_
  refine r_gfC (pc1 := 4) (q := 8) rfl rfl rfl t0 (lyk t0 rfl) rfl rfl (lyR t0 rfl rfl) ?_
  refine r_iv rfl rfl rfl rfl rfl rfl t0 (lyk t0 rfl) rfl (xe_of (xa_r xa_0) rfl rfl) (r_d0 hd rfl) (a_X11_atHand  (r_d1 hd rfl)  w t0 (fun a1 w => ?_))
  refine r_fR (pc1 := 7) rfl ?_
  obtain ⟨c2, w⟩ := w
  refine r_gfL (pc1 := 10) rfl rfl rfl t0 c2 rfl rfl ?_
  refine r_vL (fun b3 eb3 => ?_)
  have w := w b3 eb3
  refine r_lstn (pc1 := 11) (ls1 := [some (rv 79), some (.long (G b3)), none, none, none, none, none, none]) rfl rfl rfl rfl ?_
  refine r_aldn (pc1 := 12) rfl rfl rfl ?_
  refine r_gfC (pc1 := 15) (q := 8) rfl rfl rfl t0 (lyk t0 rfl) rfl rfl (lyR t0 rfl rfl) ?_
  refine r_iv rfl rfl rfl rfl rfl rfl t0 (lyk t0 rfl) rfl (xe_of (xa_r xa_0) rfl rfl) (r_d0 hd rfl) (a_X11_atHand  (r_d1 hd rfl)  w t0 (fun a4 w => ?_))
  refine r_fR (pc1 := 18) rfl ?_
  obtain ⟨c5, w⟩ := w
  refine r_gfL (pc1 := 21) rfl rfl rfl t0 c5 rfl rfl ?_
  refine r_vL (fun b6 eb6 => ?_)
  have w := w b6 eb6
  refine r_lstn (pc1 := 22) (ls1 := [some (rv 79), some (.long (G b3)), none, some (.long (G b6)), none, none, none, none]) rfl rfl rfl rfl ?_
  refine r_aldn (pc1 := 23) rfl rfl rfl ?_
  refine r_gfC (pc1 := 26) (q := 9) rfl rfl rfl t0 (lyk t0 rfl) rfl rfl (lyR t0 rfl rfl) ?_
  refine r_n (pc1 := 27) [.long (G b3), rv 9] _ rfl rfl ?_
  refine r_n (pc1 := 28) [.long (G b6), .long (G b3), rv 9] _ rfl rfl ?_
  refine r_iv rfl rfl rfl rfl rfl rfl t0 (lyk t0 rfl) rfl (xe_of (xa_r (xa_l (xa_l xa_0))) rfl rfl) (r_d0 hd rfl) (a_X8_unlikePacks b3 b6 (r_d1 hd rfl)  w t0 (fun x7 rx7 w => ?_))
  refine r_fI (pc1 := 31) rfl ?_
  have w := w rx7
  refine r_ist (pc1 := 33) (ls1 := [some (rv 79), some (.long (G b3)), none, some (.long (G b6)), none, some (.int (J x7)), none, none]) rfl rfl rfl rfl ?_
  refine r_aldn (pc1 := 34) rfl rfl rfl ?_
  refine r_n (pc1 := 35) [.int (J 0), rv 79] _ rfl rfl ?_
  refine r_pfI (pc1 := 38) rfl rfl rfl t0 (lyk t0 rfl) rfl rfl rfl (fun h8 eh8 t8 u8 => ?_)
  have w := w h8 eh8 t8 u8
  have s8 := HX_trans (HX_refl h) u8
  refine r_n (pc1 := 39) [.int (J 0)] _ rfl rfl ?_
  refine r_ist (pc1 := 41) (ls1 := [some (rv 79), some (.long (G b3)), none, some (.long (G b6)), none, some (.int (J x7)), some (.int (J 0)), none]) rfl rfl rfl rfl ?_
  obtain ⟨I14, m14, w, y14⟩ := w
  have Q14 : ∀ (n : Nat) (d12 : Option Value) (b9 : BitVec 64) (x10 : Int) (x11 : Int) (h13 : XH), HT h13 → HX h h13 → rg x10 → rg x11 → m14 b9 x10 x11 h13 < n → I14 b9 x10 x11 h13 → RR sc goal fs 346 41 [some (rv 79), some (.long (G b9)), none, some (.long (G b6)), none, some (.int (J x10)), some (.int (J x11)), d12] [] h13 := by
    intro n
    induction n with
    | zero => intro d12 b9 x10 x11 h13 t13 s13 rx10 rx11 q14 _; exact absurd q14 (Nat.not_lt_zero _)
    | succ n ih14 =>
      intro d12 b9 x10 x11 h13 t13 s13 rx10 rx11 q14 z14
      have w := y14 b9 x10 x11 h13 t13 s13 rx10 rx11 z14
      refine r_n (pc1 := 43) [.int (J x11)] _ rfl rfl ?_
      refine r_n (pc1 := 45) [.int (J 12), .int (J x11)] _ rfl rfl ?_
      obtain ⟨J15, j15, w⟩ := w
      have Q15 : J15 → RR sc goal fs 346 104 [some (rv 79), some (.long (G b9)), none, some (.long (G b6)), none, some (.int (J x10)), some (.int (J x11)), d12] [] h13 := by
        intro z15
        have w := j15 z15
        exact r_retV rfl rfl rfl (k _ t13 s13 w)
      refine r_ic (t := 104) (pc1 := 48) rfl rfl rfl rx11 (rgk rfl) (fun c24 => ?_) (fun c24 => ?_)
      · have w := w.1 c24
        exact Q15     w
      · have w := w.2 c24
        refine r_n (pc1 := 50) [.int (J x10)] _ rfl rfl ?_
        refine r_iz (t := 104) (pc1 := 53) rfl rfl rfl rx10 (fun c23 => ?_) (fun c23 => ?_)
        · have w := w.1 c23
          exact Q15     w
        · have w := w.2 c23
          refine r_aldn (pc1 := 54) rfl rfl rfl ?_
          refine r_n (pc1 := 55) [.long (G b9), rv 79] _ rfl rfl ?_
          refine r_n (pc1 := 56) [.long (G b6), .long (G b9), rv 79] _ rfl rfl ?_
          refine r_n (pc1 := 58) [.int (J x10), .long (G b6), .long (G b9), rv 79] _ rfl rfl ?_
          refine r_iv rfl rfl rfl rfl rfl rfl t13 (lyk t13 rfl) rfl (xe_of (xa_r (xa_l (xa_l (xa_i xa_0)))) rfl rfl) (r_d0 hd rfl) (a_X2_nextStep b9 b6 x10 (r_d1 hd rfl) rx10 w t13 (fun x16 rx16 w => ?_))
          refine r_fI (pc1 := 61) rfl ?_
          have w := w rx16
          refine r_ist (pc1 := 63) (ls1 := [some (rv 79), some (.long (G b9)), none, some (.long (G b6)), none, some (.int (J x10)), some (.int (J x11)), some (.int (J x16))]) rfl rfl rfl rfl ?_
          refine r_aldn (pc1 := 64) rfl rfl rfl ?_
          refine r_gfC (pc1 := 67) (q := 85) rfl rfl rfl t13 (lyk t13 rfl) rfl rfl (lyR t13 rfl rfl) ?_
          refine r_n (pc1 := 69) [.int (J x11), rv 85] _ rfl rfl ?_
          refine r_n (pc1 := 71) [.int (J x16), .int (J x11), rv 85] _ rfl rfl ?_
          obtain ⟨c17, w⟩ := w
          refine r_iast (pc1 := 72) rfl rfl t13 (lyk t13 rfl) rx11 c17.1 (lt_len (lyn t13 rfl) c17.2) (fun h18 eh18 t18 u18 => ?_)
          have w := w h18 eh18 t18 u18
          have s18 := HX_trans s13 u18
          refine r_aldn (pc1 := 73) rfl rfl rfl ?_
          refine r_n (pc1 := 75) [.int (J x11), rv 79] _ rfl rfl ?_
          refine r_n (pc1 := 76) [.int (J 1), .int (J x11), rv 79] _ rfl rfl ?_
          refine r_iadd (pc1 := 77) rfl rfl ?_
          refine r_pfI (pc1 := 80) rfl rfl rfl t18 (lyk t18 rfl) rfl rfl rfl (fun h19 eh19 t19 u19 => ?_)
          have w := w h19 eh19 t19 u19
          have s19 := HX_trans s18 u19
          refine r_aldn (pc1 := 81) rfl rfl rfl ?_
          refine r_n (pc1 := 82) [.long (G b9), rv 79] _ rfl rfl ?_
          refine r_n (pc1 := 83) [.long (G b6), .long (G b9), rv 79] _ rfl rfl ?_
          refine r_n (pc1 := 85) [.int (J x16), .long (G b6), .long (G b9), rv 79] _ rfl rfl ?_
          refine r_iv rfl rfl rfl rfl rfl rfl t19 (lyk t19 rfl) rfl (xe_of (xa_r (xa_l (xa_l (xa_i xa_0)))) rfl rfl) (r_d0 hd rfl) (a_X2_moved b9 b6 x16 (r_d1 hd rfl) rx16 w t19 (fun b20 w => ?_))
          refine r_fL (pc1 := 88) rfl ?_
          refine r_lstn (pc1 := 89) (ls1 := [some (rv 79), some (.long (G b20)), none, some (.long (G b6)), none, some (.int (J x10)), some (.int (J x11)), some (.int (J x16))]) rfl rfl rfl rfl ?_
          refine r_n (pc1 := 91) [.int (J x10)] _ rfl rfl ?_
          refine r_n (pc1 := 93) [.int (J x16), .int (J x10)] _ rfl rfl ?_
          refine r_n (pc1 := 94) [.int (J (-1)), .int (J x16), .int (J x10)] _ rfl rfl ?_
          refine r_ixor (pc1 := 95) rfl rfl ?_
          refine r_iand (pc1 := 96) rfl rfl ?_
          refine r_vI (rgt _) (fun x21 ex21 rx21 => ?_)
          have w := w x21 ex21 rx21
          refine r_ist (pc1 := 98) (ls1 := [some (rv 79), some (.long (G b20)), none, some (.long (G b6)), none, some (.int (J x21)), some (.int (J x11)), some (.int (J x16))]) rfl rfl rfl rfl ?_
          refine r_inc (pc1 := 101) (g := fun zz => [some (rv 79), some (.long (G b20)), none, some (.long (G b6)), none, some (.int (J x21)), some (.int (J zz)), some (.int (J x16))]) rfl rfl rfl rfl (fun _ => rfl) (fun x22 ex22 rx22 => ?_)
          have w := w x22 ex22 rx22
          refine r_goto (t := 41) rfl rfl ?_
          exact ih14 _ b20 x21 x22 h19 t19 s19 rx21 rx22 (Nat.lt_of_lt_of_le w.2 (Nat.le_of_lt_succ q14)) w.1
  exact Q14 _ _ b3 x7 0 h8 t8 s8 rx7 (rgk rfl) (Nat.lt_succ_self _) w
def w_X2_filesOf (p0 : BitVec 64) (K : Int → Prop) (h : XH) : Prop :=
  ((∃ (I3 : Int → Int → Prop) (m3 : Int → Int → Nat), I3 0 0 ∧ ∀ (x1 : Int) (x2 : Int), rg x1 → rg x2 → I3 x1 x2 → (((hI h 9 1 ≤ x2 → (K x1)) ∧ (¬ (hI h 9 1 ≤ x2) → (w_X12_has p0 x2 (fun x4 => rg x4 → (x4 = 0 ∨ x4 = 1) → (∃ J6 : Int → Prop, (∀ (x5 : Int), rg x5 → J6 x5 → (∀ x7 : Int, x7 = ior x1 x5 → rg x7 → ∀ x8 : Int, x8 = wr (x2 + 1) → rg x8 → (I3 x7 x8 ∧ m3 x7 x8 < m3 x1 x2))) ∧ ((x4 = 0 → (J6 0)) ∧ (¬ (x4 = 0) → ((0 ≤ x2 ∧ x2 < 40) ∧ J6 (hI h 15 x2.toNat)))))) h))))))
set_option maxHeartbeats 4000000 in
theorem a_X2_filesOf {sc : Nat × (Nat → Int32)} {goal : XO → XH → Prop} {fs : List XF} {h : XH} (p0 : BitVec 64) {K : Int → Prop} (hd : fs.length + 1 ≤ 1000) (w : w_X2_filesOf p0 K h) (t0 : HT h) (k : ∀ (r : Int), rg r → K r → XFin xP sc goal fs (.inl (some (.int (J r)))) h) : RR sc goal fs 345 0 [some (rv 79), some (.long (G p0)), none, none, none] [] h := by
  unfold w_X2_filesOf at w
  refine r_n (pc1 := 1) [.int (J 0)] _ rfl rfl ?_
  refine r_istn (pc1 := 2) (ls1 := [some (rv 79), some (.long (G p0)), none, some (.int (J 0)), none]) rfl rfl rfl rfl ?_
  refine r_n (pc1 := 3) [.int (J 0)] _ rfl rfl ?_
  refine r_ist (pc1 := 5) (ls1 := [some (rv 79), some (.long (G p0)), none, some (.int (J 0)), some (.int (J 0))]) rfl rfl rfl rfl ?_
  obtain ⟨I3, m3, w, y3⟩ := w
  have Q3 : ∀ (n : Nat)  (x1 : Int) (x2 : Int), rg x1 → rg x2 → m3 x1 x2 < n → I3 x1 x2 → RR sc goal fs 345 5 [some (rv 79), some (.long (G p0)), none, some (.int (J x1)), some (.int (J x2))] [] h := by
    intro n
    induction n with
    | zero => intro x1 x2 rx1 rx2 q3 _; exact absurd q3 (Nat.not_lt_zero _)
    | succ n ih3 =>
      intro x1 x2 rx1 rx2 q3 z3
      have w := y3 x1 x2 rx1 rx2 z3
      refine r_n (pc1 := 7) [.int (J x2)] _ rfl rfl ?_
      refine r_aldn (pc1 := 8) rfl rfl rfl ?_
      refine r_gfC (pc1 := 11) (q := 9) rfl rfl rfl t0 (lyk t0 rfl) rfl rfl (lyR t0 rfl rfl) ?_
      refine r_gfI (pc1 := 14) rfl rfl rfl t0 (lyk t0 rfl) rfl rfl ?_
      refine r_ic (t := 49) (pc1 := 17) rfl rfl rfl rx2 (rgh _ _ _) (fun c11 => ?_) (fun c11 => ?_)
      · have w := w.1 c11
        refine r_n (pc1 := 50) [.int (J x1)] _ rfl rfl ?_
        exact r_retI rfl rfl rfl (k _ rx1 w)
      · have w := w.2 c11
        refine r_n (pc1 := 18) [.int (J x1)] _ rfl rfl ?_
        refine r_n (pc1 := 19) [.long (G p0), .int (J x1)] _ rfl rfl ?_
        refine r_n (pc1 := 21) [.int (J x2), .long (G p0), .int (J x1)] _ rfl rfl ?_
        refine r_iq rfl rfl rfl rfl rfl rfl (xe_of (xa_l (xa_i xa_0)) rfl rfl) (r_d0 hd rfl) (a_X12_has p0 x2 (r_d1 hd rfl) rx2 w t0 (fun x4 rx4 vx4 w => ?_))
        refine r_fI (pc1 := 24) rfl ?_
        have w := w rx4 vx4
        obtain ⟨J6, j6, w⟩ := w
        have Q6 : ∀ (x5 : Int), rg x5 → J6 x5 → RR sc goal fs 345 41 [some (rv 79), some (.long (G p0)), none, some (.int (J x1)), some (.int (J x2))] [.int (J x5), .int (J x1)] h := by
          intro x5 rx5 z6
          have w := j6 x5 rx5 z6
          refine r_ior (pc1 := 42) rfl rfl ?_
          refine r_vI (rgt _) (fun x7 ex7 rx7 => ?_)
          have w := w x7 ex7 rx7
          refine r_istn (pc1 := 43) (ls1 := [some (rv 79), some (.long (G p0)), none, some (.int (J x7)), some (.int (J x2))]) rfl rfl rfl rfl ?_
          refine r_inc (pc1 := 46) (g := fun zz => [some (rv 79), some (.long (G p0)), none, some (.int (J x7)), some (.int (J zz))]) rfl rfl rfl rfl (fun _ => rfl) (fun x8 ex8 rx8 => ?_)
          have w := w x8 ex8 rx8
          refine r_goto (t := 5) rfl rfl ?_
          exact ih3  x7 x8  rx7 rx8 (Nat.lt_of_lt_of_le w.2 (Nat.le_of_lt_succ q3)) w.1
        refine r_iz (t := 40) (pc1 := 27) rfl rfl rfl rx4 (fun c10 => ?_) (fun c10 => ?_)
        · have w := w.1 c10
          refine r_n (pc1 := 41) [.int (J 0), .int (J x1)] _ rfl rfl ?_
          exact Q6  0  (rgk rfl) w
        · have w := w.2 c10
          refine r_aldn (pc1 := 28) rfl rfl rfl ?_
          refine r_gfC (pc1 := 31) (q := 9) rfl rfl rfl t0 (lyk t0 rfl) rfl rfl (lyR t0 rfl rfl) ?_
          refine r_gfC (pc1 := 34) (q := 15) rfl rfl rfl t0 (lyk t0 rfl) rfl rfl (lyR t0 rfl rfl) ?_
          refine r_n (pc1 := 36) [.int (J x2), rv 15, .int (J x1)] _ rfl rfl ?_
          obtain ⟨c9, w⟩ := w
          refine r_ial (pc1 := 37) rfl rfl t0 (lyk t0 rfl) rx2 c9.1 (lt_len (lyn t0 rfl) c9.2) ?_
          refine r_goto (t := 41) rfl rfl ?_
          exact Q6  (hI h 15 x2.toNat)  (rgh _ _ _) w
  exact Q3 _  0 0  (rgk rfl) (rgk rfl) (Nat.lt_succ_self _) w
def w_X2_failedBy (p0 : Int) (p1 : Int) (p2 : Int) (K : BitVec 64 → XH → Prop) (h : XH) : Prop :=
  (w_X11_atHand (fun a1 => (hk h a1 = 7 ∧ w_X6_tellFailure a1 p0 p1 p2 (fun h3 => HT h3 → HX h h3 → (K (4611686018427387904#64) h3)) h)) h)
set_option maxHeartbeats 4000000 in
theorem a_X2_failedBy {sc : Nat × (Nat → Int32)} {goal : XO → XH → Prop} {fs : List XF} {h : XH} (p0 : Int) (p1 : Int) (p2 : Int) {K : BitVec 64 → XH → Prop} (hd : fs.length + 2 ≤ 1000) (rp0 : rg p0) (rp1 : rg p1) (rp2 : rg p2) (w : w_X2_failedBy p0 p1 p2 K h) (t0 : HT h) (k : ∀ (r : BitVec 64) (h1 : XH), HT h1 → HX h h1 → K r h1 → XFin xP sc goal fs (.inl (some (.long (G r)))) h1) : RR sc goal fs 344 0 [some (rv 79), some (.int (J p0)), some (.int (J p1)), some (.int (J p2))] [] h := by
  unfold w_X2_failedBy at w
  refine r_aldn (pc1 := 1) rfl rfl rfl ?_
  refine r_gfC (pc1 := 4) (q := 8) rfl rfl rfl t0 (lyk t0 rfl) rfl rfl (lyR t0 rfl rfl) ?_
  refine r_iv rfl rfl rfl rfl rfl rfl t0 (lyk t0 rfl) rfl (xe_of (xa_r xa_0) rfl rfl) (r_d0 hd rfl) (a_X11_atHand  (r_d1 hd rfl)  w t0 (fun a1 w => ?_))
  refine r_fR (pc1 := 7) rfl ?_
  refine r_n (pc1 := 8) [.int (J p0), rv a1] _ rfl rfl ?_
  refine r_n (pc1 := 9) [.int (J p1), .int (J p0), rv a1] _ rfl rfl ?_
  refine r_n (pc1 := 10) [.int (J p2), .int (J p1), .int (J p0), rv a1] _ rfl rfl ?_
  obtain ⟨c2, w⟩ := w
  refine r_iv rfl rfl rfl rfl rfl rfl t0 c2 rfl (xe_of (xa_r (xa_i (xa_i (xa_i xa_0)))) rfl rfl) (r_d0 hd rfl) (a_X6_tellFailure a1 p0 p1 p2 (r_d1 hd rfl) c2 rp0 rp1 rp2 w t0 (fun h3 t3 u3 w => ?_))
  refine r_fV (pc1 := 13) rfl ?_
  have s3 := HX_trans (HX_refl h) u3
  have w := w t3 u3
  refine r_n (pc1 := 16) [.long (G (4611686018427387904#64))] _ rfl rfl ?_
  exact r_retL rfl rfl rfl (k _ _ t3 s3 w)
def w_X8_sizeOf (p0 : BitVec 64) (K : Int → Prop) (h : XH) : Prop :=
  ((∃ (I3 : Int → Int → Prop) (m3 : Int → Int → Nat), I3 0 0 ∧ ∀ (x1 : Int) (x2 : Int), rg x1 → rg x2 → I3 x1 x2 → (((hI h 9 1 ≤ x2 → (K x1)) ∧ (¬ (hI h 9 1 ≤ x2) → (w_X12_has p0 x2 (fun x4 => rg x4 → (x4 = 0 ∨ x4 = 1) → (∃ J6 : Int → Prop, (∀ (x5 : Int), rg x5 → J6 x5 → (∀ x7 : Int, x7 = wr (x1 + x5) → rg x7 → ∀ x8 : Int, x8 = wr (x2 + 1) → rg x8 → (I3 x7 x8 ∧ m3 x7 x8 < m3 x1 x2))) ∧ ((x4 = 0 → (J6 0)) ∧ (¬ (x4 = 0) → ((0 ≤ x2 ∧ x2 < 40) ∧ J6 (hI h 16 x2.toNat)))))) h))))))
set_option maxHeartbeats 4000000 in
theorem a_X8_sizeOf {sc : Nat × (Nat → Int32)} {goal : XO → XH → Prop} {fs : List XF} {h : XH} (p0 : BitVec 64) {K : Int → Prop} (hd : fs.length + 1 ≤ 1000) (w : w_X8_sizeOf p0 K h) (t0 : HT h) (k : ∀ (r : Int), rg r → K r → XFin xP sc goal fs (.inl (some (.int (J r)))) h) : RR sc goal fs 464 0 [some (rv 9), some (.long (G p0)), none, none, none] [] h := by
  unfold w_X8_sizeOf at w
  refine r_n (pc1 := 1) [.int (J 0)] _ rfl rfl ?_
  refine r_istn (pc1 := 2) (ls1 := [some (rv 9), some (.long (G p0)), none, some (.int (J 0)), none]) rfl rfl rfl rfl ?_
  refine r_n (pc1 := 3) [.int (J 0)] _ rfl rfl ?_
  refine r_ist (pc1 := 5) (ls1 := [some (rv 9), some (.long (G p0)), none, some (.int (J 0)), some (.int (J 0))]) rfl rfl rfl rfl ?_
  obtain ⟨I3, m3, w, y3⟩ := w
  have Q3 : ∀ (n : Nat)  (x1 : Int) (x2 : Int), rg x1 → rg x2 → m3 x1 x2 < n → I3 x1 x2 → RR sc goal fs 464 5 [some (rv 9), some (.long (G p0)), none, some (.int (J x1)), some (.int (J x2))] [] h := by
    intro n
    induction n with
    | zero => intro x1 x2 rx1 rx2 q3 _; exact absurd q3 (Nat.not_lt_zero _)
    | succ n ih3 =>
      intro x1 x2 rx1 rx2 q3 z3
      have w := y3 x1 x2 rx1 rx2 z3
      refine r_n (pc1 := 7) [.int (J x2)] _ rfl rfl ?_
      refine r_aldn (pc1 := 8) rfl rfl rfl ?_
      refine r_gfI (pc1 := 11) rfl rfl rfl t0 (lyk t0 rfl) rfl rfl ?_
      refine r_ic (t := 43) (pc1 := 14) rfl rfl rfl rx2 (rgh _ _ _) (fun c11 => ?_) (fun c11 => ?_)
      · have w := w.1 c11
        refine r_n (pc1 := 44) [.int (J x1)] _ rfl rfl ?_
        exact r_retI rfl rfl rfl (k _ rx1 w)
      · have w := w.2 c11
        refine r_n (pc1 := 15) [.int (J x1)] _ rfl rfl ?_
        refine r_n (pc1 := 16) [.long (G p0), .int (J x1)] _ rfl rfl ?_
        refine r_n (pc1 := 18) [.int (J x2), .long (G p0), .int (J x1)] _ rfl rfl ?_
        refine r_iq rfl rfl rfl rfl rfl rfl (xe_of (xa_l (xa_i xa_0)) rfl rfl) (r_d0 hd rfl) (a_X12_has p0 x2 (r_d1 hd rfl) rx2 w t0 (fun x4 rx4 vx4 w => ?_))
        refine r_fI (pc1 := 21) rfl ?_
        have w := w rx4 vx4
        obtain ⟨J6, j6, w⟩ := w
        have Q6 : ∀ (x5 : Int), rg x5 → J6 x5 → RR sc goal fs 464 35 [some (rv 9), some (.long (G p0)), none, some (.int (J x1)), some (.int (J x2))] [.int (J x5), .int (J x1)] h := by
          intro x5 rx5 z6
          have w := j6 x5 rx5 z6
          refine r_iadd (pc1 := 36) rfl rfl ?_
          refine r_vI (rgw _) (fun x7 ex7 rx7 => ?_)
          have w := w x7 ex7 rx7
          refine r_istn (pc1 := 37) (ls1 := [some (rv 9), some (.long (G p0)), none, some (.int (J x7)), some (.int (J x2))]) rfl rfl rfl rfl ?_
          refine r_inc (pc1 := 40) (g := fun zz => [some (rv 9), some (.long (G p0)), none, some (.int (J x7)), some (.int (J zz))]) rfl rfl rfl rfl (fun _ => rfl) (fun x8 ex8 rx8 => ?_)
          have w := w x8 ex8 rx8
          refine r_goto (t := 5) rfl rfl ?_
          exact ih3  x7 x8  rx7 rx8 (Nat.lt_of_lt_of_le w.2 (Nat.le_of_lt_succ q3)) w.1
        refine r_iz (t := 34) (pc1 := 24) rfl rfl rfl rx4 (fun c10 => ?_) (fun c10 => ?_)
        · have w := w.1 c10
          refine r_n (pc1 := 35) [.int (J 0), .int (J x1)] _ rfl rfl ?_
          exact Q6  0  (rgk rfl) w
        · have w := w.2 c10
          refine r_aldn (pc1 := 25) rfl rfl rfl ?_
          refine r_gfC (pc1 := 28) (q := 16) rfl rfl rfl t0 (lyk t0 rfl) rfl rfl (lyR t0 rfl rfl) ?_
          refine r_n (pc1 := 30) [.int (J x2), rv 16, .int (J x1)] _ rfl rfl ?_
          obtain ⟨c9, w⟩ := w
          refine r_ial (pc1 := 31) rfl rfl t0 (lyk t0 rfl) rx2 c9.1 (lt_len (lyn t0 rfl) c9.2) ?_
          refine r_goto (t := 35) rfl rfl ?_
          exact Q6  (hI h 16 x2.toNat)  (rgh _ _ _) w
  exact Q3 _  0 0  (rgk rfl) (rgk rfl) (Nat.lt_succ_self _) w
def w_X2_greatestOf (p0 : Int) (K : Int → Prop) (h : XH) : Prop :=
  ((∃ (I3 : Int → Int → Prop) (m3 : Int → Int → Nat), I3 (-1) 0 ∧ ∀ (x1 : Int) (x2 : Int), rg x1 → rg x2 → I3 x1 x2 → (((hI h 9 0 ≤ x2 → (K x1)) ∧ (¬ (hI h 9 0 ≤ x2) → (∃ J5 : Int → Prop, (∀ (x4 : Int), rg x4 → J5 x4 → (∀ x6 : Int, x6 = wr (x2 + 1) → rg x6 → (I3 x4 x6 ∧ m3 x4 x6 < m3 x1 x2))) ∧ ((iand (ishr p0 x2) 1 = 0 → (J5 x1)) ∧ (¬ (iand (ishr p0 x2) 1 = 0) → (J5 x2)))))))))
set_option maxHeartbeats 4000000 in
theorem a_X2_greatestOf {sc : Nat × (Nat → Int32)} {goal : XO → XH → Prop} {fs : List XF} {h : XH} (p0 : Int) {K : Int → Prop} (hd : fs.length + 0 ≤ 1000) (rp0 : rg p0) (w : w_X2_greatestOf p0 K h) (t0 : HT h) (k : ∀ (r : Int), rg r → K r → XFin xP sc goal fs (.inl (some (.int (J r)))) h) : RR sc goal fs 349 0 [some (rv 79), some (.int (J p0)), none, none] [] h := by
  unfold w_X2_greatestOf at w
  refine r_n (pc1 := 1) [.int (J (-1))] _ rfl rfl ?_
  refine r_istn (pc1 := 2) (ls1 := [some (rv 79), some (.int (J p0)), some (.int (J (-1))), none]) rfl rfl rfl rfl ?_
  refine r_n (pc1 := 3) [.int (J 0)] _ rfl rfl ?_
  refine r_istn (pc1 := 4) (ls1 := [some (rv 79), some (.int (J p0)), some (.int (J (-1))), some (.int (J 0))]) rfl rfl rfl rfl ?_
  obtain ⟨I3, m3, w, y3⟩ := w
  have Q3 : ∀ (n : Nat)  (x1 : Int) (x2 : Int), rg x1 → rg x2 → m3 x1 x2 < n → I3 x1 x2 → RR sc goal fs 349 4 [some (rv 79), some (.int (J p0)), some (.int (J x1)), some (.int (J x2))] [] h := by
    intro n
    induction n with
    | zero => intro x1 x2 rx1 rx2 q3 _; exact absurd q3 (Nat.not_lt_zero _)
    | succ n ih3 =>
      intro x1 x2 rx1 rx2 q3 z3
      have w := y3 x1 x2 rx1 rx2 z3
      refine r_n (pc1 := 5) [.int (J x2)] _ rfl rfl ?_
      refine r_aldn (pc1 := 6) rfl rfl rfl ?_
      refine r_gfC (pc1 := 9) (q := 9) rfl rfl rfl t0 (lyk t0 rfl) rfl rfl (lyR t0 rfl rfl) ?_
      refine r_gfI (pc1 := 12) rfl rfl rfl t0 (lyk t0 rfl) rfl rfl ?_
      refine r_ic (t := 35) (pc1 := 15) rfl rfl rfl rx2 (rgh _ _ _) (fun c8 => ?_) (fun c8 => ?_)
      · have w := w.1 c8
        refine r_n (pc1 := 36) [.int (J x1)] _ rfl rfl ?_
        exact r_retI rfl rfl rfl (k _ rx1 w)
      · have w := w.2 c8
        refine r_n (pc1 := 16) [.int (J p0)] _ rfl rfl ?_
        refine r_n (pc1 := 17) [.int (J x2), .int (J p0)] _ rfl rfl ?_
        refine r_ishr (pc1 := 18) rfl rfl ?_
        refine r_n (pc1 := 19) [.int (J 1), .int (J (ishr p0 x2))] _ rfl rfl ?_
        refine r_iand (pc1 := 20) rfl rfl ?_
        obtain ⟨J5, j5, w⟩ := w
        have Q5 : ∀ (x4 : Int), rg x4 → J5 x4 → RR sc goal fs 349 28 [some (rv 79), some (.int (J p0)), some (.int (J x1)), some (.int (J x2))] [.int (J x4)] h := by
          intro x4 rx4 z5
          have w := j5 x4 rx4 z5
          refine r_istn (pc1 := 29) (ls1 := [some (rv 79), some (.int (J p0)), some (.int (J x4)), some (.int (J x2))]) rfl rfl rfl rfl ?_
          refine r_inc (pc1 := 32) (g := fun zz => [some (rv 79), some (.int (J p0)), some (.int (J x4)), some (.int (J zz))]) rfl rfl rfl rfl (fun _ => rfl) (fun x6 ex6 rx6 => ?_)
          have w := w x6 ex6 rx6
          refine r_goto (t := 4) rfl rfl ?_
          exact ih3  x4 x6  rx4 rx6 (Nat.lt_of_lt_of_le w.2 (Nat.le_of_lt_succ q3)) w.1
        refine r_iz (t := 27) (pc1 := 23) rfl rfl rfl (rgt _) (fun c7 => ?_) (fun c7 => ?_)
        · have w := w.1 c7
          refine r_n (pc1 := 28) [.int (J x1)] _ rfl rfl ?_
          exact Q5  x1  rx1 w
        · have w := w.2 c7
          refine r_n (pc1 := 24) [.int (J x2)] _ rfl rfl ?_
          refine r_goto (t := 28) rfl rfl ?_
          exact Q5  x2  rx2 w
  exact Q3 _  (-1) 0  (rgk rfl) (rgk rfl) (Nat.lt_succ_self _) w
def w_X2_afterStep (p0 : BitVec 64) (p1 : Int) (K : BitVec 64 → XH → Prop) (h : XH) : Prop :=
  (w_X11_atHand (fun a1 => (hk h a1 = 7 ∧ ∀ b3 : BitVec 64, b3 = hL h a1 5 → (0 ≤ p1 ∧ p1 < 12) ∧ w_X2_moved p0 b3 (hI h 85 p1.toNat) (fun b5 => (∀ b6 : BitVec 64, b6 = (b5 &&& (p0 ^^^ (18446744073709551615#64))) &&& (1099511627775#64) → w_X2_filesOf (p0 &&& b5) (fun x7 => rg x7 → ((∃ (I11 : Int → Int → Prop) (m11 : Int → Int → Nat), I11 x7 0 ∧ ∀ (x8 : Int) (x9 : Int), rg x8 → rg x9 → I11 x8 x9 → (((hI h 79 6 ≤ x9 → (w_X8_sizeOf b5 (fun x12 => rg x12 → (w_X11_atHand (fun a13 => (hk h a13 = 7 ∧ ((x12 ≤ hI h a13 4 → ((∃ (I18 : Int → Prop) (m18 : Int → Nat), I18 0 ∧ ∀ (x16 : Int), rg x16 → I18 x16 → (((hI h 79 6 ≤ x16 → (K b5 h)) ∧ (¬ (hI h 79 6 ≤ x16) → ((0 ≤ x16 ∧ x16 < 12) ∧ w_X8_idIn b6 (hI h 82 x16.toNat) (fun x20 => rg x20 → (∃ J21 : Prop, (J21 → (∀ x22 : Int, x22 = wr (x16 + 1) → rg x22 → (I18 x22 ∧ m18 x22 < m18 x16))) ∧ ((x20 = (-1) → J21) ∧ (¬ (x20 = (-1)) → (w_X12_has (hL h 9 10) x20 (fun x23 => rg x23 → (x23 = 0 ∨ x23 = 1) → (((x23 = 0 → J21) ∧ (¬ (x23 = 0) → (w_X2_failedBy 4 (hI h 82 x16.toNat) p1 (fun b24 h25 => HT h25 → HX h h25 → (K b24 h25)) h))))) h))))) h))))))) ∧ (¬ (x12 ≤ hI h a13 4) → (w_X2_greatestOf (hI h 85 p1.toNat) (fun x29 => rg x29 → (w_X2_failedBy 3 x29 p1 (fun b30 h31 => HT h31 → HX h h31 → (K b30 h31)) h)) h))))) h)) h)) ∧ (¬ (hI h 79 6 ≤ x9) → ((0 ≤ x9 ∧ x9 < 12) ∧ w_X8_idIn b6 (hI h 82 x9.toNat) (fun x34 => rg x34 → (∃ J35 : Prop, (J35 → (∃ J37 : Int → Prop, (∀ (x36 : Int), rg x36 → J37 x36 → (∀ x38 : Int, x38 = ior x8 x36 → rg x38 → ∀ x39 : Int, x39 = wr (x9 + 1) → rg x39 → (I11 x38 x39 ∧ m11 x38 x39 < m11 x8 x9))) ∧ ((x34 = (-1) → (J37 0)) ∧ (¬ (x34 = (-1)) → ((0 ≤ x34 ∧ x34 < 40) ∧ J37 (hI h 15 x34.toNat)))))) ∧ ((x34 = (-1) → J35) ∧ (¬ (x34 = (-1)) → ((0 ≤ x34 ∧ x34 < 40) ∧ ((iand x8 (hI h 15 x34.toNat) = 0 → J35) ∧ (¬ (iand x8 (hI h 15 x34.toNat) = 0) → (w_X2_failedBy 2 (hI h 82 x9.toNat) p1 (fun b43 h44 => HT h44 → HX h h44 → (K b43 h44)) h)))))))) h))))))) h)) h)) h)
set_option maxHeartbeats 4000000 in
theorem a_X2_afterStep {sc : Nat × (Nat → Int32)} {goal : XO → XH → Prop} {fs : List XF} {h : XH} (p0 : BitVec 64) (p1 : Int) {K : BitVec 64 → XH → Prop} (hd : fs.length + 3 ≤ 1000) (rp1 : rg p1) (w : w_X2_afterStep p0 p1 K h) (t0 : HT h) (k : ∀ (r : BitVec 64) (h1 : XH), HT h1 → HX h h1 → K r h1 → XFin xP sc goal fs (.inl (some (.long (G r)))) h1) : RR sc goal fs 338 0 [some (rv 79), some (.long (G p0)), none, some (.int (J p1)), none, none, none, none, none, none, none, none, none] [] h := by
  unfold w_X2_afterStep at w
  refine r_aldn (pc1 := 1) rfl rfl rfl ?_
  refine r_gfC (pc1 := 4) (q := 8) rfl rfl rfl t0 (lyk t0 rfl) rfl rfl (lyR t0 rfl rfl) ?_
  refine r_iv rfl rfl rfl rfl rfl rfl t0 (lyk t0 rfl) rfl (xe_of (xa_r xa_0) rfl rfl) (r_d0 hd rfl) (a_X11_atHand  (r_d1 hd rfl)  w t0 (fun a1 w => ?_))
  refine r_fR (pc1 := 7) rfl ?_
  obtain ⟨c2, w⟩ := w
  refine r_gfL (pc1 := 10) rfl rfl rfl t0 c2 rfl rfl ?_
  refine r_vL (fun b3 eb3 => ?_)
  have w := w b3 eb3
  refine r_lst (pc1 := 12) (ls1 := [some (rv 79), some (.long (G p0)), none, some (.int (J p1)), some (.long (G b3)), none, none, none, none, none, none, none, none]) rfl rfl rfl rfl ?_
  refine r_aldn (pc1 := 13) rfl rfl rfl ?_
  refine r_n (pc1 := 14) [.long (G p0), rv 79] _ rfl rfl ?_
  refine r_n (pc1 := 16) [.long (G b3), .long (G p0), rv 79] _ rfl rfl ?_
  refine r_aldn (pc1 := 17) rfl rfl rfl ?_
  refine r_gfC (pc1 := 20) (q := 85) rfl rfl rfl t0 (lyk t0 rfl) rfl rfl (lyR t0 rfl rfl) ?_
  refine r_n (pc1 := 21) [.int (J p1), rv 85, .long (G b3), .long (G p0), rv 79] _ rfl rfl ?_
  obtain ⟨c4, w⟩ := w
  refine r_ial (pc1 := 22) rfl rfl t0 (lyk t0 rfl) rp1 c4.1 (lt_len (lyn t0 rfl) c4.2) ?_
  refine r_iv rfl rfl rfl rfl rfl rfl t0 (lyk t0 rfl) rfl (xe_of (xa_r (xa_l (xa_l (xa_i xa_0)))) rfl rfl) (r_d0 hd rfl) (a_X2_moved p0 b3 (hI h 85 p1.toNat) (r_d1 hd rfl) (rgh _ _ _) w t0 (fun b5 w => ?_))
  refine r_fL (pc1 := 25) rfl ?_
  refine r_lst (pc1 := 27) (ls1 := [some (rv 79), some (.long (G p0)), none, some (.int (J p1)), some (.long (G b3)), none, some (.long (G b5)), none, none, none, none, none, none]) rfl rfl rfl rfl ?_
  refine r_n (pc1 := 29) [.long (G b5)] _ rfl rfl ?_
  refine r_n (pc1 := 30) [.long (G p0), .long (G b5)] _ rfl rfl ?_
  refine r_n (pc1 := 33) [.long (G (18446744073709551615#64)), .long (G p0), .long (G b5)] _ rfl rfl ?_
  refine r_lxor (pc1 := 34) rfl rfl ?_
  refine r_land (pc1 := 35) rfl rfl ?_
  refine r_n (pc1 := 38) [.long (G (1099511627775#64)), .long (G (b5 &&& (p0 ^^^ (18446744073709551615#64))))] _ rfl rfl ?_
  refine r_land (pc1 := 39) rfl rfl ?_
  refine r_vL (fun b6 eb6 => ?_)
  have w := w b6 eb6
  refine r_lst (pc1 := 41) (ls1 := [some (rv 79), some (.long (G p0)), none, some (.int (J p1)), some (.long (G b3)), none, some (.long (G b5)), none, some (.long (G b6)), none, none, none, none]) rfl rfl rfl rfl ?_
  refine r_aldn (pc1 := 42) rfl rfl rfl ?_
  refine r_n (pc1 := 43) [.long (G p0), rv 79] _ rfl rfl ?_
  refine r_n (pc1 := 45) [.long (G b5), .long (G p0), rv 79] _ rfl rfl ?_
  refine r_land (pc1 := 46) rfl rfl ?_
  refine r_iv rfl rfl rfl rfl rfl rfl t0 (lyk t0 rfl) rfl (xe_of (xa_r (xa_l xa_0)) rfl rfl) (r_d0 hd rfl) (a_X2_filesOf (p0 &&& b5) (r_d1 hd rfl)  w t0 (fun x7 rx7 w => ?_))
  refine r_fI (pc1 := 49) rfl ?_
  have w := w rx7
  refine r_ist (pc1 := 51) (ls1 := [some (rv 79), some (.long (G p0)), none, some (.int (J p1)), some (.long (G b3)), none, some (.long (G b5)), none, some (.long (G b6)), none, some (.int (J x7)), none, none]) rfl rfl rfl rfl ?_
  refine r_n (pc1 := 52) [.int (J 0)] _ rfl rfl ?_
  refine r_ist (pc1 := 54) (ls1 := [some (rv 79), some (.long (G p0)), none, some (.int (J p1)), some (.long (G b3)), none, some (.long (G b5)), none, some (.long (G b6)), none, some (.int (J x7)), some (.int (J 0)), none]) rfl rfl rfl rfl ?_
  obtain ⟨I11, m11, w, y11⟩ := w
  have Q11 : ∀ (n : Nat) (d10 : Option Value) (x8 : Int) (x9 : Int), rg x8 → rg x9 → m11 x8 x9 < n → I11 x8 x9 → RR sc goal fs 338 54 [some (rv 79), some (.long (G p0)), none, some (.int (J p1)), some (.long (G b3)), none, some (.long (G b5)), none, some (.long (G b6)), none, some (.int (J x8)), some (.int (J x9)), d10] [] h := by
    intro n
    induction n with
    | zero => intro d10 x8 x9 rx8 rx9 q11 _; exact absurd q11 (Nat.not_lt_zero _)
    | succ n ih11 =>
      intro d10 x8 x9 rx8 rx9 q11 z11
      have w := y11 x8 x9 rx8 rx9 z11
      refine r_n (pc1 := 56) [.int (J x9)] _ rfl rfl ?_
      refine r_aldn (pc1 := 57) rfl rfl rfl ?_
      refine r_gfI (pc1 := 60) rfl rfl rfl t0 (lyk t0 rfl) rfl rfl ?_
      refine r_ic (t := 148) (pc1 := 63) rfl rfl rfl rx9 (rgh _ _ _) (fun c47 => ?_) (fun c47 => ?_)
      · have w := w.1 c47
        refine r_aldn (pc1 := 149) rfl rfl rfl ?_
        refine r_gfC (pc1 := 152) (q := 9) rfl rfl rfl t0 (lyk t0 rfl) rfl rfl (lyR t0 rfl rfl) ?_
        refine r_n (pc1 := 154) [.long (G b5), rv 9] _ rfl rfl ?_
        refine r_iv rfl rfl rfl rfl rfl rfl t0 (lyk t0 rfl) rfl (xe_of (xa_r (xa_l xa_0)) rfl rfl) (r_d0 hd rfl) (a_X8_sizeOf b5 (r_d1 hd rfl)  w t0 (fun x12 rx12 w => ?_))
        refine r_fI (pc1 := 157) rfl ?_
        have w := w rx12
        refine r_aldn (pc1 := 158) rfl rfl rfl ?_
        refine r_gfC (pc1 := 161) (q := 8) rfl rfl rfl t0 (lyk t0 rfl) rfl rfl (lyR t0 rfl rfl) ?_
        refine r_iv rfl rfl rfl rfl rfl rfl t0 (lyk t0 rfl) rfl (xe_of (xa_r xa_0) rfl rfl) (r_d0 hd rfl) (a_X11_atHand  (r_d1 hd rfl)  w t0 (fun a13 w => ?_))
        refine r_fR (pc1 := 164) rfl ?_
        obtain ⟨c14, w⟩ := w
        refine r_gfI (pc1 := 167) rfl rfl rfl t0 c14 rfl rfl ?_
        refine r_ic (t := 187) (pc1 := 170) rfl rfl rfl rx12 (rgh _ _ _) (fun c32 => ?_) (fun c32 => ?_)
        · have w := w.1 c32
          refine r_n (pc1 := 188) [.int (J 0)] _ rfl rfl ?_
          refine r_ist (pc1 := 190) (ls1 := [some (rv 79), some (.long (G p0)), none, some (.int (J p1)), some (.long (G b3)), none, some (.long (G b5)), none, some (.long (G b6)), none, some (.int (J x8)), some (.int (J 0)), d10]) rfl rfl rfl rfl ?_
          obtain ⟨I18, m18, w, y18⟩ := w
          have Q18 : ∀ (n : Nat) (d15 : Option Value) (d17 : Option Value) (x16 : Int), rg x16 → m18 x16 < n → I18 x16 → RR sc goal fs 338 190 [some (rv 79), some (.long (G p0)), none, some (.int (J p1)), some (.long (G b3)), none, some (.long (G b5)), none, some (.long (G b6)), none, d15, some (.int (J x16)), d17] [] h := by
            intro n
            induction n with
            | zero => intro d15 d17 x16 rx16 q18 _; exact absurd q18 (Nat.not_lt_zero _)
            | succ n ih18 =>
              intro d15 d17 x16 rx16 q18 z18
              have w := y18 x16 rx16 z18
              refine r_n (pc1 := 192) [.int (J x16)] _ rfl rfl ?_
              refine r_aldn (pc1 := 193) rfl rfl rfl ?_
              refine r_gfI (pc1 := 196) rfl rfl rfl t0 (lyk t0 rfl) rfl rfl ?_
              refine r_ic (t := 258) (pc1 := 199) rfl rfl rfl rx16 (rgh _ _ _) (fun c28 => ?_) (fun c28 => ?_)
              · have w := w.1 c28
                refine r_n (pc1 := 260) [.long (G b5)] _ rfl rfl ?_
                exact r_retL rfl rfl rfl (k _ _ t0 (HX_refl h) w)
              · have w := w.2 c28
                refine r_aldn (pc1 := 200) rfl rfl rfl ?_
                refine r_gfC (pc1 := 203) (q := 9) rfl rfl rfl t0 (lyk t0 rfl) rfl rfl (lyR t0 rfl rfl) ?_
                refine r_n (pc1 := 205) [.long (G b6), rv 9] _ rfl rfl ?_
                refine r_aldn (pc1 := 206) rfl rfl rfl ?_
                refine r_gfC (pc1 := 209) (q := 82) rfl rfl rfl t0 (lyk t0 rfl) rfl rfl (lyR t0 rfl rfl) ?_
                refine r_n (pc1 := 211) [.int (J x16), rv 82, .long (G b6), rv 9] _ rfl rfl ?_
                obtain ⟨c19, w⟩ := w
                refine r_ial (pc1 := 212) rfl rfl t0 (lyk t0 rfl) rx16 c19.1 (lt_len (lyn t0 rfl) c19.2) ?_
                refine r_iv rfl rfl rfl rfl rfl rfl t0 (lyk t0 rfl) rfl (xe_of (xa_r (xa_l (xa_i xa_0))) rfl rfl) (r_d0 hd rfl) (a_X8_idIn b6 (hI h 82 x16.toNat) (r_d1 hd rfl) (rgh _ _ _) w t0 (fun x20 rx20 w => ?_))
                refine r_fI (pc1 := 215) rfl ?_
                have w := w rx20
                refine r_ist (pc1 := 217) (ls1 := [some (rv 79), some (.long (G p0)), none, some (.int (J p1)), some (.long (G b3)), none, some (.long (G b5)), none, some (.long (G b6)), none, d15, some (.int (J x16)), some (.int (J x20))]) rfl rfl rfl rfl ?_
                refine r_n (pc1 := 219) [.int (J x20)] _ rfl rfl ?_
                refine r_n (pc1 := 220) [.int (J (-1)), .int (J x20)] _ rfl rfl ?_
                obtain ⟨J21, j21, w⟩ := w
                have Q21 : J21 → RR sc goal fs 338 252 [some (rv 79), some (.long (G p0)), none, some (.int (J p1)), some (.long (G b3)), none, some (.long (G b5)), none, some (.long (G b6)), none, d15, some (.int (J x16)), some (.int (J x20))] [] h := by
                  intro z21
                  have w := j21 z21
                  refine r_inc (pc1 := 255) (g := fun zz => [some (rv 79), some (.long (G p0)), none, some (.int (J p1)), some (.long (G b3)), none, some (.long (G b5)), none, some (.long (G b6)), none, (dcl d15), some (.int (J zz)), some (.int (J x20))]) rfl rfl rfl rfl (fun _ => xput1_d rfl rfl) (fun x22 ex22 rx22 => ?_)
                  have w := w x22 ex22 rx22
                  refine r_goto (t := 190) rfl rfl ?_
                  exact ih18 _ _ x22  rx22 (Nat.lt_of_lt_of_le w.2 (Nat.le_of_lt_succ q18)) w.1
                refine r_ic (t := 252) (pc1 := 223) rfl rfl rfl rx20 (rgk rfl) (fun c27 => ?_) (fun c27 => ?_)
                · have w := w.1 c27
                  exact Q21     w
                · have w := w.2 c27
                  refine r_aldn (pc1 := 224) rfl rfl rfl ?_
                  refine r_gfC (pc1 := 227) (q := 9) rfl rfl rfl t0 (lyk t0 rfl) rfl rfl (lyR t0 rfl rfl) ?_
                  refine r_gfL (pc1 := 230) rfl rfl rfl t0 (lyk t0 rfl) rfl rfl ?_
                  refine r_n (pc1 := 232) [.int (J x20), .long (G (hL h 9 10))] _ rfl rfl ?_
                  refine r_iq rfl rfl rfl rfl rfl rfl (xe_of (xa_l (xa_i xa_0)) rfl rfl) (r_d0 hd rfl) (a_X12_has (hL h 9 10) x20 (r_d1 hd rfl) rx20 w t0 (fun x23 rx23 vx23 w => ?_))
                  refine r_fI (pc1 := 235) rfl ?_
                  have w := w rx23 vx23
                  refine r_iz (t := 252) (pc1 := 238) rfl rfl rfl rx23 (fun c26 => ?_) (fun c26 => ?_)
                  · have w := w.1 c26
                    exact Q21     w
                  · have w := w.2 c26
                    refine r_aldn (pc1 := 239) rfl rfl rfl ?_
                    refine r_n (pc1 := 240) [.int (J 4), rv 79] _ rfl rfl ?_
                    refine r_aldn (pc1 := 241) rfl rfl rfl ?_
                    refine r_gfC (pc1 := 244) (q := 82) rfl rfl rfl t0 (lyk t0 rfl) rfl rfl (lyR t0 rfl rfl) ?_
                    refine r_n (pc1 := 246) [.int (J x16), rv 82, .int (J 4), rv 79] _ rfl rfl ?_
                    refine r_ial (pc1 := 247) rfl rfl t0 (lyk t0 rfl) rx16 c19.1 (lt_len (lyn t0 rfl) c19.2) ?_
                    refine r_n (pc1 := 248) [.int (J p1), .int (J (hI h 82 x16.toNat)), .int (J 4), rv 79] _ rfl rfl ?_
                    refine r_iv rfl rfl rfl rfl rfl rfl t0 (lyk t0 rfl) rfl (xe_of (xa_r (xa_i (xa_i (xa_i xa_0)))) rfl rfl) (r_d0 hd rfl) (a_X2_failedBy 4 (hI h 82 x16.toNat) p1 (r_d1 hd rfl) (rgk rfl) (rgh _ _ _) rp1 w t0 (fun b24 h25 t25 u25 w => ?_))
                    refine r_fL (pc1 := 251) rfl ?_
                    have s25 := HX_trans (HX_refl h) u25
                    have w := w t25 u25
                    exact r_retL rfl rfl rfl (k _ _ t25 s25 w)
          exact Q18 _ _ _ 0  (rgk rfl) (Nat.lt_succ_self _) w
        · have w := w.2 c32
          refine r_aldn (pc1 := 171) rfl rfl rfl ?_
          refine r_n (pc1 := 172) [.int (J 3), rv 79] _ rfl rfl ?_
          refine r_aldn (pc1 := 173) rfl rfl rfl ?_
          refine r_aldn (pc1 := 174) rfl rfl rfl ?_
          refine r_gfC (pc1 := 177) (q := 85) rfl rfl rfl t0 (lyk t0 rfl) rfl rfl (lyR t0 rfl rfl) ?_
          refine r_n (pc1 := 178) [.int (J p1), rv 85, rv 79, .int (J 3), rv 79] _ rfl rfl ?_
          refine r_ial (pc1 := 179) rfl rfl t0 (lyk t0 rfl) rp1 c4.1 (lt_len (lyn t0 rfl) c4.2) ?_
          refine r_iv rfl rfl rfl rfl rfl rfl t0 (lyk t0 rfl) rfl (xe_of (xa_r (xa_i xa_0)) rfl rfl) (r_d0 hd rfl) (a_X2_greatestOf (hI h 85 p1.toNat) (r_d1 hd rfl) (rgh _ _ _) w t0 (fun x29 rx29 w => ?_))
          refine r_fI (pc1 := 182) rfl ?_
          have w := w rx29
          refine r_n (pc1 := 183) [.int (J p1), .int (J x29), .int (J 3), rv 79] _ rfl rfl ?_
          refine r_iv rfl rfl rfl rfl rfl rfl t0 (lyk t0 rfl) rfl (xe_of (xa_r (xa_i (xa_i (xa_i xa_0)))) rfl rfl) (r_d0 hd rfl) (a_X2_failedBy 3 x29 p1 (r_d1 hd rfl) (rgk rfl) rx29 rp1 w t0 (fun b30 h31 t31 u31 w => ?_))
          refine r_fL (pc1 := 186) rfl ?_
          have s31 := HX_trans (HX_refl h) u31
          have w := w t31 u31
          exact r_retL rfl rfl rfl (k _ _ t31 s31 w)
      · have w := w.2 c47
        refine r_aldn (pc1 := 64) rfl rfl rfl ?_
        refine r_gfC (pc1 := 67) (q := 9) rfl rfl rfl t0 (lyk t0 rfl) rfl rfl (lyR t0 rfl rfl) ?_
        refine r_n (pc1 := 69) [.long (G b6), rv 9] _ rfl rfl ?_
        refine r_aldn (pc1 := 70) rfl rfl rfl ?_
        refine r_gfC (pc1 := 73) (q := 82) rfl rfl rfl t0 (lyk t0 rfl) rfl rfl (lyR t0 rfl rfl) ?_
        refine r_n (pc1 := 75) [.int (J x9), rv 82, .long (G b6), rv 9] _ rfl rfl ?_
        obtain ⟨c33, w⟩ := w
        refine r_ial (pc1 := 76) rfl rfl t0 (lyk t0 rfl) rx9 c33.1 (lt_len (lyn t0 rfl) c33.2) ?_
        refine r_iv rfl rfl rfl rfl rfl rfl t0 (lyk t0 rfl) rfl (xe_of (xa_r (xa_l (xa_i xa_0))) rfl rfl) (r_d0 hd rfl) (a_X8_idIn b6 (hI h 82 x9.toNat) (r_d1 hd rfl) (rgh _ _ _) w t0 (fun x34 rx34 w => ?_))
        refine r_fI (pc1 := 79) rfl ?_
        have w := w rx34
        refine r_ist (pc1 := 81) (ls1 := [some (rv 79), some (.long (G p0)), none, some (.int (J p1)), some (.long (G b3)), none, some (.long (G b5)), none, some (.long (G b6)), none, some (.int (J x8)), some (.int (J x9)), some (.int (J x34))]) rfl rfl rfl rfl ?_
        refine r_n (pc1 := 83) [.int (J x34)] _ rfl rfl ?_
        refine r_n (pc1 := 84) [.int (J (-1)), .int (J x34)] _ rfl rfl ?_
        obtain ⟨J35, j35, w⟩ := w
        have Q35 : J35 → RR sc goal fs 338 117 [some (rv 79), some (.long (G p0)), none, some (.int (J p1)), some (.long (G b3)), none, some (.long (G b5)), none, some (.long (G b6)), none, some (.int (J x8)), some (.int (J x9)), some (.int (J x34))] [] h := by
          intro z35
          have w := j35 z35
          refine r_n (pc1 := 119) [.int (J x8)] _ rfl rfl ?_
          refine r_n (pc1 := 121) [.int (J x34), .int (J x8)] _ rfl rfl ?_
          refine r_n (pc1 := 122) [.int (J (-1)), .int (J x34), .int (J x8)] _ rfl rfl ?_
          obtain ⟨J37, j37, w⟩ := w
          have Q37 : ∀ (x36 : Int), rg x36 → J37 x36 → RR sc goal fs 338 139 [some (rv 79), some (.long (G p0)), none, some (.int (J p1)), some (.long (G b3)), none, some (.long (G b5)), none, some (.long (G b6)), none, some (.int (J x8)), some (.int (J x9)), some (.int (J x34))] [.int (J x36), .int (J x8)] h := by
            intro x36 rx36 z37
            have w := j37 x36 rx36 z37
            refine r_ior (pc1 := 140) rfl rfl ?_
            refine r_vI (rgt _) (fun x38 ex38 rx38 => ?_)
            have w := w x38 ex38 rx38
            refine r_ist (pc1 := 142) (ls1 := [some (rv 79), some (.long (G p0)), none, some (.int (J p1)), some (.long (G b3)), none, some (.long (G b5)), none, some (.long (G b6)), none, some (.int (J x38)), some (.int (J x9)), some (.int (J x34))]) rfl rfl rfl rfl ?_
            refine r_inc (pc1 := 145) (g := fun zz => [some (rv 79), some (.long (G p0)), none, some (.int (J p1)), some (.long (G b3)), none, some (.long (G b5)), none, some (.long (G b6)), none, some (.int (J x38)), some (.int (J zz)), some (.int (J x34))]) rfl rfl rfl rfl (fun _ => rfl) (fun x39 ex39 rx39 => ?_)
            have w := w x39 ex39 rx39
            refine r_goto (t := 54) rfl rfl ?_
            exact ih11 _ x38 x39  rx38 rx39 (Nat.lt_of_lt_of_le w.2 (Nat.le_of_lt_succ q11)) w.1
          refine r_ic (t := 138) (pc1 := 125) rfl rfl rfl rx34 (rgk rfl) (fun c41 => ?_) (fun c41 => ?_)
          · have w := w.1 c41
            refine r_n (pc1 := 139) [.int (J 0), .int (J x8)] _ rfl rfl ?_
            exact Q37  0  (rgk rfl) w
          · have w := w.2 c41
            refine r_aldn (pc1 := 126) rfl rfl rfl ?_
            refine r_gfC (pc1 := 129) (q := 9) rfl rfl rfl t0 (lyk t0 rfl) rfl rfl (lyR t0 rfl rfl) ?_
            refine r_gfC (pc1 := 132) (q := 15) rfl rfl rfl t0 (lyk t0 rfl) rfl rfl (lyR t0 rfl rfl) ?_
            refine r_n (pc1 := 134) [.int (J x34), rv 15, .int (J x8)] _ rfl rfl ?_
            obtain ⟨c40, w⟩ := w
            refine r_ial (pc1 := 135) rfl rfl t0 (lyk t0 rfl) rx34 c40.1 (lt_len (lyn t0 rfl) c40.2) ?_
            refine r_goto (t := 139) rfl rfl ?_
            exact Q37  (hI h 15 x34.toNat)  (rgh _ _ _) w
        refine r_ic (t := 117) (pc1 := 87) rfl rfl rfl rx34 (rgk rfl) (fun c46 => ?_) (fun c46 => ?_)
        · have w := w.1 c46
          exact Q35     w
        · have w := w.2 c46
          refine r_n (pc1 := 89) [.int (J x8)] _ rfl rfl ?_
          refine r_aldn (pc1 := 90) rfl rfl rfl ?_
          refine r_gfC (pc1 := 93) (q := 9) rfl rfl rfl t0 (lyk t0 rfl) rfl rfl (lyR t0 rfl rfl) ?_
          refine r_gfC (pc1 := 96) (q := 15) rfl rfl rfl t0 (lyk t0 rfl) rfl rfl (lyR t0 rfl rfl) ?_
          refine r_n (pc1 := 98) [.int (J x34), rv 15, .int (J x8)] _ rfl rfl ?_
          obtain ⟨c42, w⟩ := w
          refine r_ial (pc1 := 99) rfl rfl t0 (lyk t0 rfl) rx34 c42.1 (lt_len (lyn t0 rfl) c42.2) ?_
          refine r_iand (pc1 := 100) rfl rfl ?_
          refine r_iz (t := 117) (pc1 := 103) rfl rfl rfl (rgt _) (fun c45 => ?_) (fun c45 => ?_)
          · have w := w.1 c45
            exact Q35     w
          · have w := w.2 c45
            refine r_aldn (pc1 := 104) rfl rfl rfl ?_
            refine r_n (pc1 := 105) [.int (J 2), rv 79] _ rfl rfl ?_
            refine r_aldn (pc1 := 106) rfl rfl rfl ?_
            refine r_gfC (pc1 := 109) (q := 82) rfl rfl rfl t0 (lyk t0 rfl) rfl rfl (lyR t0 rfl rfl) ?_
            refine r_n (pc1 := 111) [.int (J x9), rv 82, .int (J 2), rv 79] _ rfl rfl ?_
            refine r_ial (pc1 := 112) rfl rfl t0 (lyk t0 rfl) rx9 c33.1 (lt_len (lyn t0 rfl) c33.2) ?_
            refine r_n (pc1 := 113) [.int (J p1), .int (J (hI h 82 x9.toNat)), .int (J 2), rv 79] _ rfl rfl ?_
            refine r_iv rfl rfl rfl rfl rfl rfl t0 (lyk t0 rfl) rfl (xe_of (xa_r (xa_i (xa_i (xa_i xa_0)))) rfl rfl) (r_d0 hd rfl) (a_X2_failedBy 2 (hI h 82 x9.toNat) p1 (r_d1 hd rfl) (rgk rfl) (rgh _ _ _) rp1 w t0 (fun b43 h44 t44 u44 w => ?_))
            refine r_fL (pc1 := 116) rfl ?_
            have s44 := HX_trans (HX_refl h) u44
            have w := w t44 u44
            exact r_retL rfl rfl rfl (k _ _ t44 s44 w)
  exact Q11 _ _ x7 0  rx7 (rgk rfl) (Nat.lt_succ_self _) w
def w_X6_keepEntry (t : Nat) (K : XH → Prop) (h : XH) : Prop :=
  (w_J9_floorMod_7cf53 (hI h t 7) 20 (fun x1 => rg x1 → ((0 ≤ x1 ∧ x1 < 20) ∧ ∀ h3 : XH, h3 = sL h (t + 3) x1.toNat (hL h t 6) → HT h3 → HX h h3 → ∀ h4 : XH, h4 = sI h3 t 7 (wr ((hI h3 t 7) + 1)) → HT h4 → HX h3 h4 → K h4)) h)
set_option maxHeartbeats 4000000 in
theorem a_X6_keepEntry {sc : Nat × (Nat → Int32)} {goal : XO → XH → Prop} {fs : List XF} {h : XH} (t : Nat) {K : XH → Prop} (hd : fs.length + 1 ≤ 1000) (c0 : hk h t = 7) (w : w_X6_keepEntry t K h) (t0 : HT h) (k : ∀ (h1 : XH), HT h1 → HX h h1 → K h1 → XFin xP sc goal fs (.inl none) h1) : RR sc goal fs 418 0 [some (rv t)] [] h := by
  unfold w_X6_keepEntry at w
  refine r_aldn (pc1 := 1) rfl rfl rfl ?_
  refine r_gfC (pc1 := 4) (q := (t + 3)) rfl rfl rfl t0 (HXk (HX_refl h) c0 rfl) rfl rfl (lyr_7_8 t0 (HXk (HX_refl h) c0 rfl)) ?_
  refine r_aldn (pc1 := 5) rfl rfl rfl ?_
  refine r_gfI (pc1 := 8) rfl rfl rfl t0 (HXk (HX_refl h) c0 rfl) rfl rfl ?_
  refine r_n (pc1 := 10) [.int (J 20), .int (J (hI h t 7)), rv (t + 3)] _ rfl rfl ?_
  refine r_iq rfl rfl rfl rfl rfl rfl (xe_of (xa_i (xa_i xa_0)) rfl rfl) (r_d0 hd rfl) (a_J9_floorMod_7cf53 (hI h t 7) 20 (r_d1 hd rfl) (rgh _ _ _) (rgk rfl) w t0 (fun x1 rx1 w => ?_))
  refine r_fI (pc1 := 13) rfl ?_
  have w := w rx1
  refine r_aldn (pc1 := 14) rfl rfl rfl ?_
  refine r_gfL (pc1 := 17) rfl rfl rfl t0 (HXk (HX_refl h) c0 rfl) rfl rfl ?_
  obtain ⟨c2, w⟩ := w
  refine r_last (pc1 := 18) rfl rfl t0 (lyo_7_8 t0 (HXk (HX_refl h) c0 rfl)).1 rx1 c2.1 (lt_len (lyo_7_8 t0 (HXk (HX_refl h) c0 rfl)).2 c2.2) (fun h3 eh3 t3 u3 => ?_)
  have w := w h3 eh3 t3 u3
  have s3 := HX_trans (HX_refl h) u3
  refine r_aldn (pc1 := 19) rfl rfl rfl ?_
  refine r_dupR (pc1 := 20) rfl rfl ?_
  refine r_gfI (pc1 := 23) rfl rfl rfl t3 (HXk s3 c0 rfl) rfl rfl ?_
  refine r_n (pc1 := 24) [.int (J 1), .int (J (hI h3 t 7)), rv t] _ rfl rfl ?_
  refine r_iadd (pc1 := 25) rfl rfl ?_
  refine r_pfI (pc1 := 28) rfl rfl rfl t3 (HXk s3 c0 rfl) rfl rfl rfl (fun h4 eh4 t4 u4 => ?_)
  have w := w h4 eh4 t4 u4
  have s4 := HX_trans s3 u4
  exact r_retV rfl rfl rfl (k _ t4 s4 w)
def w_X2_run  (K : Int → XH → Prop) (h : XH) : Prop :=
  (w_X11_atHand (fun a1 => (hk h a1 = 7 ∧ w_X6_tellFailure a1 (-1) (-1) (-1) (fun h3 => HT h3 → HX h h3 → (w_X2_arrange (hL h3 a1 5) (fun h4 => HT h4 → HX h3 h4 → (((hI h4 79 7 = 0 → (w_X2_isAllFetched (fun x5 h6 => HT h6 → HX h4 h6 → rg x5 → (x5 = 0 ∨ x5 = 1) → (((¬ x5 = 0 → (w_X2_findSteps (fun h7 => HT h7 → HX h6 h7 → (∀ b8 : BitVec 64, b8 = hL h7 a1 6 → (∃ (I12 : BitVec 64 → Int → XH → Prop) (m12 : BitVec 64 → Int → XH → Nat), I12 b8 0 h7 ∧ ∀ (b9 : BitVec 64) (x10 : Int) (h11 : XH), HT h11 → HX h h11 → rg x10 → I12 b9 x10 h11 → (∃ J13 : Prop, (J13 → (((¬ b9 = (4611686018427387904#64) → (hk h11 a1 = 7 ∧ ∀ h15 : XH, h15 = sL h11 a1 6 (hL h11 a1 5) → HT h15 → HX h11 h15 → w_X6_keepEntry a1 (fun h16 => HT h16 → HX h15 h16 → (K (hI h16 79 11) h16)) h15)) ∧ (¬ (¬ b9 = (4611686018427387904#64)) → (K (-1) h11))))) ∧ ((hI h11 79 11 ≤ x10 → J13) ∧ (¬ (hI h11 79 11 ≤ x10) → (((b9 = (4611686018427387904#64) → J13) ∧ (¬ (b9 = (4611686018427387904#64)) → (w_X2_afterStep b9 x10 (fun b18 h19 => HT h19 → HX h11 h19 → (∀ x20 : Int, x20 = wr (x10 + 1) → rg x20 → (I12 b18 x20 h19 ∧ m12 b18 x20 h19 < m12 b9 x10 h11))) h11)))))))))) h6)) ∧ (¬ (¬ x5 = 0) → (K (-1) h6))))) h4)) ∧ (¬ (hI h4 79 7 = 0) → (w_X6_tellFailure a1 0 (hI h4 82 0) (-1) (fun h24 => HT h24 → HX h4 h24 → (K (-1) h24)) h4))))) h3)) h)) h)
set_option maxHeartbeats 4000000 in
theorem a_X2_run {sc : Nat × (Nat → Int32)} {goal : XO → XH → Prop} {fs : List XF} {h : XH}  {K : Int → XH → Prop} (hd : fs.length + 6 ≤ 1000) (w : w_X2_run  K h) (t0 : HT h) (k : ∀ (r : Int) (h1 : XH), HT h1 → HX h h1 → rg r → K r h1 → XFin xP sc goal fs (.inl (some (.int (J r)))) h1) : RR sc goal fs 359 0 [some (rv 79), none, none, none, none] [] h := by
  unfold w_X2_run at w
  refine r_aldn (pc1 := 1) rfl rfl rfl ?_
  refine r_gfC (pc1 := 4) (q := 8) rfl rfl rfl t0 (lyk t0 rfl) rfl rfl (lyR t0 rfl rfl) ?_
  refine r_iv rfl rfl rfl rfl rfl rfl t0 (lyk t0 rfl) rfl (xe_of (xa_r xa_0) rfl rfl) (r_d0 hd rfl) (a_X11_atHand  (r_d1 hd rfl)  w t0 (fun a1 w => ?_))
  refine r_fR (pc1 := 7) rfl ?_
  refine r_astn (pc1 := 8) (ls1 := [some (rv 79), some (rv a1), none, none, none]) rfl rfl rfl rfl ?_
  refine r_aldn (pc1 := 9) rfl rfl rfl ?_
  refine r_n (pc1 := 10) [.int (J (-1)), rv a1] _ rfl rfl ?_
  refine r_n (pc1 := 11) [.int (J (-1)), .int (J (-1)), rv a1] _ rfl rfl ?_
  refine r_n (pc1 := 12) [.int (J (-1)), .int (J (-1)), .int (J (-1)), rv a1] _ rfl rfl ?_
  obtain ⟨c2, w⟩ := w
  refine r_iv rfl rfl rfl rfl rfl rfl t0 c2 rfl (xe_of (xa_r (xa_i (xa_i (xa_i xa_0)))) rfl rfl) (r_d0 hd rfl) (a_X6_tellFailure a1 (-1) (-1) (-1) (r_d1 hd rfl) c2 (rgk rfl) (rgk rfl) (rgk rfl) w t0 (fun h3 t3 u3 w => ?_))
  refine r_fV (pc1 := 15) rfl ?_
  have s3 := HX_trans (HX_refl h) u3
  have w := w t3 u3
  refine r_aldn (pc1 := 16) rfl rfl rfl ?_
  refine r_aldn (pc1 := 17) rfl rfl rfl ?_
  refine r_gfL (pc1 := 20) rfl rfl rfl t3 (HXk u3 c2 rfl) rfl rfl ?_
  refine r_iv rfl rfl rfl rfl rfl rfl t3 (lyk t3 rfl) rfl (xe_of (xa_r (xa_l xa_0)) rfl rfl) (r_d0 hd rfl) (a_X2_arrange (hL h3 a1 5) (r_d1 hd rfl)  w t3 (fun h4 t4 u4 w => ?_))
  refine r_fV (pc1 := 23) rfl ?_
  have s4 := HX_trans s3 u4
  have w := w t4 u4
  refine r_aldn (pc1 := 24) rfl rfl rfl ?_
  refine r_gfI (pc1 := 27) rfl rfl rfl t4 (lyk t4 rfl) rfl rfl ?_
  refine r_iz (t := 44) (pc1 := 30) rfl rfl rfl (rgh _ _ _) (fun c25 => ?_) (fun c25 => ?_)
  · have w := w.1 c25
    refine r_aldn (pc1 := 45) rfl rfl rfl ?_
    refine r_iv rfl rfl rfl rfl rfl rfl t4 (lyk t4 rfl) rfl (xe_of (xa_r xa_0) rfl rfl) (r_d0 hd rfl) (a_X2_isAllFetched  (r_d1 hd rfl)  w t4 (fun x5 h6 t6 u6 rx5 vx5 w => ?_))
    refine r_fI (pc1 := 48) rfl ?_
    have s6 := HX_trans s4 u6
    have w := w t6 u6
    have w := w rx5 vx5
    refine r_iz (t := 53) (pc1 := 51) rfl rfl rfl rx5 (fun c23 => ?_) (fun c23 => ?_)
    · have w := w.1 c23
      refine r_aldn (pc1 := 54) rfl rfl rfl ?_
      refine r_iv rfl rfl rfl rfl rfl rfl t6 (lyk t6 rfl) rfl (xe_of (xa_r xa_0) rfl rfl) (r_d0 hd rfl) (a_X2_findSteps  (r_d1 hd rfl)  w t6 (fun h7 t7 u7 w => ?_))
      refine r_fV (pc1 := 57) rfl ?_
      have s7 := HX_trans s6 u7
      have w := w t7 u7
      refine r_aldn (pc1 := 58) rfl rfl rfl ?_
      refine r_gfL (pc1 := 61) rfl rfl rfl t7 (HXk u7 (HXk u6 (HXk u4 (HXk u3 c2 rfl) rfl) rfl) rfl) rfl rfl ?_
      refine r_vL (fun b8 eb8 => ?_)
      have w := w b8 eb8
      refine r_lstn (pc1 := 62) (ls1 := [some (rv 79), some (rv a1), some (.long (G b8)), none, none]) rfl rfl rfl (xput2_rv rfl rfl) ?_
      refine r_n (pc1 := 63) [.int (J 0)] _ rfl rfl ?_
      refine r_ist (pc1 := 65) (ls1 := [some (rv 79), some (rv a1), some (.long (G b8)), none, some (.int (J 0))]) rfl rfl rfl rfl ?_
      obtain ⟨I12, m12, w, y12⟩ := w
      have Q12 : ∀ (n : Nat)  (b9 : BitVec 64) (x10 : Int) (h11 : XH), HT h11 → HX h h11 → rg x10 → m12 b9 x10 h11 < n → I12 b9 x10 h11 → RR sc goal fs 359 65 [some (rv 79), some (rv a1), some (.long (G b9)), none, some (.int (J x10))] [] h11 := by
        intro n
        induction n with
        | zero => intro b9 x10 h11 t11 s11 rx10 q12 _; exact absurd q12 (Nat.not_lt_zero _)
        | succ n ih12 =>
          intro b9 x10 h11 t11 s11 rx10 q12 z12
          have w := y12 b9 x10 h11 t11 s11 rx10 z12
          refine r_n (pc1 := 67) [.int (J x10)] _ rfl rfl ?_
          refine r_aldn (pc1 := 68) rfl rfl rfl ?_
          refine r_gfI (pc1 := 71) rfl rfl rfl t11 (lyk t11 rfl) rfl rfl ?_
          obtain ⟨J13, j13, w⟩ := w
          have Q13 : J13 → RR sc goal fs 359 96 [some (rv 79), some (rv a1), some (.long (G b9)), none, some (.int (J x10))] [] h11 := by
            intro z13
            have w := j13 z13
            refine r_n (pc1 := 97) [.long (G b9)] _ rfl rfl ?_
            refine r_n (pc1 := 100) [.long (G (4611686018427387904#64)), .long (G b9)] _ rfl rfl ?_
            refine r_lc (pc2 := 101) (t := 106) (pc1 := 104) rfl rfl rfl rfl rfl (fun c17 => ?_) (fun c17 => ?_)
            · have w := w.1 c17
              refine r_aldn (pc1 := 107) rfl rfl rfl ?_
              refine r_aldn (pc1 := 108) rfl rfl rfl ?_
              obtain ⟨c14, w⟩ := w
              refine r_gfL (pc1 := 111) rfl rfl rfl t11 c14 rfl rfl ?_
              refine r_pfL (pc1 := 114) rfl rfl rfl t11 c14 rfl rfl rfl (fun h15 eh15 t15 u15 => ?_)
              have w := w h15 eh15 t15 u15
              have s15 := HX_trans s11 u15
              refine r_aldn (pc1 := 115) rfl rfl rfl ?_
              refine r_iv rfl rfl rfl rfl rfl rfl t15 (HXk u15 c14 rfl) rfl (xe_of (xa_r xa_0) rfl rfl) (r_d0 hd rfl) (a_X6_keepEntry a1 (r_d1 hd rfl) (HXk u15 c14 rfl)  w t15 (fun h16 t16 u16 w => ?_))
              refine r_fV (pc1 := 118) rfl ?_
              have s16 := HX_trans s15 u16
              have w := w t16 u16
              refine r_aldn (pc1 := 119) rfl rfl rfl ?_
              refine r_gfI (pc1 := 122) rfl rfl rfl t16 (lyk t16 rfl) rfl rfl ?_
              exact r_retI rfl rfl rfl (k _ _ t16 s16 (rgh _ _ _) w)
            · have w := w.2 c17
              refine r_n (pc1 := 105) [.int (J (-1))] _ rfl rfl ?_
              exact r_retI rfl rfl rfl (k _ _ t11 s11 (rgk rfl) w)
          refine r_ic (t := 96) (pc1 := 74) rfl rfl rfl rx10 (rgh _ _ _) (fun c22 => ?_) (fun c22 => ?_)
          · have w := w.1 c22
            exact Q13     w
          · have w := w.2 c22
            refine r_n (pc1 := 75) [.long (G b9)] _ rfl rfl ?_
            refine r_n (pc1 := 78) [.long (G (4611686018427387904#64)), .long (G b9)] _ rfl rfl ?_
            refine r_lc (pc2 := 79) (t := 96) (pc1 := 82) rfl rfl rfl rfl rfl (fun c21 => ?_) (fun c21 => ?_)
            · have w := w.1 c21
              exact Q13     w
            · have w := w.2 c21
              refine r_aldn (pc1 := 83) rfl rfl rfl ?_
              refine r_n (pc1 := 84) [.long (G b9), rv 79] _ rfl rfl ?_
              refine r_n (pc1 := 86) [.int (J x10), .long (G b9), rv 79] _ rfl rfl ?_
              refine r_iv rfl rfl rfl rfl rfl rfl t11 (lyk t11 rfl) rfl (xe_of (xa_r (xa_l (xa_i xa_0))) rfl rfl) (r_d0 hd rfl) (a_X2_afterStep b9 x10 (r_d1 hd rfl) rx10 w t11 (fun b18 h19 t19 u19 w => ?_))
              refine r_fL (pc1 := 89) rfl ?_
              have s19 := HX_trans s11 u19
              have w := w t19 u19
              refine r_lstn (pc1 := 90) (ls1 := [some (rv 79), some (rv a1), some (.long (G b18)), none, some (.int (J x10))]) rfl rfl rfl (xput2_rv rfl rfl) ?_
              refine r_inc (pc1 := 93) (g := fun zz => [some (rv 79), some (rv a1), some (.long (G b18)), none, some (.int (J zz))]) rfl rfl rfl rfl (fun _ => rfl) (fun x20 ex20 rx20 => ?_)
              have w := w x20 ex20 rx20
              refine r_goto (t := 65) rfl rfl ?_
              exact ih12  b18 x20 h19 t19 s19 rx20 (Nat.lt_of_lt_of_le w.2 (Nat.le_of_lt_succ q12)) w.1
      exact Q12 _  b8 0 h7 t7 s7 (rgk rfl) (Nat.lt_succ_self _) w
    · have w := w.2 c23
      refine r_n (pc1 := 52) [.int (J (-1))] _ rfl rfl ?_
      exact r_retI rfl rfl rfl (k _ _ t6 s6 (rgk rfl) w)
  · have w := w.2 c25
    refine r_aldn (pc1 := 31) rfl rfl rfl ?_
    refine r_n (pc1 := 32) [.int (J 0), rv a1] _ rfl rfl ?_
    refine r_aldn (pc1 := 33) rfl rfl rfl ?_
    refine r_gfC (pc1 := 36) (q := 82) rfl rfl rfl t4 (lyk t4 rfl) rfl rfl (lyR t4 rfl rfl) ?_
    refine r_n (pc1 := 37) [.int (J 0), rv 82, .int (J 0), rv a1] _ rfl rfl ?_
    refine r_ial (pc1 := 38) rfl rfl t4 (lyk t4 rfl) (rgk rfl) (by decide) (lt_len (lyn t4 rfl) (by decide)) ?_
    refine r_n (pc1 := 39) [.int (J (-1)), .int (J (hI h4 82 0)), .int (J 0), rv a1] _ rfl rfl ?_
    refine r_iv rfl rfl rfl rfl rfl rfl t4 (HXk u4 (HXk u3 c2 rfl) rfl) rfl (xe_of (xa_r (xa_i (xa_i (xa_i xa_0)))) rfl rfl) (r_d0 hd rfl) (a_X6_tellFailure a1 0 (hI h4 82 0) (-1) (r_d1 hd rfl) (HXk u4 (HXk u3 c2 rfl) rfl) (rgk rfl) (rgh _ _ _) (rgk rfl) w t4 (fun h24 t24 u24 w => ?_))
    refine r_fV (pc1 := 42) rfl ?_
    have s24 := HX_trans s4 u24
    have w := w t24 u24
    refine r_n (pc1 := 43) [.int (J (-1))] _ rfl rfl ?_
    exact r_retI rfl rfl rfl (k _ _ t24 s24 (rgk rfl) w)
def w_X12_install  (K : Int → XH → Prop) (E : Nat → XH → Prop) (h : XH) : Prop :=
  (w_X12_checkGoalSound (fun h1 => HT h1 → HX h h1 → (w_X12_remember (fun h2 => HT h2 → HX h1 h2 → (w_X12_knowMet (fun h3 => HT h3 → HX h2 h3 → (w_X2_run (fun x4 h5 => HT h5 → HX h3 h5 → rg x4 → (K x4 h5)) h3)) h2)) h1)) E h)
set_option maxHeartbeats 4000000 in
theorem a_X12_install {sc : Nat × (Nat → Int32)} {goal : XO → XH → Prop} {fs : List XF} {h : XH}  {K : Int → XH → Prop} {E : Nat → XH → Prop} (hd : fs.length + 7 ≤ 1000) (w : w_X12_install  K E h) (t0 : HT h) (k : ∀ (r : Int) (h1 : XH), HT h1 → HX h h1 → rg r → K r h1 → XFin xP sc goal fs (.inl (some (.int (J r)))) h1) (kE : ∀ (x : Nat) (h1 : XH), HT h1 → HX h h1 → E x h1 → XFin xP sc goal fs (.inr x) h1) : RR sc goal fs 114 0 [some (rv 2)] [] h := by
  unfold w_X12_install at w
  refine r_aldn (pc1 := 1) rfl rfl rfl ?_
  refine r_iv rfl rfl rfl rfl rfl rfl t0 (lyk t0 rfl) rfl (xe_of (xa_r xa_0) rfl rfl) (r_d0 hd rfl) (a_X12_checkGoalSound  (r_d1 hd rfl)  w t0 (fun h1 t1 u1 w => ?_) (fun x y ty uy w => r_finx rfl rfl (kE x y ty (HX_trans (HX_refl h) uy) w)))
  refine r_fV (pc1 := 4) rfl ?_
  have s1 := HX_trans (HX_refl h) u1
  have w := w t1 u1
  refine r_aldn (pc1 := 5) rfl rfl rfl ?_
  refine r_iv rfl rfl rfl rfl rfl rfl t1 (lyk t1 rfl) rfl (xe_of (xa_r xa_0) rfl rfl) (r_d0 hd rfl) (a_X12_remember  (r_d1 hd rfl)  w t1 (fun h2 t2 u2 w => ?_))
  refine r_fV (pc1 := 8) rfl ?_
  have s2 := HX_trans s1 u2
  have w := w t2 u2
  refine r_aldn (pc1 := 9) rfl rfl rfl ?_
  refine r_iv rfl rfl rfl rfl rfl rfl t2 (lyk t2 rfl) rfl (xe_of (xa_r xa_0) rfl rfl) (r_d0 hd rfl) (a_X12_knowMet  (r_d1 hd rfl)  w t2 (fun h3 t3 u3 w => ?_))
  refine r_fV (pc1 := 12) rfl ?_
  have s3 := HX_trans s2 u3
  have w := w t3 u3
  refine r_aldn (pc1 := 13) rfl rfl rfl ?_
  refine r_gfC (pc1 := 16) (q := 79) rfl rfl rfl t3 (lyk t3 rfl) rfl rfl (lyR t3 rfl rfl) ?_
  refine r_iv rfl rfl rfl rfl rfl rfl t3 (lyk t3 rfl) rfl (xe_of (xa_r xa_0) rfl rfl) (r_d0 hd rfl) (a_X2_run  (r_d1 hd rfl)  w t3 (fun x4 h5 t5 u5 rx4 w => ?_))
  refine r_fI (pc1 := 19) rfl ?_
  have s5 := HX_trans s3 u5
  have w := w t5 u5
  have w := w rx4
  exact r_retI rfl rfl rfl (k _ _ t5 s5 rx4 w)
def w_L_install  (K : Int → XH → Prop) (h : XH) : Prop :=
  (w_X12_install (fun x1 h2 => HT h2 → HX h h2 → rg x1 → (∀ h5 : XH, h5 = sL h2 467 0 (i2l x1) → HT h5 → HX h2 h5 → (K 0 h5))) (fun y4 h3 => ((y4 = 0 ∧ K 1 h3))) h)
set_option maxHeartbeats 4000000 in
theorem a_L_install {sc : Nat × (Nat → Int32)} {goal : XO → XH → Prop} {fs : List XF} {h : XH}  {K : Int → XH → Prop} (hd : fs.length + 8 ≤ 1000) (w : w_L_install  K h) (t0 : HT h) (k : ∀ (r : Int) (h1 : XH), HT h1 → HX h h1 → rg r → K r h1 → XFin xP sc goal fs (.inl (some (.int (J r)))) h1) : RR sc goal fs 39 0 [some (rv 2), some (rv 467), none] [] h := by
  unfold w_L_install at w
  refine r_aldn (pc1 := 1) rfl rfl rfl ?_
  refine r_n (pc1 := 2) [.int (J 0), rv 467] _ rfl rfl ?_
  refine r_aldn (pc1 := 3) rfl rfl rfl ?_
  refine r_iv rfl rfl rfl rfl rfl rfl t0 (lyk t0 rfl) rfl (xe_of (xa_r xa_0) rfl rfl) (r_d0 hd rfl) (a_X12_install  (r_d1 hd rfl)  w t0 (fun x1 h2 t2 u2 rx1 w => ?_) (fun y4 h3 ty uy w => ?_))
  · refine r_fI (pc1 := 6) rfl ?_
    have s2 := HX_trans (HX_refl h) u2
    have w := w t2 u2
    have w := w rx1
    refine r_i2l (pc1 := 7) rfl rfl ?_
    refine r_last (pc1 := 8) rfl rfl t2 (lyk t2 rfl) (rgk rfl) (by decide) (lt_len (lyn t2 rfl) (by decide)) (fun h5 eh5 t5 u5 => ?_)
    have w := w h5 eh5 t5 u5
    have s5 := HX_trans s2 u5
    refine r_goto (t := 14) rfl rfl ?_
    refine r_n (pc1 := 15) [.int (J 0)] _ rfl rfl ?_
    exact r_retI rfl rfl rfl (k _ _ t5 s5 (rgk rfl) w)
  · obtain ⟨rfl, w⟩ := w
    exact r_fink (z := 1) rfl (by decide) rfl rfl (k _ _ ty (HX_trans (HX_refl h) uy) (rgk rfl) w)
def w_X8_codeIn (p0 : BitVec 64) (p1 : Int) (K : Int → Prop) (h : XH) : Prop :=
  (w_X8_idIn p0 p1 (fun x1 => rg x1 → (∃ J3 : Int → Prop, (∀ (x2 : Int), rg x2 → J3 x2 → (K x2)) ∧ ((¬ x1 = (-1) → ((0 ≤ x1 ∧ x1 < 40) ∧ J3 (hI h 14 x1.toNat))) ∧ (¬ (¬ x1 = (-1)) → (J3 (-1)))))) h)
set_option maxHeartbeats 4000000 in
theorem a_X8_codeIn {sc : Nat × (Nat → Int32)} {goal : XO → XH → Prop} {fs : List XF} {h : XH} (p0 : BitVec 64) (p1 : Int) {K : Int → Prop} (hd : fs.length + 2 ≤ 1000) (rp1 : rg p1) (w : w_X8_codeIn p0 p1 K h) (t0 : HT h) (k : ∀ (r : Int), rg r → K r → XFin xP sc goal fs (.inl (some (.int (J r)))) h) : RR sc goal fs 454 0 [some (rv 9), some (.long (G p0)), none, some (.int (J p1)), none] [] h := by
  unfold w_X8_codeIn at w
  refine r_aldn (pc1 := 1) rfl rfl rfl ?_
  refine r_n (pc1 := 2) [.long (G p0), rv 9] _ rfl rfl ?_
  refine r_n (pc1 := 3) [.int (J p1), .long (G p0), rv 9] _ rfl rfl ?_
  refine r_iv rfl rfl rfl rfl rfl rfl t0 (lyk t0 rfl) rfl (xe_of (xa_r (xa_l (xa_i xa_0))) rfl rfl) (r_d0 hd rfl) (a_X8_idIn p0 p1 (r_d1 hd rfl) rp1 w t0 (fun x1 rx1 w => ?_))
  refine r_fI (pc1 := 6) rfl ?_
  have w := w rx1
  refine r_ist (pc1 := 8) (ls1 := [some (rv 9), some (.long (G p0)), none, some (.int (J p1)), some (.int (J x1))]) rfl rfl rfl rfl ?_
  refine r_n (pc1 := 10) [.int (J x1)] _ rfl rfl ?_
  refine r_n (pc1 := 11) [.int (J (-1)), .int (J x1)] _ rfl rfl ?_
  obtain ⟨J3, j3, w⟩ := w
  have Q3 : ∀ (x2 : Int), rg x2 → J3 x2 → RR sc goal fs 454 25 [some (rv 9), some (.long (G p0)), none, some (.int (J p1)), some (.int (J x1))] [.int (J x2)] h := by
    intro x2 rx2 z3
    have w := j3 x2 rx2 z3
    exact r_retI rfl rfl rfl (k _ rx2 w)
  refine r_ic (t := 18) (pc1 := 14) rfl rfl rfl rx1 (rgk rfl) (fun c5 => ?_) (fun c5 => ?_)
  · have w := w.1 c5
    refine r_aldn (pc1 := 19) rfl rfl rfl ?_
    refine r_gfC (pc1 := 22) (q := 14) rfl rfl rfl t0 (lyk t0 rfl) rfl rfl (lyR t0 rfl rfl) ?_
    refine r_n (pc1 := 24) [.int (J x1), rv 14] _ rfl rfl ?_
    obtain ⟨c4, w⟩ := w
    refine r_ial (pc1 := 25) rfl rfl t0 (lyk t0 rfl) rx1 c4.1 (lt_len (lyn t0 rfl) c4.2) ?_
    exact Q3  (hI h 14 x1.toNat)  (rgh _ _ _) w
  · have w := w.2 c5
    refine r_n (pc1 := 15) [.int (J (-1))] _ rfl rfl ?_
    refine r_goto (t := 25) rfl rfl ?_
    exact Q3  (-1)  (rgk rfl) w
def w_X12_valueIn (p0 : BitVec 64) (p1 : Int) (K : Int → Prop) (h : XH) : Prop :=
  (w_X8_codeIn p0 p1 (fun x1 => rg x1 → (w_X12_switchOf p1 (fun b2 => (∃ J4 : Int → Prop, (∀ (x3 : Int), rg x3 → J4 x3 → (K (wr (x1 + x3)))) ∧ ((p0 &&& b2 = (0#64) → (J4 0)) ∧ (¬ (p0 &&& b2 = (0#64)) → (J4 1000000))))) h)) h)
set_option maxHeartbeats 4000000 in
theorem a_X12_valueIn {sc : Nat × (Nat → Int32)} {goal : XO → XH → Prop} {fs : List XF} {h : XH} (p0 : BitVec 64) (p1 : Int) {K : Int → Prop} (hd : fs.length + 3 ≤ 1000) (rp1 : rg p1) (w : w_X12_valueIn p0 p1 K h) (t0 : HT h) (k : ∀ (r : Int), rg r → K r → XFin xP sc goal fs (.inl (some (.int (J r)))) h) : RR sc goal fs 159 0 [some (rv 2), some (.long (G p0)), none, some (.int (J p1))] [] h := by
  unfold w_X12_valueIn at w
  refine r_aldn (pc1 := 1) rfl rfl rfl ?_
  refine r_gfC (pc1 := 4) (q := 8) rfl rfl rfl t0 (lyk t0 rfl) rfl rfl (lyR t0 rfl rfl) ?_
  refine r_gfC (pc1 := 7) (q := 9) rfl rfl rfl t0 (lyk t0 rfl) rfl rfl (lyR t0 rfl rfl) ?_
  refine r_n (pc1 := 8) [.long (G p0), rv 9] _ rfl rfl ?_
  refine r_n (pc1 := 9) [.int (J p1), .long (G p0), rv 9] _ rfl rfl ?_
  refine r_iv rfl rfl rfl rfl rfl rfl t0 (lyk t0 rfl) rfl (xe_of (xa_r (xa_l (xa_i xa_0))) rfl rfl) (r_d0 hd rfl) (a_X8_codeIn p0 p1 (r_d1 hd rfl) rp1 w t0 (fun x1 rx1 w => ?_))
  refine r_fI (pc1 := 12) rfl ?_
  have w := w rx1
  refine r_n (pc1 := 13) [.long (G p0), .int (J x1)] _ rfl rfl ?_
  refine r_n (pc1 := 14) [.int (J p1), .long (G p0), .int (J x1)] _ rfl rfl ?_
  refine r_iq rfl rfl rfl rfl rfl rfl (xe_of (xa_i xa_0) rfl rfl) (r_d0 hd rfl) (a_X12_switchOf p1 (r_d1 hd rfl) rp1 w t0 (fun b2 w => ?_))
  refine r_fL (pc1 := 17) rfl ?_
  refine r_land (pc1 := 18) rfl rfl ?_
  refine r_n (pc1 := 19) [.long (G (0#64)), .long (G (p0 &&& b2)), .int (J x1)] _ rfl rfl ?_
  obtain ⟨J4, j4, w⟩ := w
  have Q4 : ∀ (x3 : Int), rg x3 → J4 x3 → RR sc goal fs 159 30 [some (rv 2), some (.long (G p0)), none, some (.int (J p1))] [.int (J x3), .int (J x1)] h := by
    intro x3 rx3 z4
    have w := j4 x3 rx3 z4
    refine r_iadd (pc1 := 31) rfl rfl ?_
    exact r_retI rfl rfl rfl (k _ (rgw _) w)
  refine r_lc (pc2 := 20) (t := 29) (pc1 := 23) rfl rfl rfl rfl rfl (fun c5 => ?_) (fun c5 => ?_)
  · have w := w.1 c5
    refine r_n (pc1 := 30) [.int (J 0), .int (J x1)] _ rfl rfl ?_
    exact Q4  0  (rgk rfl) w
  · have w := w.2 c5
    refine r_n (pc1 := 26) [.int (J 1000000), .int (J x1)] _ rfl rfl ?_
    refine r_goto (t := 30) rfl rfl ?_
    exact Q4  1000000  (rgk rfl) w
def w_X12_installed (p0 : Int) (K : Int → Prop) (E : Nat → XH → Prop) (h : XH) : Prop :=
  (w_X12_checkPack p0 ((w_X11_atHand (fun a1 => (hk h a1 = 7 ∧ w_X12_valueIn (hL h a1 6) p0 (fun x3 => rg x3 → (K x3)) h)) h)) E h)
set_option maxHeartbeats 4000000 in
theorem a_X12_installed {sc : Nat × (Nat → Int32)} {goal : XO → XH → Prop} {fs : List XF} {h : XH} (p0 : Int) {K : Int → Prop} {E : Nat → XH → Prop} (hd : fs.length + 4 ≤ 1000) (rp0 : rg p0) (w : w_X12_installed p0 K E h) (t0 : HT h) (k : ∀ (r : Int), rg r → K r → XFin xP sc goal fs (.inl (some (.int (J r)))) h) (kE : ∀ (x : Nat) (h1 : XH), HT h1 → HX h h1 → E x h1 → XFin xP sc goal fs (.inr x) h1) : RR sc goal fs 115 0 [some (rv 2), some (.int (J p0))] [] h := by
  unfold w_X12_installed at w
  refine r_aldn (pc1 := 1) rfl rfl rfl ?_
  refine r_n (pc1 := 2) [.int (J p0), rv 2] _ rfl rfl ?_
  refine r_iv rfl rfl rfl rfl rfl rfl t0 (lyk t0 rfl) rfl (xe_of (xa_r (xa_i xa_0)) rfl rfl) (r_d0 hd rfl) (a_X12_checkPack p0 (r_d1 hd rfl) rp0 w t0 (fun w => ?_) (fun x y ty uy w => r_finx rfl rfl (kE x y ty (HX_trans (HX_refl h) uy) w)))
  refine r_fV (pc1 := 5) rfl ?_
  refine r_aldn (pc1 := 6) rfl rfl rfl ?_
  refine r_aldn (pc1 := 7) rfl rfl rfl ?_
  refine r_gfC (pc1 := 10) (q := 8) rfl rfl rfl t0 (lyk t0 rfl) rfl rfl (lyR t0 rfl rfl) ?_
  refine r_iv rfl rfl rfl rfl rfl rfl t0 (lyk t0 rfl) rfl (xe_of (xa_r xa_0) rfl rfl) (r_d0 hd rfl) (a_X11_atHand  (r_d1 hd rfl)  w t0 (fun a1 w => ?_))
  refine r_fR (pc1 := 13) rfl ?_
  obtain ⟨c2, w⟩ := w
  refine r_gfL (pc1 := 16) rfl rfl rfl t0 c2 rfl rfl ?_
  refine r_n (pc1 := 17) [.int (J p0), .long (G (hL h a1 6)), rv 2] _ rfl rfl ?_
  refine r_iv rfl rfl rfl rfl rfl rfl t0 (lyk t0 rfl) rfl (xe_of (xa_r (xa_l (xa_i xa_0))) rfl rfl) (r_d0 hd rfl) (a_X12_valueIn (hL h a1 6) p0 (r_d1 hd rfl) rp0 w t0 (fun x3 rx3 w => ?_))
  refine r_fI (pc1 := 20) rfl ?_
  have w := w rx3
  exact r_retI rfl rfl rfl (k _ rx3 w)
def w_L_installed (p1 : Int) (K : Int → XH → Prop) (h : XH) : Prop :=
  (w_X12_installed p1 (fun x1 => rg x1 → (∀ h4 : XH, h4 = sL h 467 0 (i2l x1) → HT h4 → HX h h4 → (K 0 h4))) (fun y3 h2 => ((y3 = 2 ∧ K 1 h2))) h)
set_option maxHeartbeats 4000000 in
theorem a_L_installed {sc : Nat × (Nat → Int32)} {goal : XO → XH → Prop} {fs : List XF} {h : XH} (p1 : Int) {K : Int → XH → Prop} (hd : fs.length + 5 ≤ 1000) (rp1 : rg p1) (w : w_L_installed p1 K h) (t0 : HT h) (k : ∀ (r : Int) (h1 : XH), HT h1 → HX h h1 → rg r → K r h1 → XFin xP sc goal fs (.inl (some (.int (J r)))) h1) : RR sc goal fs 40 0 [some (rv 2), some (.int (J p1)), some (rv 467), none] [] h := by
  unfold w_L_installed at w
  refine r_aldn (pc1 := 1) rfl rfl rfl ?_
  refine r_n (pc1 := 2) [.int (J 0), rv 467] _ rfl rfl ?_
  refine r_aldn (pc1 := 3) rfl rfl rfl ?_
  refine r_n (pc1 := 4) [.int (J p1), rv 2, .int (J 0), rv 467] _ rfl rfl ?_
  refine r_iv rfl rfl rfl rfl rfl rfl t0 (lyk t0 rfl) rfl (xe_of (xa_r (xa_i xa_0)) rfl rfl) (r_d0 hd rfl) (a_X12_installed p1 (r_d1 hd rfl) rp1 w t0 (fun x1 rx1 w => ?_) (fun y3 h2 ty uy w => ?_))
  · refine r_fI (pc1 := 7) rfl ?_
    have w := w rx1
    refine r_i2l (pc1 := 8) rfl rfl ?_
    refine r_last (pc1 := 9) rfl rfl t0 (lyk t0 rfl) (rgk rfl) (by decide) (lt_len (lyn t0 rfl) (by decide)) (fun h4 eh4 t4 u4 => ?_)
    have w := w h4 eh4 t4 u4
    have s4 := HX_trans (HX_refl h) u4
    refine r_goto (t := 15) rfl rfl ?_
    refine r_n (pc1 := 16) [.int (J 0)] _ rfl rfl ?_
    exact r_retI rfl rfl rfl (k _ _ t4 s4 (rgk rfl) w)
  · obtain ⟨rfl, w⟩ := w
    exact r_fink (z := 1) rfl (by decide) rfl rfl (k _ _ ty (HX_trans (HX_refl h) uy) (rgk rfl) w)
def w_X12_isOn (p0 : Int) (K : Int → Prop) (E : Nat → XH → Prop) (h : XH) : Prop :=
  (w_X12_checkPack p0 ((w_X11_atHand (fun a1 => (hk h a1 = 7 ∧ w_X12_switchOf p0 (fun b3 => (∃ J5 : Int → Prop, (∀ (x4 : Int), rg x4 → J5 x4 → ((x4 = 0 ∨ x4 = 1) ∧ K x4)) ∧ (((hL h a1 5) &&& b3 = (0#64) → (J5 0)) ∧ (¬ ((hL h a1 5) &&& b3 = (0#64)) → (J5 1))))) h)) h)) E h)
set_option maxHeartbeats 4000000 in
theorem a_X12_isOn {sc : Nat × (Nat → Int32)} {goal : XO → XH → Prop} {fs : List XF} {h : XH} (p0 : Int) {K : Int → Prop} {E : Nat → XH → Prop} (hd : fs.length + 2 ≤ 1000) (rp0 : rg p0) (w : w_X12_isOn p0 K E h) (t0 : HT h) (k : ∀ (r : Int), rg r → (r = 0 ∨ r = 1) → K r → XFin xP sc goal fs (.inl (some (.int (J r)))) h) (kE : ∀ (x : Nat) (h1 : XH), HT h1 → HX h h1 → E x h1 → XFin xP sc goal fs (.inr x) h1) : RR sc goal fs 118 0 [some (rv 2), some (.int (J p0))] [] h := by
  unfold w_X12_isOn at w
  refine r_aldn (pc1 := 1) rfl rfl rfl ?_
  refine r_n (pc1 := 2) [.int (J p0), rv 2] _ rfl rfl ?_
  refine r_iv rfl rfl rfl rfl rfl rfl t0 (lyk t0 rfl) rfl (xe_of (xa_r (xa_i xa_0)) rfl rfl) (r_d0 hd rfl) (a_X12_checkPack p0 (r_d1 hd rfl) rp0 w t0 (fun w => ?_) (fun x y ty uy w => r_finx rfl rfl (kE x y ty (HX_trans (HX_refl h) uy) w)))
  refine r_fV (pc1 := 5) rfl ?_
  refine r_aldn (pc1 := 6) rfl rfl rfl ?_
  refine r_gfC (pc1 := 9) (q := 8) rfl rfl rfl t0 (lyk t0 rfl) rfl rfl (lyR t0 rfl rfl) ?_
  refine r_iv rfl rfl rfl rfl rfl rfl t0 (lyk t0 rfl) rfl (xe_of (xa_r xa_0) rfl rfl) (r_d0 hd rfl) (a_X11_atHand  (r_d1 hd rfl)  w t0 (fun a1 w => ?_))
  refine r_fR (pc1 := 12) rfl ?_
  obtain ⟨c2, w⟩ := w
  refine r_gfL (pc1 := 15) rfl rfl rfl t0 c2 rfl rfl ?_
  refine r_n (pc1 := 16) [.int (J p0), .long (G (hL h a1 5))] _ rfl rfl ?_
  refine r_iq rfl rfl rfl rfl rfl rfl (xe_of (xa_i xa_0) rfl rfl) (r_d0 hd rfl) (a_X12_switchOf p0 (r_d1 hd rfl) rp0 w t0 (fun b3 w => ?_))
  refine r_fL (pc1 := 19) rfl ?_
  refine r_land (pc1 := 20) rfl rfl ?_
  refine r_n (pc1 := 21) [.long (G (0#64)), .long (G ((hL h a1 5) &&& b3))] _ rfl rfl ?_
  obtain ⟨J5, j5, w⟩ := w
  have Q5 : ∀ (x4 : Int), rg x4 → J5 x4 → RR sc goal fs 118 30 [some (rv 2), some (.int (J p0))] [.int (J x4)] h := by
    intro x4 rx4 z5
    have w := j5 x4 rx4 z5
    obtain ⟨c6, w⟩ := w
    exact r_retB rfl rfl rfl c6 (k _ rx4 c6 w)
  refine r_lc (pc2 := 22) (t := 29) (pc1 := 25) rfl rfl rfl rfl rfl (fun c7 => ?_) (fun c7 => ?_)
  · have w := w.1 c7
    refine r_n (pc1 := 30) [.int (J 0)] _ rfl rfl ?_
    exact Q5  0  (rgk rfl) w
  · have w := w.2 c7
    refine r_n (pc1 := 26) [.int (J 1)] _ rfl rfl ?_
    refine r_goto (t := 30) rfl rfl ?_
    exact Q5  1  (rgk rfl) w
def w_L_isOn (p1 : Int) (K : Int → XH → Prop) (h : XH) : Prop :=
  (w_X12_isOn p1 (fun x1 => rg x1 → (x1 = 0 ∨ x1 = 1) → (∃ J5 : BitVec 64 → Prop, (∀ (b4 : BitVec 64), J5 b4 → (∀ h6 : XH, h6 = sL h 467 0 b4 → HT h6 → HX h h6 → (K 0 h6))) ∧ ((x1 = 0 → (J5 (0#64))) ∧ (¬ (x1 = 0) → (J5 (1#64)))))) (fun y3 h2 => ((y3 = 2 ∧ K 1 h2))) h)
set_option maxHeartbeats 4000000 in
theorem a_L_isOn {sc : Nat × (Nat → Int32)} {goal : XO → XH → Prop} {fs : List XF} {h : XH} (p1 : Int) {K : Int → XH → Prop} (hd : fs.length + 3 ≤ 1000) (rp1 : rg p1) (w : w_L_isOn p1 K h) (t0 : HT h) (k : ∀ (r : Int) (h1 : XH), HT h1 → HX h h1 → rg r → K r h1 → XFin xP sc goal fs (.inl (some (.int (J r)))) h1) : RR sc goal fs 41 0 [some (rv 2), some (.int (J p1)), some (rv 467), none] [] h := by
  unfold w_L_isOn at w
  refine r_aldn (pc1 := 1) rfl rfl rfl ?_
  refine r_n (pc1 := 2) [.int (J 0), rv 467] _ rfl rfl ?_
  refine r_aldn (pc1 := 3) rfl rfl rfl ?_
  refine r_n (pc1 := 4) [.int (J p1), rv 2, .int (J 0), rv 467] _ rfl rfl ?_
  refine r_iv rfl rfl rfl rfl rfl rfl t0 (lyk t0 rfl) rfl (xe_of (xa_r (xa_i xa_0)) rfl rfl) (r_d0 hd rfl) (a_X12_isOn p1 (r_d1 hd rfl) rp1 w t0 (fun x1 rx1 vx1 w => ?_) (fun y3 h2 ty uy w => ?_))
  · refine r_fI (pc1 := 7) rfl ?_
    have w := w rx1 vx1
    obtain ⟨J5, j5, w⟩ := w
    have Q5 : ∀ (b4 : BitVec 64), J5 b4 → RR sc goal fs 41 15 [some (rv 2), some (.int (J p1)), some (rv 467), none] [.long (G b4), .int (J 0), rv 467] h := by
      intro b4 z5
      have w := j5 b4 z5
      refine r_last (pc1 := 16) rfl rfl t0 (lyk t0 rfl) (rgk rfl) (by decide) (lt_len (lyn t0 rfl) (by decide)) (fun h6 eh6 t6 u6 => ?_)
      have w := w h6 eh6 t6 u6
      have s6 := HX_trans (HX_refl h) u6
      refine r_goto (t := 22) rfl rfl ?_
      refine r_n (pc1 := 23) [.int (J 0)] _ rfl rfl ?_
      exact r_retI rfl rfl rfl (k _ _ t6 s6 (rgk rfl) w)
    refine r_iz (t := 14) (pc1 := 10) rfl rfl rfl rx1 (fun c7 => ?_) (fun c7 => ?_)
    · have w := w.1 c7
      refine r_n (pc1 := 15) [.long (G (0#64)), .int (J 0), rv 467] _ rfl rfl ?_
      exact Q5  (0#64)   w
    · have w := w.2 c7
      refine r_n (pc1 := 11) [.long (G (1#64)), .int (J 0), rv 467] _ rfl rfl ?_
      refine r_goto (t := 15) rfl rfl ?_
      exact Q5  (1#64)   w
  · obtain ⟨rfl, w⟩ := w
    exact r_fink (z := 1) rfl (by decide) rfl rfl (k _ _ ty (HX_trans (HX_refl h) uy) (rgk rfl) w)
def w_X14_byteOf (p0 : Int) (p1 : Int) (p2 : Int) (p3 : Int) (p4 : Int) (p5 : Int) (K : Int → Prop) (h : XH) : Prop :=
  (∃ J2 : Int → Prop, (∀ (x1 : Int), rg x1 → J2 x1 → (K (iand (iushr x1 (wr (24 - (wr (8 * (irem p5 4)))))) 255))) ∧ ((4 ≤ p5 → (((8 ≤ p5 → (((12 ≤ p5 → (((16 ≤ p5 → (J2 p4)) ∧ (¬ (16 ≤ p5) → (J2 p3))))) ∧ (¬ (12 ≤ p5) → (J2 p2))))) ∧ (¬ (8 ≤ p5) → (J2 p1))))) ∧ (¬ (4 ≤ p5) → (J2 p0))))
set_option maxHeartbeats 4000000 in
theorem a_X14_byteOf {sc : Nat × (Nat → Int32)} {goal : XO → XH → Prop} {fs : List XF} {h : XH} (p0 : Int) (p1 : Int) (p2 : Int) (p3 : Int) (p4 : Int) (p5 : Int) {K : Int → Prop} (hd : fs.length + 0 ≤ 1000) (rp0 : rg p0) (rp1 : rg p1) (rp2 : rg p2) (rp3 : rg p3) (rp4 : rg p4) (rp5 : rg p5) (w : w_X14_byteOf p0 p1 p2 p3 p4 p5 K h) (t0 : HT h) (k : ∀ (r : Int), rg r → K r → XFin xP sc goal fs (.inl (some (.int (J r)))) h) : RR sc goal fs 178 0 [some (.int (J p0)), some (.int (J p1)), some (.int (J p2)), some (.int (J p3)), some (.int (J p4)), some (.int (J p5)), none] [] h := by
  unfold w_X14_byteOf at w
  refine r_n (pc1 := 2) [.int (J p5)] _ rfl rfl ?_
  refine r_n (pc1 := 3) [.int (J 4), .int (J p5)] _ rfl rfl ?_
  obtain ⟨J2, j2, w⟩ := w
  have Q2 : ∀ (x1 : Int), rg x1 → J2 x1 → RR sc goal fs 178 45 [some (.int (J p0)), some (.int (J p1)), some (.int (J p2)), some (.int (J p3)), some (.int (J p4)), some (.int (J p5)), none] [.int (J x1)] h := by
    intro x1 rx1 z2
    have w := j2 x1 rx1 z2
    refine r_ist (pc1 := 47) (ls1 := [some (.int (J p0)), some (.int (J p1)), some (.int (J p2)), some (.int (J p3)), some (.int (J p4)), some (.int (J p5)), some (.int (J x1))]) rfl rfl rfl rfl ?_
    refine r_n (pc1 := 49) [.int (J x1)] _ rfl rfl ?_
    refine r_n (pc1 := 51) [.int (J 24), .int (J x1)] _ rfl rfl ?_
    refine r_n (pc1 := 53) [.int (J 8), .int (J 24), .int (J x1)] _ rfl rfl ?_
    refine r_n (pc1 := 55) [.int (J p5), .int (J 8), .int (J 24), .int (J x1)] _ rfl rfl ?_
    refine r_n (pc1 := 56) [.int (J 4), .int (J p5), .int (J 8), .int (J 24), .int (J x1)] _ rfl rfl ?_
    refine r_irem (pc1 := 57) rfl rfl (rgk rfl) (by decide) ?_
    refine r_imul (pc1 := 58) rfl rfl ?_
    refine r_isub (pc1 := 59) rfl rfl ?_
    refine r_iushr (pc1 := 60) rfl rfl ?_
    refine r_n (pc1 := 63) [.int (J 255), .int (J (iushr x1 (wr (24 - (wr (8 * (irem p5 4)))))))] _ rfl rfl ?_
    refine r_iand (pc1 := 64) rfl rfl ?_
    exact r_retI rfl rfl rfl (k _ (rgt _) w)
  refine r_ic (t := 10) (pc1 := 6) rfl rfl rfl rp5 (rgk rfl) (fun c6 => ?_) (fun c6 => ?_)
  · have w := w.1 c6
    refine r_n (pc1 := 12) [.int (J p5)] _ rfl rfl ?_
    refine r_n (pc1 := 14) [.int (J 8), .int (J p5)] _ rfl rfl ?_
    refine r_ic (t := 21) (pc1 := 17) rfl rfl rfl rp5 (rgk rfl) (fun c5 => ?_) (fun c5 => ?_)
    · have w := w.1 c5
      refine r_n (pc1 := 23) [.int (J p5)] _ rfl rfl ?_
      refine r_n (pc1 := 25) [.int (J 12), .int (J p5)] _ rfl rfl ?_
      refine r_ic (t := 32) (pc1 := 28) rfl rfl rfl rp5 (rgk rfl) (fun c4 => ?_) (fun c4 => ?_)
      · have w := w.1 c4
        refine r_n (pc1 := 34) [.int (J p5)] _ rfl rfl ?_
        refine r_n (pc1 := 36) [.int (J 16), .int (J p5)] _ rfl rfl ?_
        refine r_ic (t := 43) (pc1 := 39) rfl rfl rfl rp5 (rgk rfl) (fun c3 => ?_) (fun c3 => ?_)
        · have w := w.1 c3
          refine r_n (pc1 := 45) [.int (J p4)] _ rfl rfl ?_
          exact Q2  p4  rp4 w
        · have w := w.2 c3
          refine r_n (pc1 := 40) [.int (J p3)] _ rfl rfl ?_
          refine r_goto (t := 45) rfl rfl ?_
          exact Q2  p3  rp3 w
      · have w := w.2 c4
        refine r_n (pc1 := 29) [.int (J p2)] _ rfl rfl ?_
        refine r_goto (t := 45) rfl rfl ?_
        exact Q2  p2  rp2 w
    · have w := w.2 c5
      refine r_n (pc1 := 18) [.int (J p1)] _ rfl rfl ?_
      refine r_goto (t := 45) rfl rfl ?_
      exact Q2  p1  rp1 w
  · have w := w.2 c6
    refine r_n (pc1 := 7) [.int (J p0)] _ rfl rfl ?_
    refine r_goto (t := 45) rfl rfl ?_
    exact Q2  p0  rp0 w
