/-! printed by dec.py: what each method wants, and that the machine keeps it -/ 
def w_X14_isMet (p0 : Nat) (p1 : Nat) (K : Int → Prop) (h : XH) : Prop :=
  ((∃ (I3 : Int → Int → Prop) (m3 : Int → Int → Nat), I3 0 0 ∧ ∀ (x1 : Int) (x2 : Int), rg x1 → rg x2 → I3 x1 x2 → (∃ J4 : Prop, (J4 → ((x1 = 0 ∨ x1 = 1) ∧ K x1)) ∧ ((12 ≤ x2 → J4) ∧ (¬ (12 ≤ x2) → (((¬ x1 = 0 → J4) ∧ (¬ (¬ x1 = 0) → (hk h p1 = 100 ∧ (0 ≤ x2 ∧ x2 < (hn h p1 : Int)) ∧ ∃ J9 : Int → Prop, (∀ (x8 : Int), rg x8 → J9 x8 → (∀ x10 : Int, x10 = wr (x2 + 1) → rg x10 → (I3 x8 x10 ∧ m3 x8 x10 < m3 x1 x2))) ∧ ∃ J11 : Prop, (J11 → (J9 0)) ∧ ((hI h p1 x2.toNat = (-1) → J11) ∧ (¬ (hI h p1 x2.toNat = (-1)) → (hk h p0 = 14 ∧ ∃ J13 : Prop, (J13 → (w_X14_slotIn p1 x2 (fun x14 => rg x14 → (w_X14_meets p0 x14 (fun x15 => rg x15 → (x15 = 0 ∨ x15 = 1) → (((x15 = 0 → J11) ∧ (¬ (x15 = 0) → (J9 1))))) h)) h)) ∧ ((hI h p0 0 = 0 → J13) ∧ (¬ (hI h p0 0 = 0) → (w_X14_isOnIn p1 x2 (fun x17 => rg x17 → (x17 = 0 ∨ x17 = 1) → (((x17 = 0 → J11) ∧ (¬ (x17 = 0) → J13)))) h)))))))))))))))
set_option maxHeartbeats 4000000 in
theorem a_X14_isMet {sc : Nat × (Nat → Int32)} {goal : XO → XH → Prop} {fs : List XF} {h : XH} (p0 : Nat) (p1 : Nat) {K : Int → Prop} (hd : fs.length + 4 ≤ 1000) (w : w_X14_isMet p0 p1 K h) (t0 : HT h) (k : ∀ (r : Int), rg r → (r = 0 ∨ r = 1) → K r → XFin xP sc goal fs (.inl (some (.int (J r)))) h) : RR sc goal fs 232 0 [some (rv 437), some (rv p0), some (rv p1), none, none] [] h := by
  unfold w_X14_isMet at w
  refine r_n (pc1 := 1) [.int (J 0)] _ rfl rfl ?_
  refine r_istn (pc1 := 2) (ls1 := [some (rv 437), some (rv p0), some (rv p1), some (.int (J 0)), none]) rfl rfl rfl (xput1_rv rfl rfl) ?_
  refine r_n (pc1 := 3) [.int (J 0)] _ rfl rfl ?_
  refine r_ist (pc1 := 5) (ls1 := [some (rv 437), some (rv p0), some (rv p1), some (.int (J 0)), some (.int (J 0))]) rfl rfl rfl rfl ?_
  obtain ⟨I3, m3, w, y3⟩ := w
  have Q3 : ∀ (n : Nat)  (x1 : Int) (x2 : Int), rg x1 → rg x2 → m3 x1 x2 < n → I3 x1 x2 → RR sc goal fs 232 5 [some (rv 437), some (rv p0), some (rv p1), some (.int (J x1)), some (.int (J x2))] [] h := by
    intro n
    induction n with
    | zero => intro x1 x2 rx1 rx2 q3 _; exact absurd q3 (Nat.not_lt_zero _)
    | succ n ih3 =>
      intro x1 x2 rx1 rx2 q3 z3
      have w := y3 x1 x2 rx1 rx2 z3
      refine r_n (pc1 := 7) [.int (J x2)] _ rfl rfl ?_
      refine r_n (pc1 := 9) [.int (J 12), .int (J x2)] _ rfl rfl ?_
      obtain ⟨J4, j4, w⟩ := w
      have Q4 : J4 → RR sc goal fs 232 67 [some (rv 437), some (rv p0), some (rv p1), some (.int (J x1)), some (.int (J x2))] [] h := by
        intro z4
        have w := j4 z4
        refine r_n (pc1 := 68) [.int (J x1)] _ rfl rfl ?_
        obtain ⟨c5, w⟩ := w
        exact r_retB rfl rfl rfl c5 (k _ rx1 c5 w)
      refine r_ic (t := 67) (pc1 := 12) rfl rfl rfl rx2 (rgk rfl) (fun c22 => ?_) (fun c22 => ?_)
      · have w := w.1 c22
        exact Q4     w
      · have w := w.2 c22
        refine r_n (pc1 := 13) [.int (J x1)] _ rfl rfl ?_
        refine r_iz (t := 67) (pc1 := 16) rfl rfl rfl rx1 (fun c21 => ?_) (fun c21 => ?_)
        · have w := w.1 c21
          exact Q4     w
        · have w := w.2 c21
          refine r_aldn (pc1 := 17) rfl rfl rfl ?_
          refine r_n (pc1 := 19) [.int (J x2), rv p1] _ rfl rfl ?_
          obtain ⟨c6, w⟩ := w
          obtain ⟨c7, w⟩ := w
          refine r_ial (pc1 := 20) rfl rfl t0 c6 rx2 c7.1 c7.2 ?_
          refine r_n (pc1 := 21) [.int (J (-1)), .int (J (hI h p1 x2.toNat))] _ rfl rfl ?_
          obtain ⟨J9, j9, w⟩ := w
          have Q9 : ∀ (x8 : Int), rg x8 → J9 x8 → RR sc goal fs 232 60 [some (rv 437), some (rv p0), some (rv p1), some (.int (J x1)), some (.int (J x2))] [.int (J x8)] h := by
            intro x8 rx8 z9
            have w := j9 x8 rx8 z9
            refine r_istn (pc1 := 61) (ls1 := [some (rv 437), some (rv p0), some (rv p1), some (.int (J x8)), some (.int (J x2))]) rfl rfl rfl (xput1_rv rfl rfl) ?_
            refine r_inc (pc1 := 64) (g := fun zz => [some (rv 437), some (rv p0), some (rv p1), some (.int (J x8)), some (.int (J zz))]) rfl rfl rfl rfl (fun _ => rfl) (fun x10 ex10 rx10 => ?_)
            have w := w x10 ex10 rx10
            refine r_goto (t := 5) rfl rfl ?_
            exact ih3  x8 x10  rx8 rx10 (Nat.lt_of_lt_of_le w.2 (Nat.le_of_lt_succ q3)) w.1
          obtain ⟨J11, j11, w⟩ := w
          have Q11 : J11 → RR sc goal fs 232 59 [some (rv 437), some (rv p0), some (rv p1), some (.int (J x1)), some (.int (J x2))] [] h := by
            intro z11
            have w := j11 z11
            refine r_n (pc1 := 60) [.int (J 0)] _ rfl rfl ?_
            exact Q9  0  (rgk rfl) w
          refine r_ic (t := 59) (pc1 := 24) rfl rfl rfl (rgh _ _ _) (rgk rfl) (fun c20 => ?_) (fun c20 => ?_)
          · have w := w.1 c20
            exact Q11     w
          · have w := w.2 c20
            refine r_aldn (pc1 := 25) rfl rfl rfl ?_
            obtain ⟨c12, w⟩ := w
            refine r_gfI (pc1 := 28) rfl rfl rfl t0 c12 rfl rfl ?_
            obtain ⟨J13, j13, w⟩ := w
            have Q13 : J13 → RR sc goal fs 232 40 [some (rv 437), some (rv p0), some (rv p1), some (.int (J x1)), some (.int (J x2))] [] h := by
              intro z13
              have w := j13 z13
              refine r_aldn (pc1 := 41) rfl rfl rfl ?_
              refine r_aldn (pc1 := 42) rfl rfl rfl ?_
              refine r_aldn (pc1 := 43) rfl rfl rfl ?_
              refine r_aldn (pc1 := 44) rfl rfl rfl ?_
              refine r_n (pc1 := 46) [.int (J x2), rv p1, rv 437, rv p0, rv 437] _ rfl rfl ?_
              refine r_iv rfl rfl rfl rfl rfl rfl t0 (lyk t0 rfl) rfl (xe_of (xa_r (xa_r (xa_i xa_0))) rfl rfl) (r_d0 hd rfl) (a_X14_slotIn p1 x2 (r_d1 hd rfl) rx2 w t0 (fun x14 rx14 w => ?_))
              refine r_fI (pc1 := 49) rfl ?_
              have w := w rx14
              refine r_iv rfl rfl rfl rfl rfl rfl t0 (lyk t0 rfl) rfl (xe_of (xa_r (xa_r (xa_i xa_0))) rfl rfl) (r_d0 hd rfl) (a_X14_meets p0 x14 (r_d1 hd rfl) rx14 w t0 (fun x15 rx15 vx15 w => ?_))
              refine r_fI (pc1 := 52) rfl ?_
              have w := w rx15 vx15
              refine r_iz (t := 59) (pc1 := 55) rfl rfl rfl rx15 (fun c16 => ?_) (fun c16 => ?_)
              · have w := w.1 c16
                exact Q11     w
              · have w := w.2 c16
                refine r_n (pc1 := 56) [.int (J 1)] _ rfl rfl ?_
                refine r_goto (t := 60) rfl rfl ?_
                exact Q9  1  (rgk rfl) w
            refine r_iz (t := 40) (pc1 := 31) rfl rfl rfl (rgh _ _ _) (fun c19 => ?_) (fun c19 => ?_)
            · have w := w.1 c19
              exact Q13     w
            · have w := w.2 c19
              refine r_aldn (pc1 := 32) rfl rfl rfl ?_
              refine r_n (pc1 := 34) [.int (J x2), rv p1] _ rfl rfl ?_
              refine r_iq rfl rfl rfl rfl rfl rfl (xe_of (xa_r (xa_i xa_0)) rfl rfl) (r_d0 hd rfl) (a_X14_isOnIn p1 x2 (r_d1 hd rfl) rx2 w t0 (fun x17 rx17 vx17 w => ?_))
              refine r_fI (pc1 := 37) rfl ?_
              have w := w rx17 vx17
              refine r_iz (t := 59) (pc1 := 40) rfl rfl rfl rx17 (fun c18 => ?_) (fun c18 => ?_)
              · have w := w.1 c18
                exact Q11     w
              · have w := w.2 c18
                exact Q13     w
  exact Q3 _  0 0  (rgk rfl) (rgk rfl) (Nat.lt_succ_self _) w
def w_X14_hasNeeds (p0 : Nat) (p1 : Int) (K : Int → Prop) (h : XH) : Prop :=
  (w_X14_slotIn p0 p1 (fun x1 => rg x1 → ((∃ (I4 : Int → Int → Prop) (m4 : Int → Int → Nat), I4 1 0 ∧ ∀ (x2 : Int) (x3 : Int), rg x2 → rg x3 → I4 x2 x3 → (w_X14_ver x1 7 (fun x5 => rg x5 → (((x5 ≤ x3 → (∃ J7 : Int → Prop, (∀ (x6 : Int), rg x6 → J7 x6 → ((x6 = 0 ∨ x6 = 1) ∧ K x6)) ∧ ∃ J9 : Prop, (J9 → (J7 0)) ∧ ((x2 = 0 → J9) ∧ (¬ (x2 = 0) → (w_X14_isOnIn p0 p1 (fun x10 => rg x10 → (x10 = 0 ∨ x10 = 1) → (∃ J11 : Prop, (J11 → (J7 1)) ∧ ((x10 = 0 → J11) ∧ (¬ (x10 = 0) → (w_X14_ver x1 6 (fun x12 => rg x12 → (((x12 = 0 → J11) ∧ (¬ (x12 = 0) → (w_X14_ver x1 6 (fun x13 => rg x13 → (∀ x14 : Int, x14 = wr (x13 - 1) → rg x14 → hk h (hR h 437 6) = 106 ∧ (0 ≤ x14 ∧ x14 < (hn h (hR h 437 6) : Int)) ∧ w_X14_isMet (hR h (hR h 437 6) x14.toNat) p0 (fun x17 => rg x17 → (x17 = 0 ∨ x17 = 1) → (((x17 = 0 → J9) ∧ (¬ (x17 = 0) → J11)))) h)) h))))) h))))) h))))) ∧ (¬ (x5 ≤ x3) → (∃ J23 : Int → Prop, (∀ (x22 : Int), rg x22 → J23 x22 → (∀ x24 : Int, x24 = wr (x3 + 1) → rg x24 → (I4 x22 x24 ∧ m4 x22 x24 < m4 x2 x3))) ∧ ∃ J25 : Prop, (J25 → (J23 0)) ∧ ((x2 = 0 → J25) ∧ (¬ (x2 = 0) → (w_X14_ver x1 (wr (8 + x3)) (fun x26 => rg x26 → (hk h (hR h 437 6) = 106 ∧ (0 ≤ x26 ∧ x26 < (hn h (hR h 437 6) : Int)) ∧ w_X14_isMet (hR h (hR h 437 6) x26.toNat) p0 (fun x29 => rg x29 → (x29 = 0 ∨ x29 = 1) → (((x29 = 0 → J25) ∧ (¬ (x29 = 0) → (J23 1))))) h)) h)))))))) h)))) h)
set_option maxHeartbeats 4000000 in
theorem a_X14_hasNeeds {sc : Nat × (Nat → Int32)} {goal : XO → XH → Prop} {fs : List XF} {h : XH} (p0 : Nat) (p1 : Int) {K : Int → Prop} (hd : fs.length + 5 ≤ 1000) (rp1 : rg p1) (w : w_X14_hasNeeds p0 p1 K h) (t0 : HT h) (k : ∀ (r : Int), rg r → (r = 0 ∨ r = 1) → K r → XFin xP sc goal fs (.inl (some (.int (J r)))) h) : RR sc goal fs 214 0 [some (rv 437), some (rv p0), some (.int (J p1)), none, none, none] [] h := by
  unfold w_X14_hasNeeds at w
  refine r_aldn (pc1 := 1) rfl rfl rfl ?_
  refine r_aldn (pc1 := 2) rfl rfl rfl ?_
  refine r_n (pc1 := 3) [.int (J p1), rv p0, rv 437] _ rfl rfl ?_
  refine r_iv rfl rfl rfl rfl rfl rfl t0 (lyk t0 rfl) rfl (xe_of (xa_r (xa_r (xa_i xa_0))) rfl rfl) (r_d0 hd rfl) (a_X14_slotIn p0 p1 (r_d1 hd rfl) rp1 w t0 (fun x1 rx1 w => ?_))
  refine r_fI (pc1 := 6) rfl ?_
  have w := w rx1
  refine r_istn (pc1 := 7) (ls1 := [some (rv 437), some (rv p0), some (.int (J p1)), some (.int (J x1)), none, none]) rfl rfl rfl rfl ?_
  refine r_n (pc1 := 8) [.int (J 1)] _ rfl rfl ?_
  refine r_ist (pc1 := 10) (ls1 := [some (rv 437), some (rv p0), some (.int (J p1)), some (.int (J x1)), some (.int (J 1)), none]) rfl rfl rfl rfl ?_
  refine r_n (pc1 := 11) [.int (J 0)] _ rfl rfl ?_
  refine r_ist (pc1 := 13) (ls1 := [some (rv 437), some (rv p0), some (.int (J p1)), some (.int (J x1)), some (.int (J 1)), some (.int (J 0))]) rfl rfl rfl rfl ?_
  obtain ⟨I4, m4, w, y4⟩ := w
  have Q4 : ∀ (n : Nat)  (x2 : Int) (x3 : Int), rg x2 → rg x3 → m4 x2 x3 < n → I4 x2 x3 → RR sc goal fs 214 13 [some (rv 437), some (rv p0), some (.int (J p1)), some (.int (J x1)), some (.int (J x2)), some (.int (J x3))] [] h := by
    intro n
    induction n with
    | zero => intro x2 x3 rx2 rx3 q4 _; exact absurd q4 (Nat.not_lt_zero _)
    | succ n ih4 =>
      intro x2 x3 rx2 rx3 q4 z4
      have w := y4 x2 x3 rx2 rx3 z4
      refine r_n (pc1 := 15) [.int (J x3)] _ rfl rfl ?_
      refine r_aldn (pc1 := 16) rfl rfl rfl ?_
      refine r_n (pc1 := 17) [.int (J x1), rv 437, .int (J x3)] _ rfl rfl ?_
      refine r_n (pc1 := 19) [.int (J 7), .int (J x1), rv 437, .int (J x3)] _ rfl rfl ?_
      refine r_iv rfl rfl rfl rfl rfl rfl t0 (lyk t0 rfl) rfl (xe_of (xa_r (xa_i (xa_i xa_0))) rfl rfl) (r_d0 hd rfl) (a_X14_ver x1 7 (r_d1 hd rfl) rx1 (rgk rfl) w t0 (fun x5 rx5 w => ?_))
      refine r_fI (pc1 := 22) rfl ?_
      have w := w rx5
      refine r_ic (t := 66) (pc1 := 25) rfl rfl rfl rx3 rx5 (fun c32 => ?_) (fun c32 => ?_)
      · have w := w.1 c32
        refine r_n (pc1 := 68) [.int (J x2)] _ rfl rfl ?_
        obtain ⟨J7, j7, w⟩ := w
        have Q7 : ∀ (x6 : Int), rg x6 → J7 x6 → RR sc goal fs 214 116 [some (rv 437), some (rv p0), some (.int (J p1)), some (.int (J x1)), some (.int (J x2)), some (.int (J x3))] [.int (J x6)] h := by
          intro x6 rx6 z7
          have w := j7 x6 rx6 z7
          obtain ⟨c8, w⟩ := w
          exact r_retB rfl rfl rfl c8 (k _ rx6 c8 w)
        obtain ⟨J9, j9, w⟩ := w
        have Q9 : J9 → RR sc goal fs 214 115 [some (rv 437), some (rv p0), some (.int (J p1)), some (.int (J x1)), some (.int (J x2)), some (.int (J x3))] [] h := by
          intro z9
          have w := j9 z9
          refine r_n (pc1 := 116) [.int (J 0)] _ rfl rfl ?_
          exact Q7  0  (rgk rfl) w
        refine r_iz (t := 115) (pc1 := 71) rfl rfl rfl rx2 (fun c21 => ?_) (fun c21 => ?_)
        · have w := w.1 c21
          exact Q9     w
        · have w := w.2 c21
          refine r_aldn (pc1 := 72) rfl rfl rfl ?_
          refine r_n (pc1 := 73) [.int (J p1), rv p0] _ rfl rfl ?_
          refine r_iq rfl rfl rfl rfl rfl rfl (xe_of (xa_r (xa_i xa_0)) rfl rfl) (r_d0 hd rfl) (a_X14_isOnIn p0 p1 (r_d1 hd rfl) rp1 w t0 (fun x10 rx10 vx10 w => ?_))
          refine r_fI (pc1 := 76) rfl ?_
          have w := w rx10 vx10
          obtain ⟨J11, j11, w⟩ := w
          have Q11 : J11 → RR sc goal fs 214 111 [some (rv 437), some (rv p0), some (.int (J p1)), some (.int (J x1)), some (.int (J x2)), some (.int (J x3))] [] h := by
            intro z11
            have w := j11 z11
            refine r_n (pc1 := 112) [.int (J 1)] _ rfl rfl ?_
            refine r_goto (t := 116) rfl rfl ?_
            exact Q7  1  (rgk rfl) w
          refine r_iz (t := 111) (pc1 := 79) rfl rfl rfl rx10 (fun c20 => ?_) (fun c20 => ?_)
          · have w := w.1 c20
            exact Q11     w
          · have w := w.2 c20
            refine r_aldn (pc1 := 80) rfl rfl rfl ?_
            refine r_n (pc1 := 81) [.int (J x1), rv 437] _ rfl rfl ?_
            refine r_n (pc1 := 83) [.int (J 6), .int (J x1), rv 437] _ rfl rfl ?_
            refine r_iv rfl rfl rfl rfl rfl rfl t0 (lyk t0 rfl) rfl (xe_of (xa_r (xa_i (xa_i xa_0))) rfl rfl) (r_d0 hd rfl) (a_X14_ver x1 6 (r_d1 hd rfl) rx1 (rgk rfl) w t0 (fun x12 rx12 w => ?_))
            refine r_fI (pc1 := 86) rfl ?_
            have w := w rx12
            refine r_iz (t := 111) (pc1 := 89) rfl rfl rfl rx12 (fun c19 => ?_) (fun c19 => ?_)
            · have w := w.1 c19
              exact Q11     w
            · have w := w.2 c19
              refine r_aldn (pc1 := 90) rfl rfl rfl ?_
              refine r_aldn (pc1 := 91) rfl rfl rfl ?_
              refine r_gfR (pc1 := 94) rfl rfl rfl t0 (lyk t0 rfl) rfl rfl ?_
              refine r_aldn (pc1 := 95) rfl rfl rfl ?_
              refine r_n (pc1 := 96) [.int (J x1), rv 437, rv (hR h 437 6), rv 437] _ rfl rfl ?_
              refine r_n (pc1 := 98) [.int (J 6), .int (J x1), rv 437, rv (hR h 437 6), rv 437] _ rfl rfl ?_
              refine r_iv rfl rfl rfl rfl rfl rfl t0 (lyk t0 rfl) rfl (xe_of (xa_r (xa_i (xa_i xa_0))) rfl rfl) (r_d0 hd rfl) (a_X14_ver x1 6 (r_d1 hd rfl) rx1 (rgk rfl) w t0 (fun x13 rx13 w => ?_))
              refine r_fI (pc1 := 101) rfl ?_
              have w := w rx13
              refine r_n (pc1 := 102) [.int (J 1), .int (J x13), rv (hR h 437 6), rv 437] _ rfl rfl ?_
              refine r_isub (pc1 := 103) rfl rfl ?_
              refine r_vI (rgw _) (fun x14 ex14 rx14 => ?_)
              have w := w x14 ex14 rx14
              obtain ⟨c15, w⟩ := w
              obtain ⟨c16, w⟩ := w
              refine r_aal (pc1 := 104) (u := 6) rfl rfl t0 c15 rfl rfl rx14 c16.1 c16.2 ?_
              refine r_aldn (pc1 := 105) rfl rfl rfl ?_
              refine r_iv rfl rfl rfl rfl rfl rfl t0 (lyk t0 rfl) rfl (xe_of (xa_r (xa_r (xa_r xa_0))) rfl rfl) (r_d0 hd rfl) (a_X14_isMet (hR h (hR h 437 6) x14.toNat) p0 (r_d1 hd rfl)  w t0 (fun x17 rx17 vx17 w => ?_))
              refine r_fI (pc1 := 108) rfl ?_
              have w := w rx17 vx17
              refine r_iz (t := 115) (pc1 := 111) rfl rfl rfl rx17 (fun c18 => ?_) (fun c18 => ?_)
              · have w := w.1 c18
                exact Q9     w
              · have w := w.2 c18
                exact Q11     w
      · have w := w.2 c32
        refine r_n (pc1 := 27) [.int (J x2)] _ rfl rfl ?_
        obtain ⟨J23, j23, w⟩ := w
        have Q23 : ∀ (x22 : Int), rg x22 → J23 x22 → RR sc goal fs 214 58 [some (rv 437), some (rv p0), some (.int (J p1)), some (.int (J x1)), some (.int (J x2)), some (.int (J x3))] [.int (J x22)] h := by
          intro x22 rx22 z23
          have w := j23 x22 rx22 z23
          refine r_ist (pc1 := 60) (ls1 := [some (rv 437), some (rv p0), some (.int (J p1)), some (.int (J x1)), some (.int (J x22)), some (.int (J x3))]) rfl rfl rfl rfl ?_
          refine r_inc (pc1 := 63) (g := fun zz => [some (rv 437), some (rv p0), some (.int (J p1)), some (.int (J x1)), some (.int (J x22)), some (.int (J zz))]) rfl rfl rfl rfl (fun _ => rfl) (fun x24 ex24 rx24 => ?_)
          have w := w x24 ex24 rx24
          refine r_goto (t := 13) rfl rfl ?_
          exact ih4  x22 x24  rx22 rx24 (Nat.lt_of_lt_of_le w.2 (Nat.le_of_lt_succ q4)) w.1
        obtain ⟨J25, j25, w⟩ := w
        have Q25 : J25 → RR sc goal fs 214 57 [some (rv 437), some (rv p0), some (.int (J p1)), some (.int (J x1)), some (.int (J x2)), some (.int (J x3))] [] h := by
          intro z25
          have w := j25 z25
          refine r_n (pc1 := 58) [.int (J 0)] _ rfl rfl ?_
          exact Q23  0  (rgk rfl) w
        refine r_iz (t := 57) (pc1 := 30) rfl rfl rfl rx2 (fun c31 => ?_) (fun c31 => ?_)
        · have w := w.1 c31
          exact Q25     w
        · have w := w.2 c31
          refine r_aldn (pc1 := 31) rfl rfl rfl ?_
          refine r_aldn (pc1 := 32) rfl rfl rfl ?_
          refine r_gfR (pc1 := 35) rfl rfl rfl t0 (lyk t0 rfl) rfl rfl ?_
          refine r_aldn (pc1 := 36) rfl rfl rfl ?_
          refine r_n (pc1 := 37) [.int (J x1), rv 437, rv (hR h 437 6), rv 437] _ rfl rfl ?_
          refine r_n (pc1 := 39) [.int (J 8), .int (J x1), rv 437, rv (hR h 437 6), rv 437] _ rfl rfl ?_
          refine r_n (pc1 := 41) [.int (J x3), .int (J 8), .int (J x1), rv 437, rv (hR h 437 6), rv 437] _ rfl rfl ?_
          refine r_iadd (pc1 := 42) rfl rfl ?_
          refine r_iv rfl rfl rfl rfl rfl rfl t0 (lyk t0 rfl) rfl (xe_of (xa_r (xa_i (xa_i xa_0))) rfl rfl) (r_d0 hd rfl) (a_X14_ver x1 (wr (8 + x3)) (r_d1 hd rfl) rx1 (rgw _) w t0 (fun x26 rx26 w => ?_))
          refine r_fI (pc1 := 45) rfl ?_
          have w := w rx26
          obtain ⟨c27, w⟩ := w
          obtain ⟨c28, w⟩ := w
          refine r_aal (pc1 := 46) (u := 6) rfl rfl t0 c27 rfl rfl rx26 c28.1 c28.2 ?_
          refine r_aldn (pc1 := 47) rfl rfl rfl ?_
          refine r_iv rfl rfl rfl rfl rfl rfl t0 (lyk t0 rfl) rfl (xe_of (xa_r (xa_r (xa_r xa_0))) rfl rfl) (r_d0 hd rfl) (a_X14_isMet (hR h (hR h 437 6) x26.toNat) p0 (r_d1 hd rfl)  w t0 (fun x29 rx29 vx29 w => ?_))
          refine r_fI (pc1 := 50) rfl ?_
          have w := w rx29 vx29
          refine r_iz (t := 57) (pc1 := 53) rfl rfl rfl rx29 (fun c30 => ?_) (fun c30 => ?_)
          · have w := w.1 c30
            exact Q25     w
          · have w := w.2 c30
            refine r_n (pc1 := 54) [.int (J 1)] _ rfl rfl ?_
            refine r_goto (t := 58) rfl rfl ?_
            exact Q23  1  (rgk rfl) w
  exact Q4 _  1 0  (rgk rfl) (rgk rfl) (Nat.lt_succ_self _) w
def w_X14_isSoundSet (p0 : Nat) (K : Int → Prop) (h : XH) : Prop :=
  ((∃ (I5 : Int → Prop) (m5 : Int → Nat), I5 0 ∧ ∀ (x1 : Int), rg x1 → I5 x1 → (((12 ≤ x1 → (K 1)) ∧ (¬ (12 ≤ x1) → (hk h p0 = 100 ∧ (0 ≤ x1 ∧ x1 < (hn h p0 : Int)) ∧ ∃ J11 : Prop, (J11 → (∀ x12 : Int, x12 = wr (x1 + 1) → rg x12 → (I5 x12 ∧ m5 x12 < m5 x1))) ∧ ((¬ hI h p0 x1.toNat = (-1) → (w_X14_slotIn p0 x1 (fun x13 => rg x13 → (w_X14_hasNeeds p0 x1 (fun x14 => rg x14 → (x14 = 0 ∨ x14 = 1) → (∃ J15 : Prop, (J15 → (K 0)) ∧ ((x14 = 0 → J15) ∧ (¬ (x14 = 0) → (w_X14_isOnIn p0 x1 (fun x16 => rg x16 → (x16 = 0 ∨ x16 = 1) → (∃ J17 : Prop, (J17 → ((∃ (I20 : Int → Prop) (m20 : Int → Nat), I20 0 ∧ ∀ (x18 : Int), rg x18 → I20 x18 → (w_X14_ver x13 12 (fun x21 => rg x21 → (((x21 ≤ x18 → J11) ∧ (¬ (x21 ≤ x18) → ((∃ (I23 : Int → Prop) (m23 : Int → Nat), I23 0 ∧ ∀ (x22 : Int), rg x22 → I23 x22 → (((12 ≤ x22 → (∀ x24 : Int, x24 = wr (x18 + 1) → rg x24 → (I20 x24 ∧ m20 x24 < m20 x18))) ∧ (¬ (12 ≤ x22) → (∃ J25 : Prop, (J25 → (∀ x26 : Int, x26 = wr (x22 + 1) → rg x26 → (I23 x26 ∧ m23 x26 < m23 x22))) ∧ ((x22 = x1 → J25) ∧ (¬ (x22 = x1) → ((0 ≤ x22 ∧ x22 < (hn h p0 : Int)) ∧ ((hI h p0 x22.toNat = (-1) → J25) ∧ (¬ (hI h p0 x22.toNat = (-1)) → (w_X14_ver x13 (wr (13 + x18)) (fun x28 => rg x28 → (hk h (hR h 437 6) = 106 ∧ (0 ≤ x28 ∧ x28 < (hn h (hR h 437 6) : Int)) ∧ w_X14_slotIn p0 x22 (fun x31 => rg x31 → (w_X14_meets (hR h (hR h 437 6) x28.toNat) x31 (fun x32 => rg x32 → (x32 = 0 ∨ x32 = 1) → (((x32 = 0 → J25) ∧ (¬ (x32 = 0) → (K 0))))) h)) h)) h)))))))))))))))) h)))) ∧ ((x16 = 0 → J17) ∧ (¬ (x16 = 0) → (w_X14_ver x13 6 (fun x38 => rg x38 → (((¬ x38 = 0 → J17) ∧ (¬ (¬ x38 = 0) → J15)))) h))))) h))))) h)) h)) ∧ (¬ (¬ hI h p0 x1.toNat = (-1)) → (J11)))))))))
set_option maxHeartbeats 4000000 in
theorem a_X14_isSoundSet {sc : Nat × (Nat → Int32)} {goal : XO → XH → Prop} {fs : List XF} {h : XH} (p0 : Nat) {K : Int → Prop} (hd : fs.length + 6 ≤ 1000) (w : w_X14_isSoundSet p0 K h) (t0 : HT h) (k : ∀ (r : Int), rg r → (r = 0 ∨ r = 1) → K r → XFin xP sc goal fs (.inl (some (.int (J r)))) h) : RR sc goal fs 239 0 [some (rv 437), some (rv p0), none, none, none, none] [] h := by
  unfold w_X14_isSoundSet at w
  refine r_n (pc1 := 1) [.int (J 0)] _ rfl rfl ?_
  refine r_istn (pc1 := 2) (ls1 := [some (rv 437), some (rv p0), some (.int (J 0)), none, none, none]) rfl rfl rfl (xput1_rv rfl rfl) ?_
  obtain ⟨I5, m5, w, y5⟩ := w
  have Q5 : ∀ (n : Nat) (d2 : Option Value) (d3 : Option Value) (d4 : Option Value) (x1 : Int), rg x1 → m5 x1 < n → I5 x1 → RR sc goal fs 239 2 [some (rv 437), some (rv p0), some (.int (J x1)), d2, d3, d4] [] h := by
    intro n
    induction n with
    | zero => intro d2 d3 d4 x1 rx1 q5 _; exact absurd q5 (Nat.not_lt_zero _)
    | succ n ih5 =>
      intro d2 d3 d4 x1 rx1 q5 z5
      have w := y5 x1 rx1 z5
      refine r_n (pc1 := 3) [.int (J x1)] _ rfl rfl ?_
      refine r_n (pc1 := 5) [.int (J 12), .int (J x1)] _ rfl rfl ?_
      refine r_ic (t := 142) (pc1 := 8) rfl rfl rfl rx1 (rgk rfl) (fun c43 => ?_) (fun c43 => ?_)
      · have w := w.1 c43
        refine r_n (pc1 := 143) [.int (J 1)] _ rfl rfl ?_
        exact r_retB rfl rfl rfl (.inr rfl) (k _ (rgk rfl) (.inr rfl) w)
      · have w := w.2 c43
        refine r_aldn (pc1 := 9) rfl rfl rfl ?_
        refine r_n (pc1 := 10) [.int (J x1), rv p0] _ rfl rfl ?_
        obtain ⟨c6, w⟩ := w
        obtain ⟨c7, w⟩ := w
        refine r_ial (pc1 := 11) rfl rfl t0 c6 rx1 c7.1 c7.2 ?_
        refine r_n (pc1 := 12) [.int (J (-1)), .int (J (hI h p0 x1.toNat))] _ rfl rfl ?_
        obtain ⟨J11, j11, w⟩ := w
        have Q11 : ∀ (d8 : Option Value) (d9 : Option Value) (d10 : Option Value), J11 → RR sc goal fs 239 136 [some (rv 437), some (rv p0), some (.int (J x1)), d8, d9, d10] [] h := by
          intro d8 d9 d10 z11
          have w := j11 z11
          refine r_inc (pc1 := 139) (g := fun zz => [some (rv 437), some (rv p0), some (.int (J zz)), d8, d9, d10]) rfl rfl rfl rfl (fun _ => xput1_rv rfl rfl) (fun x12 ex12 rx12 => ?_)
          have w := w x12 ex12 rx12
          refine r_goto (t := 2) rfl rfl ?_
          exact ih5 _ _ _ x12  rx12 (Nat.lt_of_lt_of_le w.2 (Nat.le_of_lt_succ q5)) w.1
        refine r_ic (t := 18) (pc1 := 15) rfl rfl rfl (rgh _ _ _) (rgk rfl) (fun c42 => ?_) (fun c42 => ?_)
        · have w := w.1 c42
          refine r_aldn (pc1 := 19) rfl rfl rfl ?_
          refine r_aldn (pc1 := 20) rfl rfl rfl ?_
          refine r_n (pc1 := 21) [.int (J x1), rv p0, rv 437] _ rfl rfl ?_
          refine r_iv rfl rfl rfl rfl rfl rfl t0 (lyk t0 rfl) rfl (xe_of (xa_r (xa_r (xa_i xa_0))) rfl rfl) (r_d0 hd rfl) (a_X14_slotIn p0 x1 (r_d1 hd rfl) rx1 w t0 (fun x13 rx13 w => ?_))
          refine r_fI (pc1 := 24) rfl ?_
          have w := w rx13
          refine r_istn (pc1 := 25) (ls1 := [some (rv 437), some (rv p0), some (.int (J x1)), some (.int (J x13)), d3, d4]) rfl rfl rfl rfl ?_
          refine r_aldn (pc1 := 26) rfl rfl rfl ?_
          refine r_aldn (pc1 := 27) rfl rfl rfl ?_
          refine r_n (pc1 := 28) [.int (J x1), rv p0, rv 437] _ rfl rfl ?_
          refine r_iv rfl rfl rfl rfl rfl rfl t0 (lyk t0 rfl) rfl (xe_of (xa_r (xa_r (xa_i xa_0))) rfl rfl) (r_d0 hd rfl) (a_X14_hasNeeds p0 x1 (r_d1 hd rfl) rx1 w t0 (fun x14 rx14 vx14 w => ?_))
          refine r_fI (pc1 := 31) rfl ?_
          have w := w rx14 vx14
          obtain ⟨J15, j15, w⟩ := w
          have Q15 : J15 → RR sc goal fs 239 52 [some (rv 437), some (rv p0), some (.int (J x1)), some (.int (J x13)), d3, d4] [] h := by
            intro z15
            have w := j15 z15
            refine r_n (pc1 := 53) [.int (J 0)] _ rfl rfl ?_
            exact r_retB rfl rfl rfl (.inl rfl) (k _ (rgk rfl) (.inl rfl) w)
          refine r_iz (t := 52) (pc1 := 34) rfl rfl rfl rx14 (fun c41 => ?_) (fun c41 => ?_)
          · have w := w.1 c41
            exact Q15     w
          · have w := w.2 c41
            refine r_aldn (pc1 := 35) rfl rfl rfl ?_
            refine r_n (pc1 := 36) [.int (J x1), rv p0] _ rfl rfl ?_
            refine r_iq rfl rfl rfl rfl rfl rfl (xe_of (xa_r (xa_i xa_0)) rfl rfl) (r_d0 hd rfl) (a_X14_isOnIn p0 x1 (r_d1 hd rfl) rx1 w t0 (fun x16 rx16 vx16 w => ?_))
            refine r_fI (pc1 := 39) rfl ?_
            have w := w rx16 vx16
            obtain ⟨J17, j17, w⟩ := w
            have Q17 : J17 → RR sc goal fs 239 54 [some (rv 437), some (rv p0), some (.int (J x1)), some (.int (J x13)), d3, d4] [] h := by
              intro z17
              have w := j17 z17
              refine r_n (pc1 := 55) [.int (J 0)] _ rfl rfl ?_
              refine r_ist (pc1 := 57) (ls1 := [some (rv 437), some (rv p0), some (.int (J x1)), some (.int (J x13)), some (.int (J 0)), d4]) rfl rfl rfl rfl ?_
              obtain ⟨I20, m20, w, y20⟩ := w
              have Q20 : ∀ (n : Nat) (d19 : Option Value) (x18 : Int), rg x18 → m20 x18 < n → I20 x18 → RR sc goal fs 239 57 [some (rv 437), some (rv p0), some (.int (J x1)), some (.int (J x13)), some (.int (J x18)), d19] [] h := by
                intro n
                induction n with
                | zero => intro d19 x18 rx18 q20 _; exact absurd q20 (Nat.not_lt_zero _)
                | succ n ih20 =>
                  intro d19 x18 rx18 q20 z20
                  have w := y20 x18 rx18 z20
                  refine r_n (pc1 := 59) [.int (J x18)] _ rfl rfl ?_
                  refine r_aldn (pc1 := 60) rfl rfl rfl ?_
                  refine r_n (pc1 := 61) [.int (J x13), rv 437, .int (J x18)] _ rfl rfl ?_
                  refine r_n (pc1 := 63) [.int (J 12), .int (J x13), rv 437, .int (J x18)] _ rfl rfl ?_
                  refine r_iv rfl rfl rfl rfl rfl rfl t0 (lyk t0 rfl) rfl (xe_of (xa_r (xa_i (xa_i xa_0))) rfl rfl) (r_d0 hd rfl) (a_X14_ver x13 12 (r_d1 hd rfl) rx13 (rgk rfl) w t0 (fun x21 rx21 w => ?_))
                  refine r_fI (pc1 := 66) rfl ?_
                  have w := w rx21
                  refine r_ic (t := 136) (pc1 := 69) rfl rfl rfl rx18 rx21 (fun c37 => ?_) (fun c37 => ?_)
                  · have w := w.1 c37
                    exact Q11 _ _ _    w
                  · have w := w.2 c37
                    refine r_n (pc1 := 70) [.int (J 0)] _ rfl rfl ?_
                    refine r_ist (pc1 := 72) (ls1 := [some (rv 437), some (rv p0), some (.int (J x1)), some (.int (J x13)), some (.int (J x18)), some (.int (J 0))]) rfl rfl rfl rfl ?_
                    obtain ⟨I23, m23, w, y23⟩ := w
                    have Q23 : ∀ (n : Nat)  (x22 : Int), rg x22 → m23 x22 < n → I23 x22 → RR sc goal fs 239 72 [some (rv 437), some (rv p0), some (.int (J x1)), some (.int (J x13)), some (.int (J x18)), some (.int (J x22))] [] h := by
                      intro n
                      induction n with
                      | zero => intro x22 rx22 q23 _; exact absurd q23 (Nat.not_lt_zero _)
                      | succ n ih23 =>
                        intro x22 rx22 q23 z23
                        have w := y23 x22 rx22 z23
                        refine r_n (pc1 := 74) [.int (J x22)] _ rfl rfl ?_
                        refine r_n (pc1 := 76) [.int (J 12), .int (J x22)] _ rfl rfl ?_
                        refine r_ic (t := 130) (pc1 := 79) rfl rfl rfl rx22 (rgk rfl) (fun c36 => ?_) (fun c36 => ?_)
                        · have w := w.1 c36
                          refine r_inc (pc1 := 133) (g := fun zz => [some (rv 437), some (rv p0), some (.int (J x1)), some (.int (J x13)), some (.int (J zz)), some (.int (J x22))]) rfl rfl rfl rfl (fun _ => rfl) (fun x24 ex24 rx24 => ?_)
                          have w := w x24 ex24 rx24
                          refine r_goto (t := 57) rfl rfl ?_
                          exact ih20 _ x24  rx24 (Nat.lt_of_lt_of_le w.2 (Nat.le_of_lt_succ q20)) w.1
                        · have w := w.2 c36
                          refine r_n (pc1 := 81) [.int (J x22)] _ rfl rfl ?_
                          refine r_n (pc1 := 82) [.int (J x1), .int (J x22)] _ rfl rfl ?_
                          obtain ⟨J25, j25, w⟩ := w
                          have Q25 : J25 → RR sc goal fs 239 124 [some (rv 437), some (rv p0), some (.int (J x1)), some (.int (J x13)), some (.int (J x18)), some (.int (J x22))] [] h := by
                            intro z25
                            have w := j25 z25
                            refine r_inc (pc1 := 127) (g := fun zz => [some (rv 437), some (rv p0), some (.int (J x1)), some (.int (J x13)), some (.int (J x18)), some (.int (J zz))]) rfl rfl rfl rfl (fun _ => rfl) (fun x26 ex26 rx26 => ?_)
                            have w := w x26 ex26 rx26
                            refine r_goto (t := 72) rfl rfl ?_
                            exact ih23  x26  rx26 (Nat.lt_of_lt_of_le w.2 (Nat.le_of_lt_succ q23)) w.1
                          refine r_ic (t := 124) (pc1 := 85) rfl rfl rfl rx22 rx1 (fun c35 => ?_) (fun c35 => ?_)
                          · have w := w.1 c35
                            exact Q25     w
                          · have w := w.2 c35
                            refine r_aldn (pc1 := 86) rfl rfl rfl ?_
                            refine r_n (pc1 := 88) [.int (J x22), rv p0] _ rfl rfl ?_
                            obtain ⟨c27, w⟩ := w
                            refine r_ial (pc1 := 89) rfl rfl t0 c6 rx22 c27.1 c27.2 ?_
                            refine r_n (pc1 := 90) [.int (J (-1)), .int (J (hI h p0 x22.toNat))] _ rfl rfl ?_
                            refine r_ic (t := 124) (pc1 := 93) rfl rfl rfl (rgh _ _ _) (rgk rfl) (fun c34 => ?_) (fun c34 => ?_)
                            · have w := w.1 c34
                              exact Q25     w
                            · have w := w.2 c34
                              refine r_aldn (pc1 := 94) rfl rfl rfl ?_
                              refine r_aldn (pc1 := 95) rfl rfl rfl ?_
                              refine r_gfR (pc1 := 98) rfl rfl rfl t0 (lyk t0 rfl) rfl rfl ?_
                              refine r_aldn (pc1 := 99) rfl rfl rfl ?_
                              refine r_n (pc1 := 100) [.int (J x13), rv 437, rv (hR h 437 6), rv 437] _ rfl rfl ?_
                              refine r_n (pc1 := 102) [.int (J 13), .int (J x13), rv 437, rv (hR h 437 6), rv 437] _ rfl rfl ?_
                              refine r_n (pc1 := 104) [.int (J x18), .int (J 13), .int (J x13), rv 437, rv (hR h 437 6), rv 437] _ rfl rfl ?_
                              refine r_iadd (pc1 := 105) rfl rfl ?_
                              refine r_iv rfl rfl rfl rfl rfl rfl t0 (lyk t0 rfl) rfl (xe_of (xa_r (xa_i (xa_i xa_0))) rfl rfl) (r_d0 hd rfl) (a_X14_ver x13 (wr (13 + x18)) (r_d1 hd rfl) rx13 (rgw _) w t0 (fun x28 rx28 w => ?_))
                              refine r_fI (pc1 := 108) rfl ?_
                              have w := w rx28
                              obtain ⟨c29, w⟩ := w
                              obtain ⟨c30, w⟩ := w
                              refine r_aal (pc1 := 109) (u := 6) rfl rfl t0 c29 rfl rfl rx28 c30.1 c30.2 ?_
                              refine r_aldn (pc1 := 110) rfl rfl rfl ?_
                              refine r_aldn (pc1 := 111) rfl rfl rfl ?_
                              refine r_n (pc1 := 113) [.int (J x22), rv p0, rv 437, rv (hR h (hR h 437 6) x28.toNat), rv 437] _ rfl rfl ?_
                              refine r_iv rfl rfl rfl rfl rfl rfl t0 (lyk t0 rfl) rfl (xe_of (xa_r (xa_r (xa_i xa_0))) rfl rfl) (r_d0 hd rfl) (a_X14_slotIn p0 x22 (r_d1 hd rfl) rx22 w t0 (fun x31 rx31 w => ?_))
                              refine r_fI (pc1 := 116) rfl ?_
                              have w := w rx31
                              refine r_iv rfl rfl rfl rfl rfl rfl t0 (lyk t0 rfl) rfl (xe_of (xa_r (xa_r (xa_i xa_0))) rfl rfl) (r_d0 hd rfl) (a_X14_meets (hR h (hR h 437 6) x28.toNat) x31 (r_d1 hd rfl) rx31 w t0 (fun x32 rx32 vx32 w => ?_))
                              refine r_fI (pc1 := 119) rfl ?_
                              have w := w rx32 vx32
                              refine r_iz (t := 124) (pc1 := 122) rfl rfl rfl rx32 (fun c33 => ?_) (fun c33 => ?_)
                              · have w := w.1 c33
                                exact Q25     w
                              · have w := w.2 c33
                                refine r_n (pc1 := 123) [.int (J 0)] _ rfl rfl ?_
                                exact r_retB rfl rfl rfl (.inl rfl) (k _ (rgk rfl) (.inl rfl) w)
                    exact Q23 _  0  (rgk rfl) (Nat.lt_succ_self _) w
              exact Q20 _ _ 0  (rgk rfl) (Nat.lt_succ_self _) w
            refine r_iz (t := 54) (pc1 := 42) rfl rfl rfl rx16 (fun c40 => ?_) (fun c40 => ?_)
            · have w := w.1 c40
              exact Q17     w
            · have w := w.2 c40
              refine r_aldn (pc1 := 43) rfl rfl rfl ?_
              refine r_n (pc1 := 44) [.int (J x13), rv 437] _ rfl rfl ?_
              refine r_n (pc1 := 46) [.int (J 6), .int (J x13), rv 437] _ rfl rfl ?_
              refine r_iv rfl rfl rfl rfl rfl rfl t0 (lyk t0 rfl) rfl (xe_of (xa_r (xa_i (xa_i xa_0))) rfl rfl) (r_d0 hd rfl) (a_X14_ver x13 6 (r_d1 hd rfl) rx13 (rgk rfl) w t0 (fun x38 rx38 w => ?_))
              refine r_fI (pc1 := 49) rfl ?_
              have w := w rx38
              refine r_iz (t := 54) (pc1 := 52) rfl rfl rfl rx38 (fun c39 => ?_) (fun c39 => ?_)
              · have w := w.1 c39
                exact Q17     w
              · have w := w.2 c39
                exact Q15     w
        · have w := w.2 c42
          refine r_goto (t := 136) rfl rfl ?_
          exact Q11 _ _ _    w
  exact Q5 _ _ _ _ 0  (rgk rfl) (Nat.lt_succ_self _) w
def w_X14_fitsHere (p0 : Nat) (K : Int → Prop) (h : XH) : Prop :=
  ((∃ (I3 : Int → Prop) (m3 : Int → Nat), I3 0 ∧ ∀ (x1 : Int), rg x1 → I3 x1 → (((12 ≤ x1 → ((∃ (I5 : Int → Prop) (m5 : Int → Nat), I5 0 ∧ ∀ (x4 : Int), rg x4 → I5 x4 → (w_X14_rootAt 0 (fun x6 => rg x6 → (((x6 ≤ x4 → (w_X14_isSoundSet p0 (fun x7 => rg x7 → (x7 = 0 ∨ x7 = 1) → (K x7)) h)) ∧ (¬ (x6 ≤ x4) → (w_X14_wishAt x4 (fun a8 => (∃ J9 : Prop, (J9 → (∀ x10 : Int, x10 = wr (x4 + 1) → rg x10 → (I5 x10 ∧ m5 x10 < m5 x4))) ∧ ((a8 = 0 → J9) ∧ (¬ (a8 = 0) → (w_X14_wishAt x4 (fun a11 => (w_X14_isMet a11 p0 (fun x12 => rg x12 → (x12 = 0 ∨ x12 = 1) → (((¬ x12 = 0 → J9) ∧ (¬ (¬ x12 = 0) → (K 0))))) h)) h))))) h))))) h)))) ∧ (¬ (12 ≤ x1) → (w_X14_isHeld x1 (fun x16 => rg x16 → (x16 = 0 ∨ x16 = 1) → (∃ J17 : Prop, (J17 → (w_X14_rootAt (wr (10 + x1)) (fun x18 => rg x18 → (∃ J19 : Prop, (J19 → (∀ x20 : Int, x20 = wr (x1 + 1) → rg x20 → (I3 x20 ∧ m3 x20 < m3 x1))) ∧ ((x18 ≤ 0 → J19) ∧ (¬ (x18 ≤ 0) → (hk h p0 = 100 ∧ (0 ≤ x1 ∧ x1 < (hn h p0 : Int)) ∧ ((hI h p0 x1.toNat = (-1) → J19) ∧ (¬ (hI h p0 x1.toNat = (-1)) → (∀ x23 : Int, x23 = wr (x18 - 1) → rg x23 → hk h (hR h 437 6) = 106 ∧ (0 ≤ x23 ∧ x23 < (hn h (hR h 437 6) : Int)) ∧ w_X14_codeIn p0 x1 (fun x26 => rg x26 → (w_X14_meetsRange (hR h (hR h 437 6) x23.toNat) 0 x26 (fun x27 => rg x27 → (x27 = 0 ∨ x27 = 1) → (((¬ x27 = 0 → J19) ∧ (¬ (¬ x27 = 0) → (K 0))))) h)) h)))))))) h)) ∧ ((x16 = 0 → J17) ∧ (¬ (x16 = 0) → (hk h p0 = 100 ∧ (0 ≤ x1 ∧ x1 < (hn h p0 : Int)) ∧ w_X14_rootAt (wr (23 + x1)) (fun x33 => rg x33 → (((hI h p0 x1.toNat = x33 → J17) ∧ (¬ (hI h p0 x1.toNat = x33) → (K 0))))) h))))) h))))))
set_option maxHeartbeats 4000000 in
theorem a_X14_fitsHere {sc : Nat × (Nat → Int32)} {goal : XO → XH → Prop} {fs : List XF} {h : XH} (p0 : Nat) {K : Int → Prop} (hd : fs.length + 7 ≤ 1000) (w : w_X14_fitsHere p0 K h) (t0 : HT h) (k : ∀ (r : Int), rg r → (r = 0 ∨ r = 1) → K r → XFin xP sc goal fs (.inl (some (.int (J r)))) h) : RR sc goal fs 207 0 [some (rv 437), some (rv p0), none, none] [] h := by
  unfold w_X14_fitsHere at w
  refine r_n (pc1 := 1) [.int (J 0)] _ rfl rfl ?_
  refine r_istn (pc1 := 2) (ls1 := [some (rv 437), some (rv p0), some (.int (J 0)), none]) rfl rfl rfl (xput1_rv rfl rfl) ?_
  obtain ⟨I3, m3, w, y3⟩ := w
  have Q3 : ∀ (n : Nat) (d2 : Option Value) (x1 : Int), rg x1 → m3 x1 < n → I3 x1 → RR sc goal fs 207 2 [some (rv 437), some (rv p0), some (.int (J x1)), d2] [] h := by
    intro n
    induction n with
    | zero => intro d2 x1 rx1 q3 _; exact absurd q3 (Nat.not_lt_zero _)
    | succ n ih3 =>
      intro d2 x1 rx1 q3 z3
      have w := y3 x1 rx1 z3
      refine r_n (pc1 := 3) [.int (J x1)] _ rfl rfl ?_
      refine r_n (pc1 := 5) [.int (J 12), .int (J x1)] _ rfl rfl ?_
      refine r_ic (t := 80) (pc1 := 8) rfl rfl rfl rx1 (rgk rfl) (fun c36 => ?_) (fun c36 => ?_)
      · have w := w.1 c36
        refine r_n (pc1 := 81) [.int (J 0)] _ rfl rfl ?_
        refine r_istn (pc1 := 82) (ls1 := [some (rv 437), some (rv p0), some (.int (J 0)), d2]) rfl rfl rfl (xput1_rv rfl rfl) ?_
        obtain ⟨I5, m5, w, y5⟩ := w
        have Q5 : ∀ (n : Nat)  (x4 : Int), rg x4 → m5 x4 < n → I5 x4 → RR sc goal fs 207 82 [some (rv 437), some (rv p0), some (.int (J x4)), d2] [] h := by
          intro n
          induction n with
          | zero => intro x4 rx4 q5 _; exact absurd q5 (Nat.not_lt_zero _)
          | succ n ih5 =>
            intro x4 rx4 q5 z5
            have w := y5 x4 rx4 z5
            refine r_n (pc1 := 83) [.int (J x4)] _ rfl rfl ?_
            refine r_aldn (pc1 := 84) rfl rfl rfl ?_
            refine r_n (pc1 := 85) [.int (J 0), rv 437, .int (J x4)] _ rfl rfl ?_
            refine r_iv rfl rfl rfl rfl rfl rfl t0 (lyk t0 rfl) rfl (xe_of (xa_r (xa_i xa_0)) rfl rfl) (r_d0 hd rfl) (a_X14_rootAt 0 (r_d1 hd rfl) (rgk rfl) w t0 (fun x6 rx6 w => ?_))
            refine r_fI (pc1 := 88) rfl ?_
            have w := w rx6
            refine r_ic (t := 120) (pc1 := 91) rfl rfl rfl rx4 rx6 (fun c15 => ?_) (fun c15 => ?_)
            · have w := w.1 c15
              refine r_aldn (pc1 := 121) rfl rfl rfl ?_
              refine r_aldn (pc1 := 122) rfl rfl rfl ?_
              refine r_iv rfl rfl rfl rfl rfl rfl t0 (lyk t0 rfl) rfl (xe_of (xa_r (xa_r xa_0)) rfl rfl) (r_d0 hd rfl) (a_X14_isSoundSet p0 (r_d1 hd rfl)  w t0 (fun x7 rx7 vx7 w => ?_))
              refine r_fI (pc1 := 125) rfl ?_
              have w := w rx7 vx7
              exact r_retB rfl rfl rfl vx7 (k _ rx7 vx7 w)
            · have w := w.2 c15
              refine r_aldn (pc1 := 92) rfl rfl rfl ?_
              refine r_n (pc1 := 93) [.int (J x4), rv 437] _ rfl rfl ?_
              refine r_iv rfl rfl rfl rfl rfl rfl t0 (lyk t0 rfl) rfl (xe_of (xa_r (xa_i xa_0)) rfl rfl) (r_d0 hd rfl) (a_X14_wishAt x4 (r_d1 hd rfl) rx4 w t0 (fun a8 w => ?_))
              refine r_fR (pc1 := 96) rfl ?_
              obtain ⟨J9, j9, w⟩ := w
              have Q9 : J9 → RR sc goal fs 207 114 [some (rv 437), some (rv p0), some (.int (J x4)), d2] [] h := by
                intro z9
                have w := j9 z9
                refine r_inc (pc1 := 117) (g := fun zz => [some (rv 437), some (rv p0), some (.int (J zz)), d2]) rfl rfl rfl rfl (fun _ => xput1_rv rfl rfl) (fun x10 ex10 rx10 => ?_)
                have w := w x10 ex10 rx10
                refine r_goto (t := 82) rfl rfl ?_
                exact ih5  x10  rx10 (Nat.lt_of_lt_of_le w.2 (Nat.le_of_lt_succ q5)) w.1
              refine r_null (t := 114) (pc1 := 99) rfl rfl rfl (fun c14 => ?_) (fun c14 => ?_)
              · have w := w.1 c14
                exact Q9     w
              · have w := w.2 c14
                refine r_aldn (pc1 := 100) rfl rfl rfl ?_
                refine r_aldn (pc1 := 101) rfl rfl rfl ?_
                refine r_n (pc1 := 102) [.int (J x4), rv 437, rv 437] _ rfl rfl ?_
                refine r_iv rfl rfl rfl rfl rfl rfl t0 (lyk t0 rfl) rfl (xe_of (xa_r (xa_i xa_0)) rfl rfl) (r_d0 hd rfl) (a_X14_wishAt x4 (r_d1 hd rfl) rx4 w t0 (fun a11 w => ?_))
                refine r_fR (pc1 := 105) rfl ?_
                refine r_aldn (pc1 := 106) rfl rfl rfl ?_
                refine r_iv rfl rfl rfl rfl rfl rfl t0 (lyk t0 rfl) rfl (xe_of (xa_r (xa_r (xa_r xa_0))) rfl rfl) (r_d0 hd rfl) (a_X14_isMet a11 p0 (r_d1 hd rfl)  w t0 (fun x12 rx12 vx12 w => ?_))
                refine r_fI (pc1 := 109) rfl ?_
                have w := w rx12 vx12
                refine r_iz (t := 114) (pc1 := 112) rfl rfl rfl rx12 (fun c13 => ?_) (fun c13 => ?_)
                · have w := w.1 c13
                  exact Q9     w
                · have w := w.2 c13
                  refine r_n (pc1 := 113) [.int (J 0)] _ rfl rfl ?_
                  exact r_retB rfl rfl rfl (.inl rfl) (k _ (rgk rfl) (.inl rfl) w)
        exact Q5 _  0  (rgk rfl) (Nat.lt_succ_self _) w
      · have w := w.2 c36
        refine r_aldn (pc1 := 9) rfl rfl rfl ?_
        refine r_n (pc1 := 10) [.int (J x1), rv 437] _ rfl rfl ?_
        refine r_iv rfl rfl rfl rfl rfl rfl t0 (lyk t0 rfl) rfl (xe_of (xa_r (xa_i xa_0)) rfl rfl) (r_d0 hd rfl) (a_X14_isHeld x1 (r_d1 hd rfl) rx1 w t0 (fun x16 rx16 vx16 w => ?_))
        refine r_fI (pc1 := 13) rfl ?_
        have w := w rx16 vx16
        obtain ⟨J17, j17, w⟩ := w
        have Q17 : J17 → RR sc goal fs 207 32 [some (rv 437), some (rv p0), some (.int (J x1)), d2] [] h := by
          intro z17
          have w := j17 z17
          refine r_aldn (pc1 := 33) rfl rfl rfl ?_
          refine r_n (pc1 := 35) [.int (J 10), rv 437] _ rfl rfl ?_
          refine r_n (pc1 := 36) [.int (J x1), .int (J 10), rv 437] _ rfl rfl ?_
          refine r_iadd (pc1 := 37) rfl rfl ?_
          refine r_iv rfl rfl rfl rfl rfl rfl t0 (lyk t0 rfl) rfl (xe_of (xa_r (xa_i xa_0)) rfl rfl) (r_d0 hd rfl) (a_X14_rootAt (wr (10 + x1)) (r_d1 hd rfl) (rgw _) w t0 (fun x18 rx18 w => ?_))
          refine r_fI (pc1 := 40) rfl ?_
          have w := w rx18
          refine r_istn (pc1 := 41) (ls1 := [some (rv 437), some (rv p0), some (.int (J x1)), some (.int (J x18))]) rfl rfl rfl rfl ?_
          refine r_n (pc1 := 42) [.int (J x18)] _ rfl rfl ?_
          obtain ⟨J19, j19, w⟩ := w
          have Q19 : J19 → RR sc goal fs 207 74 [some (rv 437), some (rv p0), some (.int (J x1)), some (.int (J x18))] [] h := by
            intro z19
            have w := j19 z19
            refine r_inc (pc1 := 77) (g := fun zz => [some (rv 437), some (rv p0), some (.int (J zz)), some (.int (J x18))]) rfl rfl rfl rfl (fun _ => xput1_rv rfl rfl) (fun x20 ex20 rx20 => ?_)
            have w := w x20 ex20 rx20
            refine r_goto (t := 2) rfl rfl ?_
            exact ih3 _ x20  rx20 (Nat.lt_of_lt_of_le w.2 (Nat.le_of_lt_succ q3)) w.1
          refine r_iz (t := 74) (pc1 := 45) rfl rfl rfl rx18 (fun c30 => ?_) (fun c30 => ?_)
          · have w := w.1 c30
            exact Q19     w
          · have w := w.2 c30
            refine r_aldn (pc1 := 46) rfl rfl rfl ?_
            refine r_n (pc1 := 47) [.int (J x1), rv p0] _ rfl rfl ?_
            obtain ⟨c21, w⟩ := w
            obtain ⟨c22, w⟩ := w
            refine r_ial (pc1 := 48) rfl rfl t0 c21 rx1 c22.1 c22.2 ?_
            refine r_n (pc1 := 49) [.int (J (-1)), .int (J (hI h p0 x1.toNat))] _ rfl rfl ?_
            refine r_ic (t := 74) (pc1 := 52) rfl rfl rfl (rgh _ _ _) (rgk rfl) (fun c29 => ?_) (fun c29 => ?_)
            · have w := w.1 c29
              exact Q19     w
            · have w := w.2 c29
              refine r_aldn (pc1 := 53) rfl rfl rfl ?_
              refine r_gfR (pc1 := 56) rfl rfl rfl t0 (lyk t0 rfl) rfl rfl ?_
              refine r_n (pc1 := 57) [.int (J x18), rv (hR h 437 6)] _ rfl rfl ?_
              refine r_n (pc1 := 58) [.int (J 1), .int (J x18), rv (hR h 437 6)] _ rfl rfl ?_
              refine r_isub (pc1 := 59) rfl rfl ?_
              refine r_vI (rgw _) (fun x23 ex23 rx23 => ?_)
              have w := w x23 ex23 rx23
              obtain ⟨c24, w⟩ := w
              obtain ⟨c25, w⟩ := w
              refine r_aal (pc1 := 60) (u := 6) rfl rfl t0 c24 rfl rfl rx23 c25.1 c25.2 ?_
              refine r_n (pc1 := 61) [.int (J 0), rv (hR h (hR h 437 6) x23.toNat)] _ rfl rfl ?_
              refine r_aldn (pc1 := 62) rfl rfl rfl ?_
              refine r_n (pc1 := 63) [.int (J x1), rv p0, .int (J 0), rv (hR h (hR h 437 6) x23.toNat)] _ rfl rfl ?_
              refine r_iq rfl rfl rfl rfl rfl rfl (xe_of (xa_r (xa_i xa_0)) rfl rfl) (r_d0 hd rfl) (a_X14_codeIn p0 x1 (r_d1 hd rfl) rx1 w t0 (fun x26 rx26 w => ?_))
              refine r_fI (pc1 := 66) rfl ?_
              have w := w rx26
              refine r_iq rfl rfl rfl rfl rfl rfl (xe_of (xa_r (xa_i (xa_i xa_0))) rfl rfl) (r_d0 hd rfl) (a_X14_meetsRange (hR h (hR h 437 6) x23.toNat) 0 x26 (r_d1 hd rfl) (rgk rfl) rx26 w t0 (fun x27 rx27 vx27 w => ?_))
              refine r_fI (pc1 := 69) rfl ?_
              have w := w rx27 vx27
              refine r_iz (t := 74) (pc1 := 72) rfl rfl rfl rx27 (fun c28 => ?_) (fun c28 => ?_)
              · have w := w.1 c28
                exact Q19     w
              · have w := w.2 c28
                refine r_n (pc1 := 73) [.int (J 0)] _ rfl rfl ?_
                exact r_retB rfl rfl rfl (.inl rfl) (k _ (rgk rfl) (.inl rfl) w)
        refine r_iz (t := 32) (pc1 := 16) rfl rfl rfl rx16 (fun c35 => ?_) (fun c35 => ?_)
        · have w := w.1 c35
          exact Q17     w
        · have w := w.2 c35
          refine r_aldn (pc1 := 17) rfl rfl rfl ?_
          refine r_n (pc1 := 18) [.int (J x1), rv p0] _ rfl rfl ?_
          obtain ⟨c31, w⟩ := w
          obtain ⟨c32, w⟩ := w
          refine r_ial (pc1 := 19) rfl rfl t0 c31 rx1 c32.1 c32.2 ?_
          refine r_aldn (pc1 := 20) rfl rfl rfl ?_
          refine r_n (pc1 := 22) [.int (J 23), rv 437, .int (J (hI h p0 x1.toNat))] _ rfl rfl ?_
          refine r_n (pc1 := 23) [.int (J x1), .int (J 23), rv 437, .int (J (hI h p0 x1.toNat))] _ rfl rfl ?_
          refine r_iadd (pc1 := 24) rfl rfl ?_
          refine r_iv rfl rfl rfl rfl rfl rfl t0 (lyk t0 rfl) rfl (xe_of (xa_r (xa_i xa_0)) rfl rfl) (r_d0 hd rfl) (a_X14_rootAt (wr (23 + x1)) (r_d1 hd rfl) (rgw _) w t0 (fun x33 rx33 w => ?_))
          refine r_fI (pc1 := 27) rfl ?_
          have w := w rx33
          refine r_ic (t := 32) (pc1 := 30) rfl rfl rfl (rgh _ _ _) rx33 (fun c34 => ?_) (fun c34 => ?_)
          · have w := w.1 c34
            exact Q17     w
          · have w := w.2 c34
            refine r_n (pc1 := 31) [.int (J 0)] _ rfl rfl ?_
            exact r_retB rfl rfl rfl (.inl rfl) (k _ (rgk rfl) (.inl rfl) w)
  exact Q3 _ _ 0  (rgk rfl) (Nat.lt_succ_self _) w
def w_X14_isAhead (p0 : Nat) (p1 : Nat) (K : Int → XH → Prop) (h : XH) : Prop :=
  (w_X14_order (fun a1 h2 => HT h2 → HX h h2 → (hk h2 a1 = 100 ∧ (hn h2 a1 : Int) < 2147483648 ∧ ∀ x5 : Int, x5 = (hn h2 a1 : Int) → rg x5 → (∃ (I10 : Int → Prop) (m10 : Int → Nat), I10 0 ∧ ∀ (x6 : Int), rg x6 → I10 x6 → (((x5 ≤ x6 → ((∃ (I12 : Int → Prop) (m12 : Int → Nat), I12 0 ∧ ∀ (x11 : Int), rg x11 → I12 x11 → (((12 ≤ x11 → (K 0 h2)) ∧ (¬ (12 ≤ x11) → (hk h2 p0 = 100 ∧ (0 ≤ x11 ∧ x11 < (hn h2 p0 : Int)) ∧ hk h2 p1 = 100 ∧ (0 ≤ x11 ∧ x11 < (hn h2 p1 : Int)) ∧ ((hI h2 p0 x11.toNat = hI h2 p1 x11.toNat → (∀ x17 : Int, x17 = wr (x11 + 1) → rg x17 → (I12 x17 ∧ m12 x17 < m12 x11))) ∧ (¬ (hI h2 p0 x11.toNat = hI h2 p1 x11.toNat) → (w_X14_isOnIn p0 x11 (fun x18 => rg x18 → (x18 = 0 ∨ x18 = 1) → (∃ J20 : Int → Prop, (∀ (x19 : Int), rg x19 → J20 x19 → ((x19 = 0 ∨ x19 = 1) ∧ K x19 h2)) ∧ ((¬ x18 = 0 → (J20 0)) ∧ (¬ (¬ x18 = 0) → (J20 1))))) h2)))))))))) ∧ (¬ (x5 ≤ x6) → ((0 ≤ x6 ∧ x6 < (hn h2 a1 : Int)) ∧ ∀ x26 : Int, x26 = hI h2 a1 x6.toNat → rg x26 → w_X14_codeIn p0 x26 (fun x27 => rg x27 → (w_X14_codeIn p1 x26 (fun x28 => rg x28 → (((x27 = x28 → (∀ x29 : Int, x29 = wr (x6 + 1) → rg x29 → (I10 x29 ∧ m10 x29 < m10 x6))) ∧ (¬ (x27 = x28) → (∃ J31 : Int → Prop, (∀ (x30 : Int), rg x30 → J31 x30 → (∃ J33 : Int → Prop, (∀ (x32 : Int), rg x32 → J33 x32 → ((x32 = 0 ∨ x32 = 1) ∧ K x32 h2)) ∧ ∃ J35 : Prop, (J35 → (((x27 ≤ x28 → (J33 0)) ∧ (¬ (x27 ≤ x28) → (J33 1))))) ∧ ((¬ x30 = 0 → J35) ∧ (¬ (¬ x30 = 0) → (∃ J37 : Prop, (J37 → (((¬ x27 = (-1) → (J33 0)) ∧ (¬ (¬ x27 = (-1)) → (J33 1))))) ∧ ((x27 = (-1) → J37) ∧ (¬ (x27 = (-1)) → (((¬ x28 = (-1) → J35) ∧ (¬ (¬ x28 = (-1)) → J37)))))))))) ∧ ((¬ iand (ishr (hI h2 437 37) x26) 1 = 1 → (J31 0)) ∧ (¬ (¬ iand (ishr (hI h2 437 37) x26) 1 = 1) → (J31 1)))))))) h2)) h2))))))) h)
set_option maxHeartbeats 4000000 in
theorem a_X14_isAhead {sc : Nat × (Nat → Int32)} {goal : XO → XH → Prop} {fs : List XF} {h : XH} (p0 : Nat) (p1 : Nat) {K : Int → XH → Prop} (hd : fs.length + 3 ≤ 1000) (w : w_X14_isAhead p0 p1 K h) (t0 : HT h) (k : ∀ (r : Int) (h1 : XH), HT h1 → HX h h1 → rg r → (r = 0 ∨ r = 1) → K r h1 → XFin xP sc goal fs (.inl (some (.int (J r)))) h1) : RR sc goal fs 222 0 [some (rv 437), some (rv p0), some (rv p1), none, none, none, none, none, none, none] [] h := by
  unfold w_X14_isAhead at w
  refine r_aldn (pc1 := 1) rfl rfl rfl ?_
  refine r_iv rfl rfl rfl rfl rfl rfl t0 (lyk t0 rfl) rfl (xe_of (xa_r xa_0) rfl rfl) (r_d0 hd rfl) (a_X14_order  (r_d1 hd rfl)  w t0 (fun a1 h2 t2 u2 w => ?_))
  refine r_fR (pc1 := 4) rfl ?_
  have s2 := HX_trans (HX_refl h) u2
  have w := w t2 u2
  refine r_astn (pc1 := 5) (ls1 := [some (rv 437), some (rv p0), some (rv p1), some (rv a1), none, none, none, none, none, none]) rfl rfl rfl (xput1_rv rfl rfl) ?_
  refine r_aldn (pc1 := 6) rfl rfl rfl ?_
  obtain ⟨c3, w⟩ := w
  obtain ⟨c4, w⟩ := w
  refine r_len (pc1 := 7) (u := 0) rfl rfl t2 c3 (by decide) (fun rc4 => ?_) c4
  refine r_vI rc4 (fun x5 ex5 rx5 => ?_)
  have w := w x5 ex5 rx5
  refine r_ist (pc1 := 9) (ls1 := [some (rv 437), some (rv p0), some (rv p1), some (rv a1), some (.int (J x5)), none, none, none, none, none]) rfl rfl rfl (xput1_rv rfl rfl) ?_
  refine r_n (pc1 := 10) [.int (J 0)] _ rfl rfl ?_
  refine r_ist (pc1 := 12) (ls1 := [some (rv 437), some (rv p0), some (rv p1), some (rv a1), some (.int (J x5)), some (.int (J 0)), none, none, none, none]) rfl rfl rfl rfl ?_
  obtain ⟨I10, m10, w, y10⟩ := w
  have Q10 : ∀ (n : Nat) (d7 : Option Value) (d8 : Option Value) (d9 : Option Value) (x6 : Int), rg x6 → m10 x6 < n → I10 x6 → RR sc goal fs 222 12 [some (rv 437), some (rv p0), some (rv p1), some (rv a1), some (.int (J x5)), some (.int (J x6)), d7, d8, d9, none] [] h2 := by
    intro n
    induction n with
    | zero => intro d7 d8 d9 x6 rx6 q10 _; exact absurd q10 (Nat.not_lt_zero _)
    | succ n ih10 =>
      intro d7 d8 d9 x6 rx6 q10 z10
      have w := y10 x6 rx6 z10
      refine r_n (pc1 := 14) [.int (J x6)] _ rfl rfl ?_
      refine r_n (pc1 := 16) [.int (J x5), .int (J x6)] _ rfl rfl ?_
      refine r_ic (t := 118) (pc1 := 19) rfl rfl rfl rx6 rx5 (fun c44 => ?_) (fun c44 => ?_)
      · have w := w.1 c44
        refine r_n (pc1 := 119) [.int (J 0)] _ rfl rfl ?_
        refine r_istn (pc1 := 120) (ls1 := [some (rv 437), some (rv p0), some (rv p1), some (.int (J 0)), some (.int (J x5)), some (.int (J x6)), d7, d8, d9, none]) rfl rfl rfl (xput1_rv rfl rfl) ?_
        obtain ⟨I12, m12, w, y12⟩ := w
        have Q12 : ∀ (n : Nat)  (x11 : Int), rg x11 → m12 x11 < n → I12 x11 → RR sc goal fs 222 120 [some (rv 437), some (rv p0), some (rv p1), some (.int (J x11)), some (.int (J x5)), some (.int (J x6)), d7, d8, d9, none] [] h2 := by
          intro n
          induction n with
          | zero => intro x11 rx11 q12 _; exact absurd q12 (Nat.not_lt_zero _)
          | succ n ih12 =>
            intro x11 rx11 q12 z12
            have w := y12 x11 rx11 z12
            refine r_n (pc1 := 121) [.int (J x11)] _ rfl rfl ?_
            refine r_n (pc1 := 123) [.int (J 12), .int (J x11)] _ rfl rfl ?_
            refine r_ic (t := 155) (pc1 := 126) rfl rfl rfl rx11 (rgk rfl) (fun c24 => ?_) (fun c24 => ?_)
            · have w := w.1 c24
              refine r_n (pc1 := 156) [.int (J 0)] _ rfl rfl ?_
              exact r_retB rfl rfl rfl (.inl rfl) (k _ _ t2 s2 (rgk rfl) (.inl rfl) w)
            · have w := w.2 c24
              refine r_aldn (pc1 := 127) rfl rfl rfl ?_
              refine r_n (pc1 := 128) [.int (J x11), rv p0] _ rfl rfl ?_
              obtain ⟨c13, w⟩ := w
              obtain ⟨c14, w⟩ := w
              refine r_ial (pc1 := 129) rfl rfl t2 c13 rx11 c14.1 c14.2 ?_
              refine r_aldn (pc1 := 130) rfl rfl rfl ?_
              refine r_n (pc1 := 131) [.int (J x11), rv p1, .int (J (hI h2 p0 x11.toNat))] _ rfl rfl ?_
              obtain ⟨c15, w⟩ := w
              obtain ⟨c16, w⟩ := w
              refine r_ial (pc1 := 132) rfl rfl t2 c15 rx11 c16.1 c16.2 ?_
              refine r_ic (t := 149) (pc1 := 135) rfl rfl rfl (rgh _ _ _) (rgh _ _ _) (fun c23 => ?_) (fun c23 => ?_)
              · have w := w.1 c23
                refine r_inc (pc1 := 152) (g := fun zz => [some (rv 437), some (rv p0), some (rv p1), some (.int (J zz)), some (.int (J x5)), some (.int (J x6)), d7, d8, d9, none]) rfl rfl rfl rfl (fun _ => xput1_rv rfl rfl) (fun x17 ex17 rx17 => ?_)
                have w := w x17 ex17 rx17
                refine r_goto (t := 120) rfl rfl ?_
                exact ih12  x17  rx17 (Nat.lt_of_lt_of_le w.2 (Nat.le_of_lt_succ q12)) w.1
              · have w := w.2 c23
                refine r_aldn (pc1 := 136) rfl rfl rfl ?_
                refine r_n (pc1 := 137) [.int (J x11), rv p0] _ rfl rfl ?_
                refine r_iq rfl rfl rfl rfl rfl rfl (xe_of (xa_r (xa_i xa_0)) rfl rfl) (r_d0 hd rfl) (a_X14_isOnIn p0 x11 (r_d1 hd rfl) rx11 w t2 (fun x18 rx18 vx18 w => ?_))
                refine r_fI (pc1 := 140) rfl ?_
                have w := w rx18 vx18
                obtain ⟨J20, j20, w⟩ := w
                have Q20 : ∀ (x19 : Int), rg x19 → J20 x19 → RR sc goal fs 222 148 [some (rv 437), some (rv p0), some (rv p1), some (.int (J x11)), some (.int (J x5)), some (.int (J x6)), d7, d8, d9, none] [.int (J x19)] h2 := by
                  intro x19 rx19 z20
                  have w := j20 x19 rx19 z20
                  obtain ⟨c21, w⟩ := w
                  exact r_retB rfl rfl rfl c21 (k _ _ t2 s2 rx19 c21 w)
                refine r_iz (t := 147) (pc1 := 143) rfl rfl rfl rx18 (fun c22 => ?_) (fun c22 => ?_)
                · have w := w.1 c22
                  refine r_n (pc1 := 148) [.int (J 0)] _ rfl rfl ?_
                  exact Q20  0  (rgk rfl) w
                · have w := w.2 c22
                  refine r_n (pc1 := 144) [.int (J 1)] _ rfl rfl ?_
                  refine r_goto (t := 148) rfl rfl ?_
                  exact Q20  1  (rgk rfl) w
        exact Q12 _  0  (rgk rfl) (Nat.lt_succ_self _) w
      · have w := w.2 c44
        refine r_aldn (pc1 := 20) rfl rfl rfl ?_
        refine r_n (pc1 := 22) [.int (J x6), rv a1] _ rfl rfl ?_
        obtain ⟨c25, w⟩ := w
        refine r_ial (pc1 := 23) rfl rfl t2 c3 rx6 c25.1 c25.2 ?_
        refine r_vI (rgh _ _ _) (fun x26 ex26 rx26 => ?_)
        have w := w x26 ex26 rx26
        refine r_ist (pc1 := 25) (ls1 := [some (rv 437), some (rv p0), some (rv p1), some (rv a1), some (.int (J x5)), some (.int (J x6)), some (.int (J x26)), d8, d9, none]) rfl rfl rfl rfl ?_
        refine r_aldn (pc1 := 26) rfl rfl rfl ?_
        refine r_n (pc1 := 28) [.int (J x26), rv p0] _ rfl rfl ?_
        refine r_iq rfl rfl rfl rfl rfl rfl (xe_of (xa_r (xa_i xa_0)) rfl rfl) (r_d0 hd rfl) (a_X14_codeIn p0 x26 (r_d1 hd rfl) rx26 w t2 (fun x27 rx27 w => ?_))
        refine r_fI (pc1 := 31) rfl ?_
        have w := w rx27
        refine r_ist (pc1 := 33) (ls1 := [some (rv 437), some (rv p0), some (rv p1), some (rv a1), some (.int (J x5)), some (.int (J x6)), some (.int (J x26)), some (.int (J x27)), d9, none]) rfl rfl rfl rfl ?_
        refine r_aldn (pc1 := 34) rfl rfl rfl ?_
        refine r_n (pc1 := 36) [.int (J x26), rv p1] _ rfl rfl ?_
        refine r_iq rfl rfl rfl rfl rfl rfl (xe_of (xa_r (xa_i xa_0)) rfl rfl) (r_d0 hd rfl) (a_X14_codeIn p1 x26 (r_d1 hd rfl) rx26 w t2 (fun x28 rx28 w => ?_))
        refine r_fI (pc1 := 39) rfl ?_
        have w := w rx28
        refine r_ist (pc1 := 41) (ls1 := [some (rv 437), some (rv p0), some (rv p1), some (rv a1), some (.int (J x5)), some (.int (J x6)), some (.int (J x26)), some (.int (J x27)), some (.int (J x28)), none]) rfl rfl rfl rfl ?_
        refine r_n (pc1 := 43) [.int (J x27)] _ rfl rfl ?_
        refine r_n (pc1 := 45) [.int (J x28), .int (J x27)] _ rfl rfl ?_
        refine r_ic (t := 112) (pc1 := 48) rfl rfl rfl rx27 rx28 (fun c43 => ?_) (fun c43 => ?_)
        · have w := w.1 c43
          refine r_inc (pc1 := 115) (g := fun zz => [some (rv 437), some (rv p0), some (rv p1), some (rv a1), some (.int (J x5)), some (.int (J zz)), some (.int (J x26)), some (.int (J x27)), some (.int (J x28)), none]) rfl rfl rfl rfl (fun _ => rfl) (fun x29 ex29 rx29 => ?_)
          have w := w x29 ex29 rx29
          refine r_goto (t := 12) rfl rfl ?_
          exact ih10 _ _ _ x29  rx29 (Nat.lt_of_lt_of_le w.2 (Nat.le_of_lt_succ q10)) w.1
        · have w := w.2 c43
          refine r_aldn (pc1 := 49) rfl rfl rfl ?_
          refine r_gfI (pc1 := 52) rfl rfl rfl t2 (lyk t2 rfl) rfl rfl ?_
          refine r_n (pc1 := 54) [.int (J x26), .int (J (hI h2 437 37))] _ rfl rfl ?_
          refine r_ishr (pc1 := 55) rfl rfl ?_
          refine r_n (pc1 := 56) [.int (J 1), .int (J (ishr (hI h2 437 37) x26))] _ rfl rfl ?_
          refine r_iand (pc1 := 57) rfl rfl ?_
          refine r_n (pc1 := 58) [.int (J 1), .int (J (iand (ishr (hI h2 437 37) x26) 1))] _ rfl rfl ?_
          obtain ⟨J31, j31, w⟩ := w
          have Q31 : ∀ (x30 : Int), rg x30 → J31 x30 → RR sc goal fs 222 66 [some (rv 437), some (rv p0), some (rv p1), some (rv a1), some (.int (J x5)), some (.int (J x6)), some (.int (J x26)), some (.int (J x27)), some (.int (J x28)), none] [.int (J x30)] h2 := by
            intro x30 rx30 z31
            have w := j31 x30 rx30 z31
            refine r_ist (pc1 := 68) (ls1 := [some (rv 437), some (rv p0), some (rv p1), some (rv a1), some (.int (J x5)), some (.int (J x6)), some (.int (J x26)), some (.int (J x27)), some (.int (J x28)), some (.int (J x30))]) rfl rfl rfl rfl ?_
            refine r_n (pc1 := 70) [.int (J x30)] _ rfl rfl ?_
            obtain ⟨J33, j33, w⟩ := w
            have Q33 : ∀ (x32 : Int), rg x32 → J33 x32 → RR sc goal fs 222 111 [some (rv 437), some (rv p0), some (rv p1), some (rv a1), some (.int (J x5)), some (.int (J x6)), some (.int (J x26)), some (.int (J x27)), some (.int (J x28)), some (.int (J x30))] [.int (J x32)] h2 := by
              intro x32 rx32 z33
              have w := j33 x32 rx32 z33
              obtain ⟨c34, w⟩ := w
              exact r_retB rfl rfl rfl c34 (k _ _ t2 s2 rx32 c34 w)
            obtain ⟨J35, j35, w⟩ := w
            have Q35 : J35 → RR sc goal fs 222 99 [some (rv 437), some (rv p0), some (rv p1), some (rv a1), some (.int (J x5)), some (.int (J x6)), some (.int (J x26)), some (.int (J x27)), some (.int (J x28)), some (.int (J x30))] [] h2 := by
              intro z35
              have w := j35 z35
              refine r_n (pc1 := 101) [.int (J x27)] _ rfl rfl ?_
              refine r_n (pc1 := 103) [.int (J x28), .int (J x27)] _ rfl rfl ?_
              refine r_ic (t := 110) (pc1 := 106) rfl rfl rfl rx27 rx28 (fun c36 => ?_) (fun c36 => ?_)
              · have w := w.1 c36
                refine r_n (pc1 := 111) [.int (J 0)] _ rfl rfl ?_
                exact Q33  0  (rgk rfl) w
              · have w := w.2 c36
                refine r_n (pc1 := 107) [.int (J 1)] _ rfl rfl ?_
                refine r_goto (t := 111) rfl rfl ?_
                exact Q33  1  (rgk rfl) w
            refine r_iz (t := 99) (pc1 := 73) rfl rfl rfl rx30 (fun c41 => ?_) (fun c41 => ?_)
            · have w := w.1 c41
              exact Q35     w
            · have w := w.2 c41
              refine r_n (pc1 := 75) [.int (J x27)] _ rfl rfl ?_
              refine r_n (pc1 := 76) [.int (J (-1)), .int (J x27)] _ rfl rfl ?_
              obtain ⟨J37, j37, w⟩ := w
              have Q37 : J37 → RR sc goal fs 222 85 [some (rv 437), some (rv p0), some (rv p1), some (rv a1), some (.int (J x5)), some (.int (J x6)), some (.int (J x26)), some (.int (J x27)), some (.int (J x28)), some (.int (J x30))] [] h2 := by
                intro z37
                have w := j37 z37
                refine r_n (pc1 := 87) [.int (J x27)] _ rfl rfl ?_
                refine r_n (pc1 := 88) [.int (J (-1)), .int (J x27)] _ rfl rfl ?_
                refine r_ic (t := 95) (pc1 := 91) rfl rfl rfl rx27 (rgk rfl) (fun c38 => ?_) (fun c38 => ?_)
                · have w := w.1 c38
                  refine r_n (pc1 := 96) [.int (J 0)] _ rfl rfl ?_
                  refine r_goto (t := 111) rfl rfl ?_
                  exact Q33  0  (rgk rfl) w
                · have w := w.2 c38
                  refine r_n (pc1 := 92) [.int (J 1)] _ rfl rfl ?_
                  refine r_goto (t := 111) rfl rfl ?_
                  exact Q33  1  (rgk rfl) w
              refine r_ic (t := 85) (pc1 := 79) rfl rfl rfl rx27 (rgk rfl) (fun c40 => ?_) (fun c40 => ?_)
              · have w := w.1 c40
                exact Q37     w
              · have w := w.2 c40
                refine r_n (pc1 := 81) [.int (J x28)] _ rfl rfl ?_
                refine r_n (pc1 := 82) [.int (J (-1)), .int (J x28)] _ rfl rfl ?_
                refine r_ic (t := 99) (pc1 := 85) rfl rfl rfl rx28 (rgk rfl) (fun c39 => ?_) (fun c39 => ?_)
                · have w := w.1 c39
                  exact Q35     w
                · have w := w.2 c39
                  exact Q37     w
          refine r_ic (t := 65) (pc1 := 61) rfl rfl rfl (rgt _) (rgk rfl) (fun c42 => ?_) (fun c42 => ?_)
          · have w := w.1 c42
            refine r_n (pc1 := 66) [.int (J 0)] _ rfl rfl ?_
            exact Q31  0  (rgk rfl) w
          · have w := w.2 c42
            refine r_n (pc1 := 62) [.int (J 1)] _ rfl rfl ?_
            refine r_goto (t := 66) rfl rfl ?_
            exact Q31  1  (rgk rfl) w
  exact Q10 _ _ _ _ 0  (rgk rfl) (Nat.lt_succ_self _) w
def w_X14_goThrough (p0 : Nat) (p1 : Nat) (K : Int → XH → Prop) (h : XH) : Prop :=
  (w_X14_setMany (fun x1 h2 => HT h2 → HX h h2 → rg x1 → (∀ h3 : XH, h3 = sI h2 437 42 0 → HT h3 → HX h2 h3 → ∀ h4 : XH, h4 = sI h3 437 43 0 → HT h4 → HX h3 h4 → ((x1 ≤ 5000 → (w_X14_installedSet (fun a5 h6 => HT h6 → HX h4 h6 → (∀ (a7 : Nat) (h8 : XH), a7 = h6.length → h8 = nA h6 0 12 → HT h8 → HX h6 h8 → hk h8 a7 = 100 → hn h8 a7 = 12 → (∃ (I12 : Int → Int → XH → Prop) (m12 : Int → Int → XH → Nat), I12 0 0 h8 ∧ ∀ (x9 : Int) (x10 : Int) (h11 : XH), HT h11 → HX h h11 → rg x9 → rg x10 → I12 x9 x10 h11 → (((x1 ≤ x10 → (K x9 h11)) ∧ (¬ (x1 ≤ x10) → (w_X14_laySet x10 a7 (fun x13 h14 => HT h14 → HX h11 h14 → rg x13 → (x13 = 0 ∨ x13 = 1) → (∃ J17 : Int → XH → Prop, (∀ (x15 : Int) (h16 : XH), HT h16 → HX h h16 → rg x15 → J17 x15 h16 → (∀ x18 : Int, x18 = wr (x10 + 1) → rg x18 → (I12 x15 x18 h16 ∧ m12 x15 x18 h16 < m12 x9 x10 h11))) ∧ ((x13 = 0 → J17 x9 h14) ∧ (¬ (x13 = 0) → (w_X14_fitsHere a7 (fun x19 => rg x19 → (x19 = 0 ∨ x19 = 1) → (((¬ x19 = 0 → (∀ x20 : Int, x20 = wr (x9 + 1) → rg x20 → ∃ J23 : Int → XH → Prop, (∀ (x21 : Int) (h22 : XH), HT h22 → HX h h22 → rg x21 → J23 x21 h22 → ((x21 = 0 ∨ x21 = 1) ∧ ∀ h25 : XH, h25 = sI h22 437 42 x21 → HT h25 → HX h22 h25 → ∃ J27 : Int → Prop, (∀ (x26 : Int), rg x26 → J27 x26 → ((x26 = 0 ∨ x26 = 1) ∧ ∀ h29 : XH, h29 = sI h25 437 43 x26 → HT h29 → HX h25 h29 → J17 x20 h29)) ∧ ∃ J30 : Prop, (J30 → (J27 1)) ∧ ((¬ hI h25 437 43 = 0 → J30) ∧ (¬ (¬ hI h25 437 43 = 0) → (∃ J31 : Prop, (J31 → (J27 0)) ∧ ((p1 = 0 → J31) ∧ (¬ (p1 = 0) → (w_X14_differences a7 a5 (fun x32 => rg x32 → (w_X14_differences p1 a5 (fun x33 => rg x33 → (((x33 ≤ x32 → J31) ∧ (¬ (x33 ≤ x32) → J30)))) h25)) h25)))))))) ∧ ∃ J38 : XH → Prop, (∀ (h37 : XH), HT h37 → HX h h37 → J38 h37 → (J23 1 h37)) ∧ ((¬ hI h14 437 42 = 0 → J38 h14) ∧ (¬ (¬ hI h14 437 42 = 0) → (∃ J40 : XH → Prop, (∀ (h39 : XH), HT h39 → HX h h39 → J40 h39 → (J23 0 h39)) ∧ ((p0 = 0 → J40 h14) ∧ (¬ (p0 = 0) → (w_X14_isAhead a7 p0 (fun x41 h42 => HT h42 → HX h14 h42 → rg x41 → (x41 = 0 ∨ x41 = 1) → (((x41 = 0 → J40 h42) ∧ (¬ (x41 = 0) → J38 h42)))) h14)))))))) ∧ (¬ (¬ x19 = 0) → (J17 x9 h14))))) h14))))) h11))))))) h4)) ∧ (¬ (x1 ≤ 5000) → (K (-1) h4))))) h)
set_option maxHeartbeats 4000000 in
theorem a_X14_goThrough {sc : Nat × (Nat → Int32)} {goal : XO → XH → Prop} {fs : List XF} {h : XH} (p0 : Nat) (p1 : Nat) {K : Int → XH → Prop} (hd : fs.length + 8 ≤ 1000) (w : w_X14_goThrough p0 p1 K h) (t0 : HT h) (k : ∀ (r : Int) (h1 : XH), HT h1 → HX h h1 → rg r → K r h1 → XFin xP sc goal fs (.inl (some (.int (J r)))) h1) : RR sc goal fs 210 0 [some (rv 437), some (rv p0), some (rv p1), none, none, none, none, none] [] h := by
  unfold w_X14_goThrough at w
  refine r_aldn (pc1 := 1) rfl rfl rfl ?_
  refine r_iv rfl rfl rfl rfl rfl rfl t0 (lyk t0 rfl) rfl (xe_of (xa_r xa_0) rfl rfl) (r_d0 hd rfl) (a_X14_setMany  (r_d1 hd rfl)  w t0 (fun x1 h2 t2 u2 rx1 w => ?_))
  refine r_fI (pc1 := 4) rfl ?_
  have s2 := HX_trans (HX_refl h) u2
  have w := w t2 u2
  have w := w rx1
  refine r_istn (pc1 := 5) (ls1 := [some (rv 437), some (rv p0), some (rv p1), some (.int (J x1)), none, none, none, none]) rfl rfl rfl (xput1_rv rfl rfl) ?_
  refine r_aldn (pc1 := 6) rfl rfl rfl ?_
  refine r_n (pc1 := 7) [.int (J 0), rv 437] _ rfl rfl ?_
  refine r_pfB (pc1 := 10) rfl rfl rfl t2 (lyk t2 rfl) rfl rfl rfl (.inl rfl) (fun h3 eh3 t3 u3 => ?_)
  have w := w h3 eh3 t3 u3
  have s3 := HX_trans s2 u3
  refine r_aldn (pc1 := 11) rfl rfl rfl ?_
  refine r_n (pc1 := 12) [.int (J 0), rv 437] _ rfl rfl ?_
  refine r_pfB (pc1 := 15) rfl rfl rfl t3 (lyk t3 rfl) rfl rfl rfl (.inl rfl) (fun h4 eh4 t4 u4 => ?_)
  have w := w h4 eh4 t4 u4
  have s4 := HX_trans s3 u4
  refine r_n (pc1 := 16) [.int (J x1)] _ rfl rfl ?_
  refine r_n (pc1 := 19) [.int (J 5000), .int (J x1)] _ rfl rfl ?_
  refine r_ic (t := 24) (pc1 := 22) rfl rfl rfl rx1 (rgk rfl) (fun c49 => ?_) (fun c49 => ?_)
  · have w := w.1 c49
    refine r_n (pc1 := 25) [.int (J 0)] _ rfl rfl ?_
    refine r_ist (pc1 := 27) (ls1 := [some (rv 437), some (rv p0), some (rv p1), some (.int (J x1)), some (.int (J 0)), none, none, none]) rfl rfl rfl rfl ?_
    refine r_aldn (pc1 := 28) rfl rfl rfl ?_
    refine r_iv rfl rfl rfl rfl rfl rfl t4 (lyk t4 rfl) rfl (xe_of (xa_r xa_0) rfl rfl) (r_d0 hd rfl) (a_X14_installedSet  (r_d1 hd rfl)  w t4 (fun a5 h6 t6 u6 w => ?_))
    refine r_fR (pc1 := 31) rfl ?_
    have s6 := HX_trans s4 u6
    have w := w t6 u6
    refine r_ast (pc1 := 33) (ls1 := [some (rv 437), some (rv p0), some (rv p1), some (.int (J x1)), some (.int (J 0)), some (rv a5), none, none]) rfl rfl rfl rfl ?_
    refine r_n (pc1 := 35) [.int (J 12)] _ rfl rfl ?_
    refine r_na (pc1 := 37) (u := 0) (m := 2) rfl rfl rfl t6 rfl (rgk rfl) (by decide) (by decide) (fun a7 h8 ea7 eh8 t8 u8 ca7 la7 => ?_)
    have w := w a7 h8 ea7 eh8 t8 u8 ca7 la7
    have s8 := HX_trans s6 u8
    refine r_ast (pc1 := 39) (ls1 := [some (rv 437), some (rv p0), some (rv p1), some (.int (J x1)), some (.int (J 0)), some (rv a5), some (rv a7), none]) rfl rfl rfl (xput1_rv rfl rfl) ?_
    refine r_n (pc1 := 40) [.int (J 0)] _ rfl rfl ?_
    refine r_ist (pc1 := 42) (ls1 := [some (rv 437), some (rv p0), some (rv p1), some (.int (J x1)), some (.int (J 0)), some (rv a5), some (rv a7), some (.int (J 0))]) rfl rfl rfl (xput1_rv rfl rfl) ?_
    obtain ⟨I12, m12, w, y12⟩ := w
    have Q12 : ∀ (n : Nat)  (x9 : Int) (x10 : Int) (h11 : XH), HT h11 → HX h h11 → rg x9 → rg x10 → m12 x9 x10 h11 < n → I12 x9 x10 h11 → RR sc goal fs 210 42 [some (rv 437), some (rv p0), some (rv p1), some (.int (J x1)), some (.int (J x9)), some (rv a5), some (rv a7), some (.int (J x10))] [] h11 := by
      intro n
      induction n with
      | zero => intro x9 x10 h11 t11 s11 rx9 rx10 q12 _; exact absurd q12 (Nat.not_lt_zero _)
      | succ n ih12 =>
        intro x9 x10 h11 t11 s11 rx9 rx10 q12 z12
        have w := y12 x9 x10 h11 t11 s11 rx9 rx10 z12
        refine r_n (pc1 := 44) [.int (J x10)] _ rfl rfl ?_
        refine r_n (pc1 := 45) [.int (J x1), .int (J x10)] _ rfl rfl ?_
        refine r_ic (t := 146) (pc1 := 48) rfl rfl rfl rx10 rx1 (fun c48 => ?_) (fun c48 => ?_)
        · have w := w.1 c48
          refine r_n (pc1 := 148) [.int (J x9)] _ rfl rfl ?_
          exact r_retI rfl rfl rfl (k _ _ t11 s11 rx9 w)
        · have w := w.2 c48
          refine r_aldn (pc1 := 49) rfl rfl rfl ?_
          refine r_n (pc1 := 51) [.int (J x10), rv 437] _ rfl rfl ?_
          refine r_ald (pc1 := 53) rfl rfl rfl ?_
          refine r_iv rfl rfl rfl rfl rfl rfl t11 (lyk t11 rfl) rfl (xe_of (xa_r (xa_i (xa_r xa_0))) rfl rfl) (r_d0 hd rfl) (a_X14_laySet x10 a7 (r_d1 hd rfl) rx10 w t11 (fun x13 h14 t14 u14 rx13 vx13 w => ?_))
          refine r_fI (pc1 := 56) rfl ?_
          have s14 := HX_trans s11 u14
          have w := w t14 u14
          have w := w rx13 vx13
          obtain ⟨J17, j17, w⟩ := w
          have Q17 : ∀ (x15 : Int) (h16 : XH), HT h16 → HX h h16 → rg x15 → J17 x15 h16 → RR sc goal fs 210 140 [some (rv 437), some (rv p0), some (rv p1), some (.int (J x1)), some (.int (J x15)), some (rv a5), some (rv a7), some (.int (J x10))] [] h16 := by
            intro x15 h16 t16 s16 rx15 z17
            have w := j17 x15 h16 t16 s16 rx15 z17
            refine r_inc (pc1 := 143) (g := fun zz => [some (rv 437), some (rv p0), some (rv p1), some (.int (J x1)), some (.int (J x15)), some (rv a5), some (rv a7), some (.int (J zz))]) rfl rfl rfl rfl (fun _ => xput1_rv rfl rfl) (fun x18 ex18 rx18 => ?_)
            have w := w x18 ex18 rx18
            refine r_goto (t := 42) rfl rfl ?_
            exact ih12  x15 x18 h16 t16 s16 rx15 rx18 (Nat.lt_of_lt_of_le w.2 (Nat.le_of_lt_succ q12)) w.1
          refine r_iz (t := 140) (pc1 := 59) rfl rfl rfl rx13 (fun c47 => ?_) (fun c47 => ?_)
          · have w := w.1 c47
            exact Q17  x9 h14 t14 s14 rx9 w
          · have w := w.2 c47
            refine r_aldn (pc1 := 60) rfl rfl rfl ?_
            refine r_ald (pc1 := 62) rfl rfl rfl ?_
            refine r_iv rfl rfl rfl rfl rfl rfl t14 (lyk t14 rfl) rfl (xe_of (xa_r (xa_r xa_0)) rfl rfl) (r_d0 hd rfl) (a_X14_fitsHere a7 (r_d1 hd rfl)  w t14 (fun x19 rx19 vx19 w => ?_))
            refine r_fI (pc1 := 65) rfl ?_
            have w := w rx19 vx19
            refine r_iz (t := 71) (pc1 := 68) rfl rfl rfl rx19 (fun c46 => ?_) (fun c46 => ?_)
            · have w := w.1 c46
              refine r_inc (pc1 := 74) (g := fun zz => [some (rv 437), some (rv p0), some (rv p1), some (.int (J x1)), some (.int (J zz)), some (rv a5), some (rv a7), some (.int (J x10))]) rfl rfl rfl rfl (fun _ => rfl) (fun x20 ex20 rx20 => ?_)
              have w := w x20 ex20 rx20
              refine r_aldn (pc1 := 75) rfl rfl rfl ?_
              refine r_aldn (pc1 := 76) rfl rfl rfl ?_
              refine r_gfI (pc1 := 79) rfl rfl rfl t14 (lyk t14 rfl) rfl rfl ?_
              obtain ⟨J23, j23, w⟩ := w
              have Q23 : ∀ (x21 : Int) (h22 : XH), HT h22 → HX h h22 → rg x21 → J23 x21 h22 → RR sc goal fs 210 101 [some (rv 437), some (rv p0), some (rv p1), some (.int (J x1)), some (.int (J x20)), some (rv a5), some (rv a7), some (.int (J x10))] [.int (J x21), rv 437] h22 := by
                intro x21 h22 t22 s22 rx21 z23
                have w := j23 x21 h22 t22 s22 rx21 z23
                obtain ⟨c24, w⟩ := w
                refine r_pfB (pc1 := 104) rfl rfl rfl t22 (lyk t22 rfl) rfl rfl rfl c24 (fun h25 eh25 t25 u25 => ?_)
                have w := w h25 eh25 t25 u25
                have s25 := HX_trans s22 u25
                refine r_aldn (pc1 := 105) rfl rfl rfl ?_
                refine r_aldn (pc1 := 106) rfl rfl rfl ?_
                refine r_gfI (pc1 := 109) rfl rfl rfl t25 (lyk t25 rfl) rfl rfl ?_
                obtain ⟨J27, j27, w⟩ := w
                have Q27 : ∀ (x26 : Int), rg x26 → J27 x26 → RR sc goal fs 210 137 [some (rv 437), some (rv p0), some (rv p1), some (.int (J x1)), some (.int (J x20)), some (rv a5), some (rv a7), some (.int (J x10))] [.int (J x26), rv 437] h25 := by
                  intro x26 rx26 z27
                  have w := j27 x26 rx26 z27
                  obtain ⟨c28, w⟩ := w
                  refine r_pfB (pc1 := 140) rfl rfl rfl t25 (lyk t25 rfl) rfl rfl rfl c28 (fun h29 eh29 t29 u29 => ?_)
                  have w := w h29 eh29 t29 u29
                  have s29 := HX_trans s25 u29
                  exact Q17  x20 h29 t29 s29 rx20 w
                obtain ⟨J30, j30, w⟩ := w
                have Q30 : J30 → RR sc goal fs 210 132 [some (rv 437), some (rv p0), some (rv p1), some (.int (J x1)), some (.int (J x20)), some (rv a5), some (rv a7), some (.int (J x10))] [rv 437] h25 := by
                  intro z30
                  have w := j30 z30
                  refine r_n (pc1 := 133) [.int (J 1), rv 437] _ rfl rfl ?_
                  refine r_goto (t := 137) rfl rfl ?_
                  exact Q27  1  (rgk rfl) w
                refine r_iz (t := 132) (pc1 := 112) rfl rfl rfl (rgh _ _ _) (fun c36 => ?_) (fun c36 => ?_)
                · have w := w.1 c36
                  exact Q30     w
                · have w := w.2 c36
                  refine r_aldn (pc1 := 113) rfl rfl rfl ?_
                  obtain ⟨J31, j31, w⟩ := w
                  have Q31 : J31 → RR sc goal fs 210 136 [some (rv 437), some (rv p0), some (rv p1), some (.int (J x1)), some (.int (J x20)), some (rv a5), some (rv a7), some (.int (J x10))] [rv 437] h25 := by
                    intro z31
                    have w := j31 z31
                    refine r_n (pc1 := 137) [.int (J 0), rv 437] _ rfl rfl ?_
                    exact Q27  0  (rgk rfl) w
                  refine r_null (t := 136) (pc1 := 116) rfl rfl rfl (fun c35 => ?_) (fun c35 => ?_)
                  · have w := w.1 c35
                    exact Q31     w
                  · have w := w.2 c35
                    refine r_ald (pc1 := 118) rfl rfl rfl ?_
                    refine r_ald (pc1 := 120) rfl rfl rfl ?_
                    refine r_iq rfl rfl rfl rfl rfl rfl (xe_of (xa_r (xa_r xa_0)) rfl rfl) (r_d0 hd rfl) (a_X14_differences a7 a5 (r_d1 hd rfl)  w t25 (fun x32 rx32 w => ?_))
                    refine r_fI (pc1 := 123) rfl ?_
                    have w := w rx32
                    refine r_aldn (pc1 := 124) rfl rfl rfl ?_
                    refine r_ald (pc1 := 126) rfl rfl rfl ?_
                    refine r_iq rfl rfl rfl rfl rfl rfl (xe_of (xa_r (xa_r xa_0)) rfl rfl) (r_d0 hd rfl) (a_X14_differences p1 a5 (r_d1 hd rfl)  w t25 (fun x33 rx33 w => ?_))
                    refine r_fI (pc1 := 129) rfl ?_
                    have w := w rx33
                    refine r_ic (t := 136) (pc1 := 132) rfl rfl rfl rx32 rx33 (fun c34 => ?_) (fun c34 => ?_)
                    · have w := w.1 c34
                      exact Q31     w
                    · have w := w.2 c34
                      exact Q30     w
              obtain ⟨J38, j38, w⟩ := w
              have Q38 : ∀ (h37 : XH), HT h37 → HX h h37 → J38 h37 → RR sc goal fs 210 96 [some (rv 437), some (rv p0), some (rv p1), some (.int (J x1)), some (.int (J x20)), some (rv a5), some (rv a7), some (.int (J x10))] [rv 437] h37 := by
                intro h37 t37 s37 z38
                have w := j38 h37 t37 s37 z38
                refine r_n (pc1 := 97) [.int (J 1), rv 437] _ rfl rfl ?_
                refine r_goto (t := 101) rfl rfl ?_
                exact Q23  1 h37 t37 s37 (rgk rfl) w
              refine r_iz (t := 96) (pc1 := 82) rfl rfl rfl (rgh _ _ _) (fun c45 => ?_) (fun c45 => ?_)
              · have w := w.1 c45
                exact Q38   h14 t14 s14  w
              · have w := w.2 c45
                refine r_aldn (pc1 := 83) rfl rfl rfl ?_
                obtain ⟨J40, j40, w⟩ := w
                have Q40 : ∀ (h39 : XH), HT h39 → HX h h39 → J40 h39 → RR sc goal fs 210 100 [some (rv 437), some (rv p0), some (rv p1), some (.int (J x1)), some (.int (J x20)), some (rv a5), some (rv a7), some (.int (J x10))] [rv 437] h39 := by
                  intro h39 t39 s39 z40
                  have w := j40 h39 t39 s39 z40
                  refine r_n (pc1 := 101) [.int (J 0), rv 437] _ rfl rfl ?_
                  exact Q23  0 h39 t39 s39 (rgk rfl) w
                refine r_null (t := 100) (pc1 := 86) rfl rfl rfl (fun c44 => ?_) (fun c44 => ?_)
                · have w := w.1 c44
                  exact Q40   h14 t14 s14  w
                · have w := w.2 c44
                  refine r_aldn (pc1 := 87) rfl rfl rfl ?_
                  refine r_ald (pc1 := 89) rfl rfl rfl ?_
                  refine r_aldn (pc1 := 90) rfl rfl rfl ?_
                  refine r_iv rfl rfl rfl rfl rfl rfl t14 (lyk t14 rfl) rfl (xe_of (xa_r (xa_r (xa_r xa_0))) rfl rfl) (r_d0 hd rfl) (a_X14_isAhead a7 p0 (r_d1 hd rfl)  w t14 (fun x41 h42 t42 u42 rx41 vx41 w => ?_))
                  refine r_fI (pc1 := 93) rfl ?_
                  have s42 := HX_trans s14 u42
                  have w := w t42 u42
                  have w := w rx41 vx41
                  refine r_iz (t := 100) (pc1 := 96) rfl rfl rfl rx41 (fun c43 => ?_) (fun c43 => ?_)
                  · have w := w.1 c43
                    exact Q40   h42 t42 s42  w
                  · have w := w.2 c43
                    exact Q38   h42 t42 s42  w
            · have w := w.2 c46
              refine r_goto (t := 140) rfl rfl ?_
              exact Q17  x9 h14 t14 s14 rx9 w
    exact Q12 _  0 0 h8 t8 s8 (rgk rfl) (rgk rfl) (Nat.lt_succ_self _) w
  · have w := w.2 c49
    refine r_n (pc1 := 23) [.int (J (-1))] _ rfl rfl ?_
    exact r_retI rfl rfl rfl (k _ _ t4 s4 (rgk rfl) w)
def w_X14_fitting  (K : Int → XH → Prop) (h : XH) : Prop :=
  (∀ h1 : XH, h1 = sI h 437 5 0 → HT h1 → HX h h1 → ∃ J3 : XH → Prop, (∀ (h2 : XH), HT h2 → HX h h2 → J3 h2 → (K (hI h2 437 41) h2)) ∧ ((hI h1 437 40 = hI h1 437 4 → J3 h1) ∧ (¬ (hI h1 437 40 = hI h1 437 4) → (w_X14_goThrough 0 0 (fun x4 h5 => HT h5 → HX h1 h5 → rg x4 → (∀ h6 : XH, h6 = sI h5 437 41 x4 → HT h6 → HX h5 h6 → ∀ h7 : XH, h7 = sI h6 437 40 (hI h6 437 4) → HT h7 → HX h6 h7 → J3 h7)) h1))))
set_option maxHeartbeats 4000000 in
theorem a_X14_fitting {sc : Nat × (Nat → Int32)} {goal : XO → XH → Prop} {fs : List XF} {h : XH}  {K : Int → XH → Prop} (hd : fs.length + 9 ≤ 1000) (w : w_X14_fitting  K h) (t0 : HT h) (k : ∀ (r : Int) (h1 : XH), HT h1 → HX h h1 → rg r → K r h1 → XFin xP sc goal fs (.inl (some (.int (J r)))) h1) : RR sc goal fs 208 0 [some (rv 437)] [] h := by
  unfold w_X14_fitting at w
  refine r_aldn (pc1 := 1) rfl rfl rfl ?_
  refine r_n (pc1 := 2) [.int (J 0), rv 437] _ rfl rfl ?_
  refine r_pfI (pc1 := 5) rfl rfl rfl t0 (lyk t0 rfl) rfl rfl rfl (fun h1 eh1 t1 u1 => ?_)
  have w := w h1 eh1 t1 u1
  have s1 := HX_trans (HX_refl h) u1
  refine r_aldn (pc1 := 6) rfl rfl rfl ?_
  refine r_gfI (pc1 := 9) rfl rfl rfl t1 (lyk t1 rfl) rfl rfl ?_
  refine r_aldn (pc1 := 10) rfl rfl rfl ?_
  refine r_gfI (pc1 := 13) rfl rfl rfl t1 (lyk t1 rfl) rfl rfl ?_
  obtain ⟨J3, j3, w⟩ := w
  have Q3 : ∀ (h2 : XH), HT h2 → HX h h2 → J3 h2 → RR sc goal fs 208 34 [some (rv 437)] [] h2 := by
    intro h2 t2 s2 z3
    have w := j3 h2 t2 s2 z3
    refine r_aldn (pc1 := 35) rfl rfl rfl ?_
    refine r_gfI (pc1 := 38) rfl rfl rfl t2 (lyk t2 rfl) rfl rfl ?_
    exact r_retI rfl rfl rfl (k _ _ t2 s2 (rgh _ _ _) w)
  refine r_ic (t := 34) (pc1 := 16) rfl rfl rfl (rgh _ _ _) (rgh _ _ _) (fun c8 => ?_) (fun c8 => ?_)
  · have w := w.1 c8
    exact Q3   h1 t1 s1  w
  · have w := w.2 c8
    refine r_aldn (pc1 := 17) rfl rfl rfl ?_
    refine r_aldn (pc1 := 18) rfl rfl rfl ?_
    refine r_n (pc1 := 19) [rv 0, rv 437, rv 437] _ rfl rfl ?_
    refine r_n (pc1 := 20) [rv 0, rv 0, rv 437, rv 437] _ rfl rfl ?_
    refine r_iv rfl rfl rfl rfl rfl rfl t1 (lyk t1 rfl) rfl (xe_of (xa_r (xa_r (xa_r xa_0))) rfl rfl) (r_d0 hd rfl) (a_X14_goThrough 0 0 (r_d1 hd rfl)  w t1 (fun x4 h5 t5 u5 rx4 w => ?_))
    refine r_fI (pc1 := 23) rfl ?_
    have s5 := HX_trans s1 u5
    have w := w t5 u5
    have w := w rx4
    refine r_pfI (pc1 := 26) rfl rfl rfl t5 (lyk t5 rfl) rfl rfl rfl (fun h6 eh6 t6 u6 => ?_)
    have w := w h6 eh6 t6 u6
    have s6 := HX_trans s5 u6
    refine r_aldn (pc1 := 27) rfl rfl rfl ?_
    refine r_aldn (pc1 := 28) rfl rfl rfl ?_
    refine r_gfI (pc1 := 31) rfl rfl rfl t6 (lyk t6 rfl) rfl rfl ?_
    refine r_pfI (pc1 := 34) rfl rfl rfl t6 (lyk t6 rfl) rfl rfl rfl (fun h7 eh7 t7 u7 => ?_)
    have w := w h7 eh7 t7 u7
    have s7 := HX_trans s6 u7
    exact Q3   h7 t7 s7  w
def w_X14_isWanted (p0 : Nat) (p1 : Int) (p2 : Int) (K : Int → Prop) (h : XH) : Prop :=
  (w_X14_slotIn p0 p1 (fun x1 => rg x1 → (w_X14_isOnIn p0 p1 (fun x2 => rg x2 → (x2 = 0 ∨ x2 = 1) → (∃ J4 : Int → Prop, (∀ (x3 : Int), rg x3 → J4 x3 → ((∃ (I7 : Int → Int → Prop) (m7 : Int → Int → Nat), I7 x3 0 ∧ ∀ (x5 : Int) (x6 : Int), rg x5 → rg x6 → I7 x5 x6 → (w_X14_ver x1 7 (fun x8 => rg x8 → (((x8 ≤ x6 → ((x5 = 0 ∨ x5 = 1) ∧ K x5)) ∧ (¬ (x8 ≤ x6) → (∃ J11 : Int → Prop, (∀ (x10 : Int), rg x10 → J11 x10 → (∀ x12 : Int, x12 = wr (x6 + 1) → rg x12 → (I7 x10 x12 ∧ m7 x10 x12 < m7 x5 x6))) ∧ ∃ J13 : Prop, (J13 → (J11 1)) ∧ ((¬ x5 = 0 → J13) ∧ (¬ (¬ x5 = 0) → (w_X14_ver x1 (wr (8 + x6)) (fun x14 => rg x14 → (hk h (hR h 437 6) = 106 ∧ (0 ≤ x14 ∧ x14 < (hn h (hR h 437 6) : Int)) ∧ w_X14_meets (hR h (hR h 437 6) x14.toNat) p2 (fun x17 => rg x17 → (x17 = 0 ∨ x17 = 1) → (((x17 = 0 → (J11 0)) ∧ (¬ (x17 = 0) → J13)))) h)) h)))))))) h)))) ∧ ∃ J21 : Prop, (J21 → (J4 0)) ∧ ((x2 = 0 → J21) ∧ (¬ (x2 = 0) → (w_X14_ver x1 6 (fun x22 => rg x22 → (((x22 ≤ 0 → J21) ∧ (¬ (x22 ≤ 0) → (w_X14_ver x1 6 (fun x23 => rg x23 → (∀ x24 : Int, x24 = wr (x23 - 1) → rg x24 → hk h (hR h 437 6) = 106 ∧ (0 ≤ x24 ∧ x24 < (hn h (hR h 437 6) : Int)) ∧ w_X14_meets (hR h (hR h 437 6) x24.toNat) p2 (fun x27 => rg x27 → (x27 = 0 ∨ x27 = 1) → (((x27 = 0 → J21) ∧ (¬ (x27 = 0) → (J4 1))))) h)) h))))) h))))) h)) h)
set_option maxHeartbeats 4000000 in
theorem a_X14_isWanted {sc : Nat × (Nat → Int32)} {goal : XO → XH → Prop} {fs : List XF} {h : XH} (p0 : Nat) (p1 : Int) (p2 : Int) {K : Int → Prop} (hd : fs.length + 4 ≤ 1000) (rp1 : rg p1) (rp2 : rg p2) (w : w_X14_isWanted p0 p1 p2 K h) (t0 : HT h) (k : ∀ (r : Int), rg r → (r = 0 ∨ r = 1) → K r → XFin xP sc goal fs (.inl (some (.int (J r)))) h) : RR sc goal fs 243 0 [some (rv 437), some (rv p0), some (.int (J p1)), some (.int (J p2)), none, none, none] [] h := by
  unfold w_X14_isWanted at w
  refine r_aldn (pc1 := 1) rfl rfl rfl ?_
  refine r_aldn (pc1 := 2) rfl rfl rfl ?_
  refine r_n (pc1 := 3) [.int (J p1), rv p0, rv 437] _ rfl rfl ?_
  refine r_iv rfl rfl rfl rfl rfl rfl t0 (lyk t0 rfl) rfl (xe_of (xa_r (xa_r (xa_i xa_0))) rfl rfl) (r_d0 hd rfl) (a_X14_slotIn p0 p1 (r_d1 hd rfl) rp1 w t0 (fun x1 rx1 w => ?_))
  refine r_fI (pc1 := 6) rfl ?_
  have w := w rx1
  refine r_ist (pc1 := 8) (ls1 := [some (rv 437), some (rv p0), some (.int (J p1)), some (.int (J p2)), some (.int (J x1)), none, none]) rfl rfl rfl rfl ?_
  refine r_aldn (pc1 := 9) rfl rfl rfl ?_
  refine r_n (pc1 := 10) [.int (J p1), rv p0] _ rfl rfl ?_
  refine r_iq rfl rfl rfl rfl rfl rfl (xe_of (xa_r (xa_i xa_0)) rfl rfl) (r_d0 hd rfl) (a_X14_isOnIn p0 p1 (r_d1 hd rfl) rp1 w t0 (fun x2 rx2 vx2 w => ?_))
  refine r_fI (pc1 := 13) rfl ?_
  have w := w rx2 vx2
  obtain ⟨J4, j4, w⟩ := w
  have Q4 : ∀ (x3 : Int), rg x3 → J4 x3 → RR sc goal fs 243 55 [some (rv 437), some (rv p0), some (.int (J p1)), some (.int (J p2)), some (.int (J x1)), none, none] [.int (J x3)] h := by
    intro x3 rx3 z4
    have w := j4 x3 rx3 z4
    refine r_ist (pc1 := 57) (ls1 := [some (rv 437), some (rv p0), some (.int (J p1)), some (.int (J p2)), some (.int (J x1)), some (.int (J x3)), none]) rfl rfl rfl rfl ?_
    refine r_n (pc1 := 58) [.int (J 0)] _ rfl rfl ?_
    refine r_ist (pc1 := 60) (ls1 := [some (rv 437), some (rv p0), some (.int (J p1)), some (.int (J p2)), some (.int (J x1)), some (.int (J x3)), some (.int (J 0))]) rfl rfl rfl rfl ?_
    obtain ⟨I7, m7, w, y7⟩ := w
    have Q7 : ∀ (n : Nat)  (x5 : Int) (x6 : Int), rg x5 → rg x6 → m7 x5 x6 < n → I7 x5 x6 → RR sc goal fs 243 60 [some (rv 437), some (rv p0), some (.int (J p1)), some (.int (J p2)), some (.int (J x1)), some (.int (J x5)), some (.int (J x6))] [] h := by
      intro n
      induction n with
      | zero => intro x5 x6 rx5 rx6 q7 _; exact absurd q7 (Nat.not_lt_zero _)
      | succ n ih7 =>
        intro x5 x6 rx5 rx6 q7 z7
        have w := y7 x5 x6 rx5 rx6 z7
        refine r_n (pc1 := 62) [.int (J x6)] _ rfl rfl ?_
        refine r_aldn (pc1 := 63) rfl rfl rfl ?_
        refine r_n (pc1 := 65) [.int (J x1), rv 437, .int (J x6)] _ rfl rfl ?_
        refine r_n (pc1 := 67) [.int (J 7), .int (J x1), rv 437, .int (J x6)] _ rfl rfl ?_
        refine r_iv rfl rfl rfl rfl rfl rfl t0 (lyk t0 rfl) rfl (xe_of (xa_r (xa_i (xa_i xa_0))) rfl rfl) (r_d0 hd rfl) (a_X14_ver x1 7 (r_d1 hd rfl) rx1 (rgk rfl) w t0 (fun x8 rx8 w => ?_))
        refine r_fI (pc1 := 70) rfl ?_
        have w := w rx8
        refine r_ic (t := 115) (pc1 := 73) rfl rfl rfl rx6 rx8 (fun c20 => ?_) (fun c20 => ?_)
        · have w := w.1 c20
          refine r_n (pc1 := 117) [.int (J x5)] _ rfl rfl ?_
          obtain ⟨c9, w⟩ := w
          exact r_retB rfl rfl rfl c9 (k _ rx5 c9 w)
        · have w := w.2 c20
          refine r_n (pc1 := 75) [.int (J x5)] _ rfl rfl ?_
          obtain ⟨J11, j11, w⟩ := w
          have Q11 : ∀ (x10 : Int), rg x10 → J11 x10 → RR sc goal fs 243 107 [some (rv 437), some (rv p0), some (.int (J p1)), some (.int (J p2)), some (.int (J x1)), some (.int (J x5)), some (.int (J x6))] [.int (J x10)] h := by
            intro x10 rx10 z11
            have w := j11 x10 rx10 z11
            refine r_ist (pc1 := 109) (ls1 := [some (rv 437), some (rv p0), some (.int (J p1)), some (.int (J p2)), some (.int (J x1)), some (.int (J x10)), some (.int (J x6))]) rfl rfl rfl rfl ?_
            refine r_inc (pc1 := 112) (g := fun zz => [some (rv 437), some (rv p0), some (.int (J p1)), some (.int (J p2)), some (.int (J x1)), some (.int (J x10)), some (.int (J zz))]) rfl rfl rfl rfl (fun _ => rfl) (fun x12 ex12 rx12 => ?_)
            have w := w x12 ex12 rx12
            refine r_goto (t := 60) rfl rfl ?_
            exact ih7  x10 x12  rx10 rx12 (Nat.lt_of_lt_of_le w.2 (Nat.le_of_lt_succ q7)) w.1
          obtain ⟨J13, j13, w⟩ := w
          have Q13 : J13 → RR sc goal fs 243 102 [some (rv 437), some (rv p0), some (.int (J p1)), some (.int (J p2)), some (.int (J x1)), some (.int (J x5)), some (.int (J x6))] [] h := by
            intro z13
            have w := j13 z13
            refine r_n (pc1 := 103) [.int (J 1)] _ rfl rfl ?_
            refine r_goto (t := 107) rfl rfl ?_
            exact Q11  1  (rgk rfl) w
          refine r_iz (t := 102) (pc1 := 78) rfl rfl rfl rx5 (fun c19 => ?_) (fun c19 => ?_)
          · have w := w.1 c19
            exact Q13     w
          · have w := w.2 c19
            refine r_aldn (pc1 := 79) rfl rfl rfl ?_
            refine r_aldn (pc1 := 80) rfl rfl rfl ?_
            refine r_gfR (pc1 := 83) rfl rfl rfl t0 (lyk t0 rfl) rfl rfl ?_
            refine r_aldn (pc1 := 84) rfl rfl rfl ?_
            refine r_n (pc1 := 86) [.int (J x1), rv 437, rv (hR h 437 6), rv 437] _ rfl rfl ?_
            refine r_n (pc1 := 88) [.int (J 8), .int (J x1), rv 437, rv (hR h 437 6), rv 437] _ rfl rfl ?_
            refine r_n (pc1 := 90) [.int (J x6), .int (J 8), .int (J x1), rv 437, rv (hR h 437 6), rv 437] _ rfl rfl ?_
            refine r_iadd (pc1 := 91) rfl rfl ?_
            refine r_iv rfl rfl rfl rfl rfl rfl t0 (lyk t0 rfl) rfl (xe_of (xa_r (xa_i (xa_i xa_0))) rfl rfl) (r_d0 hd rfl) (a_X14_ver x1 (wr (8 + x6)) (r_d1 hd rfl) rx1 (rgw _) w t0 (fun x14 rx14 w => ?_))
            refine r_fI (pc1 := 94) rfl ?_
            have w := w rx14
            obtain ⟨c15, w⟩ := w
            obtain ⟨c16, w⟩ := w
            refine r_aal (pc1 := 95) (u := 6) rfl rfl t0 c15 rfl rfl rx14 c16.1 c16.2 ?_
            refine r_n (pc1 := 96) [.int (J p2), rv (hR h (hR h 437 6) x14.toNat), rv 437] _ rfl rfl ?_
            refine r_iv rfl rfl rfl rfl rfl rfl t0 (lyk t0 rfl) rfl (xe_of (xa_r (xa_r (xa_i xa_0))) rfl rfl) (r_d0 hd rfl) (a_X14_meets (hR h (hR h 437 6) x14.toNat) p2 (r_d1 hd rfl) rp2 w t0 (fun x17 rx17 vx17 w => ?_))
            refine r_fI (pc1 := 99) rfl ?_
            have w := w rx17 vx17
            refine r_iz (t := 106) (pc1 := 102) rfl rfl rfl rx17 (fun c18 => ?_) (fun c18 => ?_)
            · have w := w.1 c18
              refine r_n (pc1 := 107) [.int (J 0)] _ rfl rfl ?_
              exact Q11  0  (rgk rfl) w
            · have w := w.2 c18
              exact Q13     w
    exact Q7 _  x3 0  rx3 (rgk rfl) (Nat.lt_succ_self _) w
  obtain ⟨J21, j21, w⟩ := w
  have Q21 : J21 → RR sc goal fs 243 54 [some (rv 437), some (rv p0), some (.int (J p1)), some (.int (J p2)), some (.int (J x1)), none, none] [] h := by
    intro z21
    have w := j21 z21
    refine r_n (pc1 := 55) [.int (J 0)] _ rfl rfl ?_
    exact Q4  0  (rgk rfl) w
  refine r_iz (t := 54) (pc1 := 16) rfl rfl rfl rx2 (fun c30 => ?_) (fun c30 => ?_)
  · have w := w.1 c30
    exact Q21     w
  · have w := w.2 c30
    refine r_aldn (pc1 := 17) rfl rfl rfl ?_
    refine r_n (pc1 := 19) [.int (J x1), rv 437] _ rfl rfl ?_
    refine r_n (pc1 := 21) [.int (J 6), .int (J x1), rv 437] _ rfl rfl ?_
    refine r_iv rfl rfl rfl rfl rfl rfl t0 (lyk t0 rfl) rfl (xe_of (xa_r (xa_i (xa_i xa_0))) rfl rfl) (r_d0 hd rfl) (a_X14_ver x1 6 (r_d1 hd rfl) rx1 (rgk rfl) w t0 (fun x22 rx22 w => ?_))
    refine r_fI (pc1 := 24) rfl ?_
    have w := w rx22
    refine r_iz (t := 54) (pc1 := 27) rfl rfl rfl rx22 (fun c29 => ?_) (fun c29 => ?_)
    · have w := w.1 c29
      exact Q21     w
    · have w := w.2 c29
      refine r_aldn (pc1 := 28) rfl rfl rfl ?_
      refine r_aldn (pc1 := 29) rfl rfl rfl ?_
      refine r_gfR (pc1 := 32) rfl rfl rfl t0 (lyk t0 rfl) rfl rfl ?_
      refine r_aldn (pc1 := 33) rfl rfl rfl ?_
      refine r_n (pc1 := 35) [.int (J x1), rv 437, rv (hR h 437 6), rv 437] _ rfl rfl ?_
      refine r_n (pc1 := 37) [.int (J 6), .int (J x1), rv 437, rv (hR h 437 6), rv 437] _ rfl rfl ?_
      refine r_iv rfl rfl rfl rfl rfl rfl t0 (lyk t0 rfl) rfl (xe_of (xa_r (xa_i (xa_i xa_0))) rfl rfl) (r_d0 hd rfl) (a_X14_ver x1 6 (r_d1 hd rfl) rx1 (rgk rfl) w t0 (fun x23 rx23 w => ?_))
      refine r_fI (pc1 := 40) rfl ?_
      have w := w rx23
      refine r_n (pc1 := 41) [.int (J 1), .int (J x23), rv (hR h 437 6), rv 437] _ rfl rfl ?_
      refine r_isub (pc1 := 42) rfl rfl ?_
      refine r_vI (rgw _) (fun x24 ex24 rx24 => ?_)
      have w := w x24 ex24 rx24
      obtain ⟨c25, w⟩ := w
      obtain ⟨c26, w⟩ := w
      refine r_aal (pc1 := 43) (u := 6) rfl rfl t0 c25 rfl rfl rx24 c26.1 c26.2 ?_
      refine r_n (pc1 := 44) [.int (J p2), rv (hR h (hR h 437 6) x24.toNat), rv 437] _ rfl rfl ?_
      refine r_iv rfl rfl rfl rfl rfl rfl t0 (lyk t0 rfl) rfl (xe_of (xa_r (xa_r (xa_i xa_0))) rfl rfl) (r_d0 hd rfl) (a_X14_meets (hR h (hR h 437 6) x24.toNat) p2 (r_d1 hd rfl) rp2 w t0 (fun x27 rx27 vx27 w => ?_))
      refine r_fI (pc1 := 47) rfl ?_
      have w := w rx27 vx27
      refine r_iz (t := 54) (pc1 := 50) rfl rfl rfl rx27 (fun c28 => ?_) (fun c28 => ?_)
      · have w := w.1 c28
        exact Q21     w
      · have w := w.2 c28
        refine r_n (pc1 := 51) [.int (J 1)] _ rfl rfl ?_
        refine r_goto (t := 55) rfl rfl ?_
        exact Q4  1  (rgk rfl) w
def w_X14_reach (p0 : Nat) (K : XH → Prop) (h : XH) : Prop :=
  ((∃ (I3 : Int → XH → Prop) (m3 : Int → XH → Nat), I3 0 h ∧ ∀ (x1 : Int) (h2 : XH), HT h2 → HX h h2 → rg x1 → I3 x1 h2 → (((12 ≤ x1 → ((∃ (I7 : Int → XH → Prop) (m7 : Int → XH → Nat), I7 0 h2 ∧ ∀ (x4 : Int) (h6 : XH), HT h6 → HX h h6 → rg x4 → I7 x4 h6 → (w_X14_rootAt 0 (fun x8 => rg x8 → (((x8 ≤ x4 → ((∃ (I13 : Int → XH → Prop) (m13 : Int → XH → Nat), I13 1 h6 ∧ ∀ (x9 : Int) (h12 : XH), HT h12 → HX h h12 → rg x9 → I13 x9 h12 → (((12 ≤ x9 → (K h12)) ∧ (¬ (12 ≤ x9) → ((∃ (I17 : Int → XH → Prop) (m17 : Int → XH → Nat), I17 0 h12 ∧ ∀ (x14 : Int) (h16 : XH), HT h16 → HX h h16 → rg x14 → I17 x14 h16 → (((12 ≤ x14 → (∀ x18 : Int, x18 = wr (x9 + 1) → rg x18 → (I13 x18 h16 ∧ m13 x18 h16 < m13 x9 h12))) ∧ (¬ (12 ≤ x14) → ((∃ (I21 : Int → XH → Prop) (m21 : Int → XH → Nat), I21 0 h16 ∧ ∀ (x19 : Int) (h20 : XH), HT h20 → HX h h20 → rg x19 → I21 x19 h20 → (∃ J22 : Prop, (J22 → (∀ x23 : Int, x23 = wr (x14 + 1) → rg x23 → (I17 x23 h20 ∧ m17 x23 h20 < m17 x14 h16))) ∧ ((12 ≤ x19 → J22) ∧ (¬ (12 ≤ x19) → ((0 ≤ x14 ∧ x14 < 12) ∧ ((¬ hI h20 463 x14.toNat = x9 → J22) ∧ (¬ (¬ hI h20 463 x14.toNat = x9) → (hk h20 p0 = 100 ∧ (0 ≤ x19 ∧ x19 < (hn h20 p0 : Int)) ∧ ∃ J28 : XH → Prop, (∀ (h27 : XH), HT h27 → HX h h27 → J28 h27 → (∀ x29 : Int, x29 = wr (x19 + 1) → rg x29 → (I21 x29 h27 ∧ m21 x29 h27 < m21 x19 h20))) ∧ ((hI h20 p0 x19.toNat = (-1) → J28 h20) ∧ (¬ (hI h20 p0 x19.toNat = (-1)) → ((0 ≤ x19 ∧ x19 < 12) ∧ ((¬ hI h20 463 x19.toNat = (-1) → J28 h20) ∧ (¬ (¬ hI h20 463 x19.toNat = (-1)) → (w_X14_slotIn p0 x19 (fun x31 => rg x31 → (w_X14_isWanted p0 x14 x31 (fun x32 => rg x32 → (x32 = 0 ∨ x32 = 1) → (((x32 = 0 → J28 h20) ∧ (¬ (x32 = 0) → (∀ h33 : XH, h33 = sI h20 462 x19.toNat x14 → HT h33 → HX h20 h33 → ∀ h34 : XH, h34 = sI h33 463 x19.toNat (wr (x9 + 1)) → HT h34 → HX h33 h34 → J28 h34))))) h20)) h20)))))))))))))))))))))))))) ∧ (¬ (x8 ≤ x4) → ((∃ (I44 : Int → XH → Prop) (m44 : Int → XH → Nat), I44 0 h6 ∧ ∀ (x42 : Int) (h43 : XH), HT h43 → HX h h43 → rg x42 → I44 x42 h43 → (∃ J45 : Prop, (J45 → (∀ x46 : Int, x46 = wr (x4 + 1) → rg x46 → (I7 x46 h43 ∧ m7 x46 h43 < m7 x4 h6))) ∧ ((12 ≤ x42 → J45) ∧ (¬ (12 ≤ x42) → (w_X14_wishAt x4 (fun a47 => (((a47 = 0 → J45) ∧ (¬ (a47 = 0) → (hk h43 p0 = 100 ∧ (0 ≤ x42 ∧ x42 < (hn h43 p0 : Int)) ∧ ∃ J51 : XH → Prop, (∀ (h50 : XH), HT h50 → HX h h50 → J51 h50 → (∀ x52 : Int, x52 = wr (x42 + 1) → rg x52 → (I44 x52 h50 ∧ m44 x52 h50 < m44 x42 h43))) ∧ ((hI h43 p0 x42.toNat = (-1) → J51 h43) ∧ (¬ (hI h43 p0 x42.toNat = (-1)) → ((0 ≤ x42 ∧ x42 < 12) ∧ ((¬ hI h43 463 x42.toNat = (-1) → J51 h43) ∧ (¬ (¬ hI h43 463 x42.toNat = (-1)) → (w_X14_wishAt x4 (fun a54 => (w_X14_slotIn p0 x42 (fun x55 => rg x55 → (w_X14_meets a54 x55 (fun x56 => rg x56 → (x56 = 0 ∨ x56 = 1) → (((x56 = 0 → J51 h43) ∧ (¬ (x56 = 0) → (∀ h57 : XH, h57 = sI h43 462 x42.toNat (wr (100 + x4)) → HT h57 → HX h43 h57 → ∀ h58 : XH, h58 = sI h57 463 x42.toNat 1 → HT h58 → HX h57 h58 → J51 h58))))) h43)) h43)) h43))))))))))) h43)))))))))) h6)))) ∧ (¬ (12 ≤ x1) → ((0 ≤ x1 ∧ x1 < 12) ∧ ∀ h66 : XH, h66 = sI h2 462 x1.toNat (-1) → HT h66 → HX h2 h66 → ∀ h67 : XH, h67 = sI h66 463 x1.toNat (-1) → HT h67 → HX h66 h67 → ∀ x68 : Int, x68 = wr (x1 + 1) → rg x68 → (I3 x68 h67 ∧ m3 x68 h67 < m3 x1 h2)))))))
set_option maxHeartbeats 4000000 in
theorem a_X14_reach {sc : Nat × (Nat → Int32)} {goal : XO → XH → Prop} {fs : List XF} {h : XH} (p0 : Nat) {K : XH → Prop} (hd : fs.length + 5 ≤ 1000) (w : w_X14_reach p0 K h) (t0 : HT h) (k : ∀ (h1 : XH), HT h1 → HX h h1 → K h1 → XFin xP sc goal fs (.inl none) h1) : RR sc goal fs 280 0 [some (rv 437), some (rv p0), none, none, none] [] h := by
  unfold w_X14_reach at w
  refine r_n (pc1 := 1) [.int (J 0)] _ rfl rfl ?_
  refine r_istn (pc1 := 2) (ls1 := [some (rv 437), some (rv p0), some (.int (J 0)), none, none]) rfl rfl rfl (xput1_rv rfl rfl) ?_
  obtain ⟨I3, m3, w, y3⟩ := w
  have Q3 : ∀ (n : Nat)  (x1 : Int) (h2 : XH), HT h2 → HX h h2 → rg x1 → m3 x1 h2 < n → I3 x1 h2 → RR sc goal fs 280 2 [some (rv 437), some (rv p0), some (.int (J x1)), none, none] [] h2 := by
    intro n
    induction n with
    | zero => intro x1 h2 t2 s2 rx1 q3 _; exact absurd q3 (Nat.not_lt_zero _)
    | succ n ih3 =>
      intro x1 h2 t2 s2 rx1 q3 z3
      have w := y3 x1 h2 t2 s2 rx1 z3
      refine r_n (pc1 := 3) [.int (J x1)] _ rfl rfl ?_
      refine r_n (pc1 := 5) [.int (J 12), .int (J x1)] _ rfl rfl ?_
      refine r_ic (t := 28) (pc1 := 8) rfl rfl rfl rx1 (rgk rfl) (fun c69 => ?_) (fun c69 => ?_)
      · have w := w.1 c69
        refine r_n (pc1 := 29) [.int (J 0)] _ rfl rfl ?_
        refine r_istn (pc1 := 30) (ls1 := [some (rv 437), some (rv p0), some (.int (J 0)), none, none]) rfl rfl rfl (xput1_rv rfl rfl) ?_
        obtain ⟨I7, m7, w, y7⟩ := w
        have Q7 : ∀ (n : Nat) (d5 : Option Value) (x4 : Int) (h6 : XH), HT h6 → HX h h6 → rg x4 → m7 x4 h6 < n → I7 x4 h6 → RR sc goal fs 280 30 [some (rv 437), some (rv p0), some (.int (J x4)), d5, none] [] h6 := by
          intro n
          induction n with
          | zero => intro d5 x4 h6 t6 s6 rx4 q7 _; exact absurd q7 (Nat.not_lt_zero _)
          | succ n ih7 =>
            intro d5 x4 h6 t6 s6 rx4 q7 z7
            have w := y7 x4 h6 t6 s6 rx4 z7
            refine r_n (pc1 := 31) [.int (J x4)] _ rfl rfl ?_
            refine r_aldn (pc1 := 32) rfl rfl rfl ?_
            refine r_n (pc1 := 33) [.int (J 0), rv 437, .int (J x4)] _ rfl rfl ?_
            refine r_iv rfl rfl rfl rfl rfl rfl t6 (lyk t6 rfl) rfl (xe_of (xa_r (xa_i xa_0)) rfl rfl) (r_d0 hd rfl) (a_X14_rootAt 0 (r_d1 hd rfl) (rgk rfl) w t6 (fun x8 rx8 w => ?_))
            refine r_fI (pc1 := 36) rfl ?_
            have w := w rx8
            refine r_ic (t := 119) (pc1 := 39) rfl rfl rfl rx4 rx8 (fun c64 => ?_) (fun c64 => ?_)
            · have w := w.1 c64
              refine r_n (pc1 := 120) [.int (J 1)] _ rfl rfl ?_
              refine r_istn (pc1 := 121) (ls1 := [some (rv 437), some (rv p0), some (.int (J 1)), d5, none]) rfl rfl rfl (xput1_rv rfl rfl) ?_
              obtain ⟨I13, m13, w, y13⟩ := w
              have Q13 : ∀ (n : Nat) (d10 : Option Value) (d11 : Option Value) (x9 : Int) (h12 : XH), HT h12 → HX h h12 → rg x9 → m13 x9 h12 < n → I13 x9 h12 → RR sc goal fs 280 121 [some (rv 437), some (rv p0), some (.int (J x9)), d10, d11] [] h12 := by
                intro n
                induction n with
                | zero => intro d10 d11 x9 h12 t12 s12 rx9 q13 _; exact absurd q13 (Nat.not_lt_zero _)
                | succ n ih13 =>
                  intro d10 d11 x9 h12 t12 s12 rx9 q13 z13
                  have w := y13 x9 h12 t12 s12 rx9 z13
                  refine r_n (pc1 := 122) [.int (J x9)] _ rfl rfl ?_
                  refine r_n (pc1 := 124) [.int (J 12), .int (J x9)] _ rfl rfl ?_
                  refine r_ic (t := 226) (pc1 := 127) rfl rfl rfl rx9 (rgk rfl) (fun c41 => ?_) (fun c41 => ?_)
                  · have w := w.1 c41
                    exact r_retV rfl rfl rfl (k _ t12 s12 w)
                  · have w := w.2 c41
                    refine r_n (pc1 := 128) [.int (J 0)] _ rfl rfl ?_
                    refine r_istn (pc1 := 129) (ls1 := [some (rv 437), some (rv p0), some (.int (J x9)), some (.int (J 0)), d11]) rfl rfl rfl rfl ?_
                    obtain ⟨I17, m17, w, y17⟩ := w
                    have Q17 : ∀ (n : Nat) (d15 : Option Value) (x14 : Int) (h16 : XH), HT h16 → HX h h16 → rg x14 → m17 x14 h16 < n → I17 x14 h16 → RR sc goal fs 280 129 [some (rv 437), some (rv p0), some (.int (J x9)), some (.int (J x14)), d15] [] h16 := by
                      intro n
                      induction n with
                      | zero => intro d15 x14 h16 t16 s16 rx14 q17 _; exact absurd q17 (Nat.not_lt_zero _)
                      | succ n ih17 =>
                        intro d15 x14 h16 t16 s16 rx14 q17 z17
                        have w := y17 x14 h16 t16 s16 rx14 z17
                        refine r_n (pc1 := 130) [.int (J x14)] _ rfl rfl ?_
                        refine r_n (pc1 := 132) [.int (J 12), .int (J x14)] _ rfl rfl ?_
                        refine r_ic (t := 220) (pc1 := 135) rfl rfl rfl rx14 (rgk rfl) (fun c40 => ?_) (fun c40 => ?_)
                        · have w := w.1 c40
                          refine r_inc (pc1 := 223) (g := fun zz => [some (rv 437), some (rv p0), some (.int (J zz)), some (.int (J x14)), d15]) rfl rfl rfl rfl (fun _ => xput1_rv rfl rfl) (fun x18 ex18 rx18 => ?_)
                          have w := w x18 ex18 rx18
                          refine r_goto (t := 121) rfl rfl ?_
                          exact ih13 _ _ x18 h16 t16 s16 rx18 (Nat.lt_of_lt_of_le w.2 (Nat.le_of_lt_succ q13)) w.1
                        · have w := w.2 c40
                          refine r_n (pc1 := 136) [.int (J 0)] _ rfl rfl ?_
                          refine r_ist (pc1 := 138) (ls1 := [some (rv 437), some (rv p0), some (.int (J x9)), some (.int (J x14)), some (.int (J 0))]) rfl rfl rfl rfl ?_
                          obtain ⟨I21, m21, w, y21⟩ := w
                          have Q21 : ∀ (n : Nat)  (x19 : Int) (h20 : XH), HT h20 → HX h h20 → rg x19 → m21 x19 h20 < n → I21 x19 h20 → RR sc goal fs 280 138 [some (rv 437), some (rv p0), some (.int (J x9)), some (.int (J x14)), some (.int (J x19))] [] h20 := by
                            intro n
                            induction n with
                            | zero => intro x19 h20 t20 s20 rx19 q21 _; exact absurd q21 (Nat.not_lt_zero _)
                            | succ n ih21 =>
                              intro x19 h20 t20 s20 rx19 q21 z21
                              have w := y21 x19 h20 t20 s20 rx19 z21
                              refine r_n (pc1 := 140) [.int (J x19)] _ rfl rfl ?_
                              refine r_n (pc1 := 142) [.int (J 12), .int (J x19)] _ rfl rfl ?_
                              obtain ⟨J22, j22, w⟩ := w
                              have Q22 : J22 → RR sc goal fs 280 214 [some (rv 437), some (rv p0), some (.int (J x9)), some (.int (J x14)), some (.int (J x19))] [] h20 := by
                                intro z22
                                have w := j22 z22
                                refine r_inc (pc1 := 217) (g := fun zz => [some (rv 437), some (rv p0), some (.int (J x9)), some (.int (J zz)), some (.int (J x19))]) rfl rfl rfl rfl (fun _ => rfl) (fun x23 ex23 rx23 => ?_)
                                have w := w x23 ex23 rx23
                                refine r_goto (t := 129) rfl rfl ?_
                                exact ih17 _ x23 h20 t20 s20 rx23 (Nat.lt_of_lt_of_le w.2 (Nat.le_of_lt_succ q17)) w.1
                              refine r_ic (t := 214) (pc1 := 145) rfl rfl rfl rx19 (rgk rfl) (fun c39 => ?_) (fun c39 => ?_)
                              · have w := w.1 c39
                                exact Q22     w
                              · have w := w.2 c39
                                refine r_aldn (pc1 := 146) rfl rfl rfl ?_
                                refine r_gfC (pc1 := 149) (q := 463) rfl rfl rfl t20 (lyk t20 rfl) rfl rfl (lyR t20 rfl rfl) ?_
                                refine r_n (pc1 := 150) [.int (J x14), rv 463] _ rfl rfl ?_
                                obtain ⟨c24, w⟩ := w
                                refine r_ial (pc1 := 151) rfl rfl t20 (lyk t20 rfl) rx14 c24.1 (lt_len (lyn t20 rfl) c24.2) ?_
                                refine r_n (pc1 := 152) [.int (J x9), .int (J (hI h20 463 x14.toNat))] _ rfl rfl ?_
                                refine r_ic (t := 214) (pc1 := 155) rfl rfl rfl (rgh _ _ _) rx9 (fun c38 => ?_) (fun c38 => ?_)
                                · have w := w.1 c38
                                  exact Q22     w
                                · have w := w.2 c38
                                  refine r_aldn (pc1 := 156) rfl rfl rfl ?_
                                  refine r_n (pc1 := 158) [.int (J x19), rv p0] _ rfl rfl ?_
                                  obtain ⟨c25, w⟩ := w
                                  obtain ⟨c26, w⟩ := w
                                  refine r_ial (pc1 := 159) rfl rfl t20 c25 rx19 c26.1 c26.2 ?_
                                  refine r_n (pc1 := 160) [.int (J (-1)), .int (J (hI h20 p0 x19.toNat))] _ rfl rfl ?_
                                  obtain ⟨J28, j28, w⟩ := w
                                  have Q28 : ∀ (h27 : XH), HT h27 → HX h h27 → J28 h27 → RR sc goal fs 280 208 [some (rv 437), some (rv p0), some (.int (J x9)), some (.int (J x14)), some (.int (J x19))] [] h27 := by
                                    intro h27 t27 s27 z28
                                    have w := j28 h27 t27 s27 z28
                                    refine r_inc (pc1 := 211) (g := fun zz => [some (rv 437), some (rv p0), some (.int (J x9)), some (.int (J x14)), some (.int (J zz))]) rfl rfl rfl rfl (fun _ => rfl) (fun x29 ex29 rx29 => ?_)
                                    have w := w x29 ex29 rx29
                                    refine r_goto (t := 138) rfl rfl ?_
                                    exact ih21  x29 h27 t27 s27 rx29 (Nat.lt_of_lt_of_le w.2 (Nat.le_of_lt_succ q21)) w.1
                                  refine r_ic (t := 208) (pc1 := 163) rfl rfl rfl (rgh _ _ _) (rgk rfl) (fun c37 => ?_) (fun c37 => ?_)
                                  · have w := w.1 c37
                                    exact Q28   h20 t20 s20  w
                                  · have w := w.2 c37
                                    refine r_aldn (pc1 := 164) rfl rfl rfl ?_
                                    refine r_gfC (pc1 := 167) (q := 463) rfl rfl rfl t20 (lyk t20 rfl) rfl rfl (lyR t20 rfl rfl) ?_
                                    refine r_n (pc1 := 169) [.int (J x19), rv 463] _ rfl rfl ?_
                                    obtain ⟨c30, w⟩ := w
                                    refine r_ial (pc1 := 170) rfl rfl t20 (lyk t20 rfl) rx19 c30.1 (lt_len (lyn t20 rfl) c30.2) ?_
                                    refine r_n (pc1 := 171) [.int (J (-1)), .int (J (hI h20 463 x19.toNat))] _ rfl rfl ?_
                                    refine r_ic (t := 208) (pc1 := 174) rfl rfl rfl (rgh _ _ _) (rgk rfl) (fun c36 => ?_) (fun c36 => ?_)
                                    · have w := w.1 c36
                                      exact Q28   h20 t20 s20  w
                                    · have w := w.2 c36
                                      refine r_aldn (pc1 := 175) rfl rfl rfl ?_
                                      refine r_aldn (pc1 := 176) rfl rfl rfl ?_
                                      refine r_n (pc1 := 177) [.int (J x14), rv p0, rv 437] _ rfl rfl ?_
                                      refine r_aldn (pc1 := 178) rfl rfl rfl ?_
                                      refine r_aldn (pc1 := 179) rfl rfl rfl ?_
                                      refine r_n (pc1 := 181) [.int (J x19), rv p0, rv 437, .int (J x14), rv p0, rv 437] _ rfl rfl ?_
                                      refine r_iv rfl rfl rfl rfl rfl rfl t20 (lyk t20 rfl) rfl (xe_of (xa_r (xa_r (xa_i xa_0))) rfl rfl) (r_d0 hd rfl) (a_X14_slotIn p0 x19 (r_d1 hd rfl) rx19 w t20 (fun x31 rx31 w => ?_))
                                      refine r_fI (pc1 := 184) rfl ?_
                                      have w := w rx31
                                      refine r_iv rfl rfl rfl rfl rfl rfl t20 (lyk t20 rfl) rfl (xe_of (xa_r (xa_r (xa_i (xa_i xa_0)))) rfl rfl) (r_d0 hd rfl) (a_X14_isWanted p0 x14 x31 (r_d1 hd rfl) rx14 rx31 w t20 (fun x32 rx32 vx32 w => ?_))
                                      refine r_fI (pc1 := 187) rfl ?_
                                      have w := w rx32 vx32
                                      refine r_iz (t := 208) (pc1 := 190) rfl rfl rfl rx32 (fun c35 => ?_) (fun c35 => ?_)
                                      · have w := w.1 c35
                                        exact Q28   h20 t20 s20  w
                                      · have w := w.2 c35
                                        refine r_aldn (pc1 := 191) rfl rfl rfl ?_
                                        refine r_gfC (pc1 := 194) (q := 462) rfl rfl rfl t20 (lyk t20 rfl) rfl rfl (lyR t20 rfl rfl) ?_
                                        refine r_n (pc1 := 196) [.int (J x19), rv 462] _ rfl rfl ?_
                                        refine r_n (pc1 := 197) [.int (J x14), .int (J x19), rv 462] _ rfl rfl ?_
                                        refine r_iast (pc1 := 198) rfl rfl t20 (lyk t20 rfl) rx19 c30.1 (lt_len (lyn t20 rfl) c30.2) (fun h33 eh33 t33 u33 => ?_)
                                        have w := w h33 eh33 t33 u33
                                        have s33 := HX_trans s20 u33
                                        refine r_aldn (pc1 := 199) rfl rfl rfl ?_
                                        refine r_gfC (pc1 := 202) (q := 463) rfl rfl rfl t33 (lyk t33 rfl) rfl rfl (lyR t33 rfl rfl) ?_
                                        refine r_n (pc1 := 204) [.int (J x19), rv 463] _ rfl rfl ?_
                                        refine r_n (pc1 := 205) [.int (J x9), .int (J x19), rv 463] _ rfl rfl ?_
                                        refine r_n (pc1 := 206) [.int (J 1), .int (J x9), .int (J x19), rv 463] _ rfl rfl ?_
                                        refine r_iadd (pc1 := 207) rfl rfl ?_
                                        refine r_iast (pc1 := 208) rfl rfl t33 (lyk t33 rfl) rx19 c30.1 (lt_len (lyn t33 rfl) c30.2) (fun h34 eh34 t34 u34 => ?_)
                                        have w := w h34 eh34 t34 u34
                                        have s34 := HX_trans s33 u34
                                        exact Q28   h34 t34 s34  w
                          exact Q21 _  0 h16 t16 s16 (rgk rfl) (Nat.lt_succ_self _) w
                    exact Q17 _ _ 0 h12 t12 s12 (rgk rfl) (Nat.lt_succ_self _) w
              exact Q13 _ _ _ 1 h6 t6 s6 (rgk rfl) (Nat.lt_succ_self _) w
            · have w := w.2 c64
              refine r_n (pc1 := 40) [.int (J 0)] _ rfl rfl ?_
              refine r_istn (pc1 := 41) (ls1 := [some (rv 437), some (rv p0), some (.int (J x4)), some (.int (J 0)), none]) rfl rfl rfl rfl ?_
              obtain ⟨I44, m44, w, y44⟩ := w
              have Q44 : ∀ (n : Nat)  (x42 : Int) (h43 : XH), HT h43 → HX h h43 → rg x42 → m44 x42 h43 < n → I44 x42 h43 → RR sc goal fs 280 41 [some (rv 437), some (rv p0), some (.int (J x4)), some (.int (J x42)), none] [] h43 := by
                intro n
                induction n with
                | zero => intro x42 h43 t43 s43 rx42 q44 _; exact absurd q44 (Nat.not_lt_zero _)
                | succ n ih44 =>
                  intro x42 h43 t43 s43 rx42 q44 z44
                  have w := y44 x42 h43 t43 s43 rx42 z44
                  refine r_n (pc1 := 42) [.int (J x42)] _ rfl rfl ?_
                  refine r_n (pc1 := 44) [.int (J 12), .int (J x42)] _ rfl rfl ?_
                  obtain ⟨J45, j45, w⟩ := w
                  have Q45 : J45 → RR sc goal fs 280 113 [some (rv 437), some (rv p0), some (.int (J x4)), some (.int (J x42)), none] [] h43 := by
                    intro z45
                    have w := j45 z45
                    refine r_inc (pc1 := 116) (g := fun zz => [some (rv 437), some (rv p0), some (.int (J zz)), some (.int (J x42)), none]) rfl rfl rfl rfl (fun _ => xput1_rv rfl rfl) (fun x46 ex46 rx46 => ?_)
                    have w := w x46 ex46 rx46
                    refine r_goto (t := 30) rfl rfl ?_
                    exact ih7 _ x46 h43 t43 s43 rx46 (Nat.lt_of_lt_of_le w.2 (Nat.le_of_lt_succ q7)) w.1
                  refine r_ic (t := 113) (pc1 := 47) rfl rfl rfl rx42 (rgk rfl) (fun c63 => ?_) (fun c63 => ?_)
                  · have w := w.1 c63
                    exact Q45     w
                  · have w := w.2 c63
                    refine r_aldn (pc1 := 48) rfl rfl rfl ?_
                    refine r_n (pc1 := 49) [.int (J x4), rv 437] _ rfl rfl ?_
                    refine r_iv rfl rfl rfl rfl rfl rfl t43 (lyk t43 rfl) rfl (xe_of (xa_r (xa_i xa_0)) rfl rfl) (r_d0 hd rfl) (a_X14_wishAt x4 (r_d1 hd rfl) rx4 w t43 (fun a47 w => ?_))
                    refine r_fR (pc1 := 52) rfl ?_
                    refine r_null (t := 113) (pc1 := 55) rfl rfl rfl (fun c62 => ?_) (fun c62 => ?_)
                    · have w := w.1 c62
                      exact Q45     w
                    · have w := w.2 c62
                      refine r_aldn (pc1 := 56) rfl rfl rfl ?_
                      refine r_n (pc1 := 57) [.int (J x42), rv p0] _ rfl rfl ?_
                      obtain ⟨c48, w⟩ := w
                      obtain ⟨c49, w⟩ := w
                      refine r_ial (pc1 := 58) rfl rfl t43 c48 rx42 c49.1 c49.2 ?_
                      refine r_n (pc1 := 59) [.int (J (-1)), .int (J (hI h43 p0 x42.toNat))] _ rfl rfl ?_
                      obtain ⟨J51, j51, w⟩ := w
                      have Q51 : ∀ (h50 : XH), HT h50 → HX h h50 → J51 h50 → RR sc goal fs 280 107 [some (rv 437), some (rv p0), some (.int (J x4)), some (.int (J x42)), none] [] h50 := by
                        intro h50 t50 s50 z51
                        have w := j51 h50 t50 s50 z51
                        refine r_inc (pc1 := 110) (g := fun zz => [some (rv 437), some (rv p0), some (.int (J x4)), some (.int (J zz)), none]) rfl rfl rfl rfl (fun _ => rfl) (fun x52 ex52 rx52 => ?_)
                        have w := w x52 ex52 rx52
                        refine r_goto (t := 41) rfl rfl ?_
                        exact ih44  x52 h50 t50 s50 rx52 (Nat.lt_of_lt_of_le w.2 (Nat.le_of_lt_succ q44)) w.1
                      refine r_ic (t := 107) (pc1 := 62) rfl rfl rfl (rgh _ _ _) (rgk rfl) (fun c61 => ?_) (fun c61 => ?_)
                      · have w := w.1 c61
                        exact Q51   h43 t43 s43  w
                      · have w := w.2 c61
                        refine r_aldn (pc1 := 63) rfl rfl rfl ?_
                        refine r_gfC (pc1 := 66) (q := 463) rfl rfl rfl t43 (lyk t43 rfl) rfl rfl (lyR t43 rfl rfl) ?_
                        refine r_n (pc1 := 67) [.int (J x42), rv 463] _ rfl rfl ?_
                        obtain ⟨c53, w⟩ := w
                        refine r_ial (pc1 := 68) rfl rfl t43 (lyk t43 rfl) rx42 c53.1 (lt_len (lyn t43 rfl) c53.2) ?_
                        refine r_n (pc1 := 69) [.int (J (-1)), .int (J (hI h43 463 x42.toNat))] _ rfl rfl ?_
                        refine r_ic (t := 107) (pc1 := 72) rfl rfl rfl (rgh _ _ _) (rgk rfl) (fun c60 => ?_) (fun c60 => ?_)
                        · have w := w.1 c60
                          exact Q51   h43 t43 s43  w
                        · have w := w.2 c60
                          refine r_aldn (pc1 := 73) rfl rfl rfl ?_
                          refine r_aldn (pc1 := 74) rfl rfl rfl ?_
                          refine r_n (pc1 := 75) [.int (J x4), rv 437, rv 437] _ rfl rfl ?_
                          refine r_iv rfl rfl rfl rfl rfl rfl t43 (lyk t43 rfl) rfl (xe_of (xa_r (xa_i xa_0)) rfl rfl) (r_d0 hd rfl) (a_X14_wishAt x4 (r_d1 hd rfl) rx4 w t43 (fun a54 w => ?_))
                          refine r_fR (pc1 := 78) rfl ?_
                          refine r_aldn (pc1 := 79) rfl rfl rfl ?_
                          refine r_aldn (pc1 := 80) rfl rfl rfl ?_
                          refine r_n (pc1 := 81) [.int (J x42), rv p0, rv 437, rv a54, rv 437] _ rfl rfl ?_
                          refine r_iv rfl rfl rfl rfl rfl rfl t43 (lyk t43 rfl) rfl (xe_of (xa_r (xa_r (xa_i xa_0))) rfl rfl) (r_d0 hd rfl) (a_X14_slotIn p0 x42 (r_d1 hd rfl) rx42 w t43 (fun x55 rx55 w => ?_))
                          refine r_fI (pc1 := 84) rfl ?_
                          have w := w rx55
                          refine r_iv rfl rfl rfl rfl rfl rfl t43 (lyk t43 rfl) rfl (xe_of (xa_r (xa_r (xa_i xa_0))) rfl rfl) (r_d0 hd rfl) (a_X14_meets a54 x55 (r_d1 hd rfl) rx55 w t43 (fun x56 rx56 vx56 w => ?_))
                          refine r_fI (pc1 := 87) rfl ?_
                          have w := w rx56 vx56
                          refine r_iz (t := 107) (pc1 := 90) rfl rfl rfl rx56 (fun c59 => ?_) (fun c59 => ?_)
                          · have w := w.1 c59
                            exact Q51   h43 t43 s43  w
                          · have w := w.2 c59
                            refine r_aldn (pc1 := 91) rfl rfl rfl ?_
                            refine r_gfC (pc1 := 94) (q := 462) rfl rfl rfl t43 (lyk t43 rfl) rfl rfl (lyR t43 rfl rfl) ?_
                            refine r_n (pc1 := 95) [.int (J x42), rv 462] _ rfl rfl ?_
                            refine r_n (pc1 := 97) [.int (J 100), .int (J x42), rv 462] _ rfl rfl ?_
                            refine r_n (pc1 := 98) [.int (J x4), .int (J 100), .int (J x42), rv 462] _ rfl rfl ?_
                            refine r_iadd (pc1 := 99) rfl rfl ?_
                            refine r_iast (pc1 := 100) rfl rfl t43 (lyk t43 rfl) rx42 c53.1 (lt_len (lyn t43 rfl) c53.2) (fun h57 eh57 t57 u57 => ?_)
                            have w := w h57 eh57 t57 u57
                            have s57 := HX_trans s43 u57
                            refine r_aldn (pc1 := 101) rfl rfl rfl ?_
                            refine r_gfC (pc1 := 104) (q := 463) rfl rfl rfl t57 (lyk t57 rfl) rfl rfl (lyR t57 rfl rfl) ?_
                            refine r_n (pc1 := 105) [.int (J x42), rv 463] _ rfl rfl ?_
                            refine r_n (pc1 := 106) [.int (J 1), .int (J x42), rv 463] _ rfl rfl ?_
                            refine r_iast (pc1 := 107) rfl rfl t57 (lyk t57 rfl) rx42 c53.1 (lt_len (lyn t57 rfl) c53.2) (fun h58 eh58 t58 u58 => ?_)
                            have w := w h58 eh58 t58 u58
                            have s58 := HX_trans s57 u58
                            exact Q51   h58 t58 s58  w
              exact Q44 _  0 h6 t6 s6 (rgk rfl) (Nat.lt_succ_self _) w
        exact Q7 _ _ 0 h2 t2 s2 (rgk rfl) (Nat.lt_succ_self _) w
      · have w := w.2 c69
        refine r_aldn (pc1 := 9) rfl rfl rfl ?_
        refine r_gfC (pc1 := 12) (q := 462) rfl rfl rfl t2 (lyk t2 rfl) rfl rfl (lyR t2 rfl rfl) ?_
        refine r_n (pc1 := 13) [.int (J x1), rv 462] _ rfl rfl ?_
        refine r_n (pc1 := 14) [.int (J (-1)), .int (J x1), rv 462] _ rfl rfl ?_
        obtain ⟨c65, w⟩ := w
        refine r_iast (pc1 := 15) rfl rfl t2 (lyk t2 rfl) rx1 c65.1 (lt_len (lyn t2 rfl) c65.2) (fun h66 eh66 t66 u66 => ?_)
        have w := w h66 eh66 t66 u66
        have s66 := HX_trans s2 u66
        refine r_aldn (pc1 := 16) rfl rfl rfl ?_
        refine r_gfC (pc1 := 19) (q := 463) rfl rfl rfl t66 (lyk t66 rfl) rfl rfl (lyR t66 rfl rfl) ?_
        refine r_n (pc1 := 20) [.int (J x1), rv 463] _ rfl rfl ?_
        refine r_n (pc1 := 21) [.int (J (-1)), .int (J x1), rv 463] _ rfl rfl ?_
        refine r_iast (pc1 := 22) rfl rfl t66 (lyk t66 rfl) rx1 c65.1 (lt_len (lyn t66 rfl) c65.2) (fun h67 eh67 t67 u67 => ?_)
        have w := w h67 eh67 t67 u67
        have s67 := HX_trans s66 u67
        refine r_inc (pc1 := 25) (g := fun zz => [some (rv 437), some (rv p0), some (.int (J zz)), none, none]) rfl rfl rfl rfl (fun _ => xput1_rv rfl rfl) (fun x68 ex68 rx68 => ?_)
        have w := w x68 ex68 rx68
        refine r_goto (t := 2) rfl rfl ?_
        exact ih3  x68 h67 t67 s67 rx68 (Nat.lt_of_lt_of_le w.2 (Nat.le_of_lt_succ q3)) w.1
  exact Q3 _  0 h t0 (HX_refl h) (rgk rfl) (Nat.lt_succ_self _) w
def w_X14_because (p0 : Int) (K : Int → XH → Prop) (h : XH) : Prop :=
  (∀ h1 : XH, h1 = sI h 437 5 0 → HT h1 → HX h h1 → w_X14_isPack p0 (fun x2 => rg x2 → (x2 = 0 ∨ x2 = 1) → (w_X14_refused x2 1 (fun x3 h4 => HT h4 → HX h1 h4 → rg x3 → (x3 = 0 ∨ x3 = 1) → (((x3 = 0 → (w_X14_goalSet (fun a5 h6 => HT h6 → HX h4 h6 → (w_X14_reach a5 (fun h7 => HT h7 → HX h6 h7 → ((0 ≤ p0 ∧ p0 < 12) ∧ K (hI h7 462 p0.toNat) h7)) h6)) h4)) ∧ (¬ (x3 = 0) → (K 0 h4))))) h1)) h1)
set_option maxHeartbeats 4000000 in
theorem a_X14_because {sc : Nat × (Nat → Int32)} {goal : XO → XH → Prop} {fs : List XF} {h : XH} (p0 : Int) {K : Int → XH → Prop} (hd : fs.length + 6 ≤ 1000) (rp0 : rg p0) (w : w_X14_because p0 K h) (t0 : HT h) (k : ∀ (r : Int) (h1 : XH), HT h1 → HX h h1 → rg r → K r h1 → XFin xP sc goal fs (.inl (some (.int (J r)))) h1) : RR sc goal fs 175 0 [some (rv 437), some (.int (J p0))] [] h := by
  unfold w_X14_because at w
  refine r_aldn (pc1 := 1) rfl rfl rfl ?_
  refine r_n (pc1 := 2) [.int (J 0), rv 437] _ rfl rfl ?_
  refine r_pfI (pc1 := 5) rfl rfl rfl t0 (lyk t0 rfl) rfl rfl rfl (fun h1 eh1 t1 u1 => ?_)
  have w := w h1 eh1 t1 u1
  have s1 := HX_trans (HX_refl h) u1
  refine r_aldn (pc1 := 6) rfl rfl rfl ?_
  refine r_aldn (pc1 := 7) rfl rfl rfl ?_
  refine r_n (pc1 := 8) [.int (J p0), rv 437, rv 437] _ rfl rfl ?_
  refine r_iv rfl rfl rfl rfl rfl rfl t1 (lyk t1 rfl) rfl (xe_of (xa_r (xa_i xa_0)) rfl rfl) (r_d0 hd rfl) (a_X14_isPack p0 (r_d1 hd rfl) rp0 w t1 (fun x2 rx2 vx2 w => ?_))
  refine r_fI (pc1 := 11) rfl ?_
  have w := w rx2 vx2
  refine r_n (pc1 := 12) [.int (J 1), .int (J x2), rv 437] _ rfl rfl ?_
  refine r_iv rfl rfl rfl rfl rfl rfl t1 (lyk t1 rfl) rfl (xe_of (xa_r (xa_i (xa_i xa_0))) rfl rfl) (r_d0 hd rfl) (a_X14_refused x2 1 (r_d1 hd rfl) rx2 (rgk rfl) w t1 (fun x3 h4 t4 u4 rx3 vx3 w => ?_))
  refine r_fI (pc1 := 15) rfl ?_
  have s4 := HX_trans s1 u4
  have w := w t4 u4
  have w := w rx3 vx3
  refine r_iz (t := 20) (pc1 := 18) rfl rfl rfl rx3 (fun c9 => ?_) (fun c9 => ?_)
  · have w := w.1 c9
    refine r_aldn (pc1 := 21) rfl rfl rfl ?_
    refine r_aldn (pc1 := 22) rfl rfl rfl ?_
    refine r_iv rfl rfl rfl rfl rfl rfl t4 (lyk t4 rfl) rfl (xe_of (xa_r xa_0) rfl rfl) (r_d0 hd rfl) (a_X14_goalSet  (r_d1 hd rfl)  w t4 (fun a5 h6 t6 u6 w => ?_))
    refine r_fR (pc1 := 25) rfl ?_
    have s6 := HX_trans s4 u6
    have w := w t6 u6
    refine r_iv rfl rfl rfl rfl rfl rfl t6 (lyk t6 rfl) rfl (xe_of (xa_r (xa_r xa_0)) rfl rfl) (r_d0 hd rfl) (a_X14_reach a5 (r_d1 hd rfl)  w t6 (fun h7 t7 u7 w => ?_))
    refine r_fV (pc1 := 28) rfl ?_
    have s7 := HX_trans s6 u7
    have w := w t7 u7
    refine r_aldn (pc1 := 29) rfl rfl rfl ?_
    refine r_gfC (pc1 := 32) (q := 462) rfl rfl rfl t7 (lyk t7 rfl) rfl rfl (lyR t7 rfl rfl) ?_
    refine r_n (pc1 := 33) [.int (J p0), rv 462] _ rfl rfl ?_
    obtain ⟨c8, w⟩ := w
    refine r_ial (pc1 := 34) rfl rfl t7 (lyk t7 rfl) rp0 c8.1 (lt_len (lyn t7 rfl) c8.2) ?_
    exact r_retI rfl rfl rfl (k _ _ t7 s7 (rgh _ _ _) w)
  · have w := w.2 c9
    refine r_n (pc1 := 19) [.int (J 0)] _ rfl rfl ?_
    exact r_retI rfl rfl rfl (k _ _ t4 s4 (rgk rfl) w)
