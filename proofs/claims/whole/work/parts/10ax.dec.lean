/-! printed by dec.py: what each method wants, and that the machine keeps it -/ 
def w_X14_orphans  (K : Int → XH → Prop) (h : XH) : Prop :=
  (∀ h1 : XH, h1 = sI h 437 5 0 → HT h1 → HX h h1 → w_X14_installedSet (fun a2 h3 => HT h3 → HX h1 h3 → (w_X14_reach a2 (fun h4 => HT h4 → HX h3 h4 → ((∃ (I7 : Int → Int → Prop) (m7 : Int → Int → Nat), I7 0 0 ∧ ∀ (x5 : Int) (x6 : Int), rg x5 → rg x6 → I7 x5 x6 → (((12 ≤ x6 → (K x5 h4)) ∧ (¬ (12 ≤ x6) → (hk h4 a2 = 100 ∧ (0 ≤ x6 ∧ x6 < (hn h4 a2 : Int)) ∧ ∃ J11 : Int → Prop, (∀ (x10 : Int), rg x10 → J11 x10 → (∀ x12 : Int, x12 = ior x5 x10 → rg x12 → ∀ x13 : Int, x13 = wr (x6 + 1) → rg x13 → (I7 x12 x13 ∧ m7 x12 x13 < m7 x5 x6))) ∧ ∃ J14 : Prop, (J14 → (J11 0)) ∧ ((hI h4 a2 x6.toNat = (-1) → J14) ∧ (¬ (hI h4 a2 x6.toNat = (-1)) → ((0 ≤ x6 ∧ x6 < 12) ∧ ((¬ hI h4 463 x6.toNat = (-1) → J14) ∧ (¬ (¬ hI h4 463 x6.toNat = (-1)) → (J11 (ishl 1 x6)))))))))))))) h3)) h1)
set_option maxHeartbeats 4000000 in
theorem a_X14_orphans {sc : Nat × (Nat → Int32)} {goal : XO → XH → Prop} {fs : List XF} {h : XH}  {K : Int → XH → Prop} (hd : fs.length + 6 ≤ 1000) (w : w_X14_orphans  K h) (t0 : HT h) (k : ∀ (r : Int) (h1 : XH), HT h1 → HX h h1 → rg r → K r h1 → XFin xP sc goal fs (.inl (some (.int (J r)))) h1) : RR sc goal fs 266 0 [some (rv 437), none, none, none] [] h := by
  unfold w_X14_orphans at w
  refine r_aldn (pc1 := 1) rfl rfl rfl ?_
  refine r_n (pc1 := 2) [.int (J 0), rv 437] _ rfl rfl ?_
  refine r_pfI (pc1 := 5) rfl rfl rfl t0 (lyk t0 rfl) rfl rfl rfl (fun h1 eh1 t1 u1 => ?_)
  have w := w h1 eh1 t1 u1
  have s1 := HX_trans (HX_refl h) u1
  refine r_aldn (pc1 := 6) rfl rfl rfl ?_
  refine r_iv rfl rfl rfl rfl rfl rfl t1 (lyk t1 rfl) rfl (xe_of (xa_r xa_0) rfl rfl) (r_d0 hd rfl) (a_X14_installedSet  (r_d1 hd rfl)  w t1 (fun a2 h3 t3 u3 w => ?_))
  refine r_fR (pc1 := 9) rfl ?_
  have s3 := HX_trans s1 u3
  have w := w t3 u3
  refine r_astn (pc1 := 10) (ls1 := [some (rv 437), some (rv a2), none, none]) rfl rfl rfl rfl ?_
  refine r_aldn (pc1 := 11) rfl rfl rfl ?_
  refine r_aldn (pc1 := 12) rfl rfl rfl ?_
  refine r_iv rfl rfl rfl rfl rfl rfl t3 (lyk t3 rfl) rfl (xe_of (xa_r (xa_r xa_0)) rfl rfl) (r_d0 hd rfl) (a_X14_reach a2 (r_d1 hd rfl)  w t3 (fun h4 t4 u4 w => ?_))
  refine r_fV (pc1 := 15) rfl ?_
  have s4 := HX_trans s3 u4
  have w := w t4 u4
  refine r_n (pc1 := 16) [.int (J 0)] _ rfl rfl ?_
  refine r_istn (pc1 := 17) (ls1 := [some (rv 437), some (rv a2), some (.int (J 0)), none]) rfl rfl rfl (xput1_rv rfl rfl) ?_
  refine r_n (pc1 := 18) [.int (J 0)] _ rfl rfl ?_
  refine r_istn (pc1 := 19) (ls1 := [some (rv 437), some (rv a2), some (.int (J 0)), some (.int (J 0))]) rfl rfl rfl rfl ?_
  obtain ⟨I7, m7, w, y7⟩ := w
  have Q7 : ∀ (n : Nat)  (x5 : Int) (x6 : Int), rg x5 → rg x6 → m7 x5 x6 < n → I7 x5 x6 → RR sc goal fs 266 19 [some (rv 437), some (rv a2), some (.int (J x5)), some (.int (J x6))] [] h4 := by
    intro n
    induction n with
    | zero => intro x5 x6 rx5 rx6 q7 _; exact absurd q7 (Nat.not_lt_zero _)
    | succ n ih7 =>
      intro x5 x6 rx5 rx6 q7 z7
      have w := y7 x5 x6 rx5 rx6 z7
      refine r_n (pc1 := 20) [.int (J x6)] _ rfl rfl ?_
      refine r_n (pc1 := 22) [.int (J 12), .int (J x6)] _ rfl rfl ?_
      refine r_ic (t := 58) (pc1 := 25) rfl rfl rfl rx6 (rgk rfl) (fun c18 => ?_) (fun c18 => ?_)
      · have w := w.1 c18
        refine r_n (pc1 := 59) [.int (J x5)] _ rfl rfl ?_
        exact r_retI rfl rfl rfl (k _ _ t4 s4 rx5 w)
      · have w := w.2 c18
        refine r_n (pc1 := 26) [.int (J x5)] _ rfl rfl ?_
        refine r_aldn (pc1 := 27) rfl rfl rfl ?_
        refine r_n (pc1 := 28) [.int (J x6), rv a2, .int (J x5)] _ rfl rfl ?_
        obtain ⟨c8, w⟩ := w
        obtain ⟨c9, w⟩ := w
        refine r_ial (pc1 := 29) rfl rfl t4 c8 rx6 c9.1 c9.2 ?_
        refine r_n (pc1 := 30) [.int (J (-1)), .int (J (hI h4 a2 x6.toNat)), .int (J x5)] _ rfl rfl ?_
        obtain ⟨J11, j11, w⟩ := w
        have Q11 : ∀ (x10 : Int), rg x10 → J11 x10 → RR sc goal fs 266 50 [some (rv 437), some (rv a2), some (.int (J x5)), some (.int (J x6))] [.int (J x10), .int (J x5)] h4 := by
          intro x10 rx10 z11
          have w := j11 x10 rx10 z11
          refine r_ior (pc1 := 51) rfl rfl ?_
          refine r_vI (rgt _) (fun x12 ex12 rx12 => ?_)
          have w := w x12 ex12 rx12
          refine r_istn (pc1 := 52) (ls1 := [some (rv 437), some (rv a2), some (.int (J x12)), some (.int (J x6))]) rfl rfl rfl (xput1_rv rfl rfl) ?_
          refine r_inc (pc1 := 55) (g := fun zz => [some (rv 437), some (rv a2), some (.int (J x12)), some (.int (J zz))]) rfl rfl rfl rfl (fun _ => rfl) (fun x13 ex13 rx13 => ?_)
          have w := w x13 ex13 rx13
          refine r_goto (t := 19) rfl rfl ?_
          exact ih7  x12 x13  rx12 rx13 (Nat.lt_of_lt_of_le w.2 (Nat.le_of_lt_succ q7)) w.1
        obtain ⟨J14, j14, w⟩ := w
        have Q14 : J14 → RR sc goal fs 266 49 [some (rv 437), some (rv a2), some (.int (J x5)), some (.int (J x6))] [.int (J x5)] h4 := by
          intro z14
          have w := j14 z14
          refine r_n (pc1 := 50) [.int (J 0), .int (J x5)] _ rfl rfl ?_
          exact Q11  0  (rgk rfl) w
        refine r_ic (t := 49) (pc1 := 33) rfl rfl rfl (rgh _ _ _) (rgk rfl) (fun c17 => ?_) (fun c17 => ?_)
        · have w := w.1 c17
          exact Q14     w
        · have w := w.2 c17
          refine r_aldn (pc1 := 34) rfl rfl rfl ?_
          refine r_gfC (pc1 := 37) (q := 463) rfl rfl rfl t4 (lyk t4 rfl) rfl rfl (lyR t4 rfl rfl) ?_
          refine r_n (pc1 := 38) [.int (J x6), rv 463, .int (J x5)] _ rfl rfl ?_
          obtain ⟨c15, w⟩ := w
          refine r_ial (pc1 := 39) rfl rfl t4 (lyk t4 rfl) rx6 c15.1 (lt_len (lyn t4 rfl) c15.2) ?_
          refine r_n (pc1 := 40) [.int (J (-1)), .int (J (hI h4 463 x6.toNat)), .int (J x5)] _ rfl rfl ?_
          refine r_ic (t := 49) (pc1 := 43) rfl rfl rfl (rgh _ _ _) (rgk rfl) (fun c16 => ?_) (fun c16 => ?_)
          · have w := w.1 c16
            exact Q14     w
          · have w := w.2 c16
            refine r_n (pc1 := 44) [.int (J 1), .int (J x5)] _ rfl rfl ?_
            refine r_n (pc1 := 45) [.int (J x6), .int (J 1), .int (J x5)] _ rfl rfl ?_
            refine r_ishl (pc1 := 46) rfl rfl ?_
            refine r_goto (t := 50) rfl rfl ?_
            exact Q11  (ishl 1 x6)  (rgt _) w
  exact Q7 _  0 0  (rgk rfl) (rgk rfl) (Nat.lt_succ_self _) w
def w_X3_brokenIn (p0 : BitVec 64) (K : Int → Prop) (h : XH) : Prop :=
  ((∃ (I5 : BitVec 64 → Int → Int → Prop) (m5 : BitVec 64 → Int → Int → Nat), I5 p0 0 0 ∧ ∀ (b1 : BitVec 64) (x2 : Int) (x3 : Int), rg x2 → rg x3 → I5 b1 x2 x3 → (((12 < x3 → (K x2)) ∧ (¬ (12 < x3) → ((∃ (I9 : BitVec 64 → Int → Int → Prop) (m9 : BitVec 64 → Int → Int → Nat), I9 b1 x2 0 ∧ ∀ (b6 : BitVec 64) (x7 : Int) (x8 : Int), rg x7 → rg x8 → I9 b6 x7 x8 → (((hI h 9 1 ≤ x8 → (∀ x10 : Int, x10 = wr (x3 + 1) → rg x10 → (I5 b6 x7 x10 ∧ m5 b6 x7 x10 < m5 b1 x2 x3))) ∧ (¬ (hI h 9 1 ≤ x8) → (w_X12_has b6 x8 (fun x11 => rg x11 → (x11 = 0 ∨ x11 = 1) → (∃ J14 : BitVec 64 → Int → Prop, (∀ (b12 : BitVec 64) (x13 : Int), rg x13 → J14 b12 x13 → (∀ x15 : Int, x15 = wr (x8 + 1) → rg x15 → (I9 b12 x13 x15 ∧ m9 b12 x13 x15 < m9 b6 x7 x8))) ∧ ((x11 = 0 → J14 b6 x7) ∧ (¬ (x11 = 0) → (w_X3_areNeedsMet x8 b6 (fun x16 => rg x16 → (x16 = 0 ∨ x16 = 1) → (((¬ x16 = 0 → J14 b6 x7) ∧ (¬ (¬ x16 = 0) → ((0 ≤ x8 ∧ x8 < 40) ∧ ∀ x18 : Int, x18 = ior x7 (ishl 1 (hI h 13 x8.toNat)) → rg x18 → ∀ x19 : Int, x19 = hI h 13 x8.toNat → rg x19 → (0 ≤ x19 ∧ x19 < 12) ∧ ∀ b21 : BitVec 64, b21 = b6 &&& ((hL h 11 x19.toNat) ^^^ (18446744073709551615#64)) → J14 b21 x18))))) h))))) h)))))))))))
set_option maxHeartbeats 4000000 in
theorem a_X3_brokenIn {sc : Nat × (Nat → Int32)} {goal : XO → XH → Prop} {fs : List XF} {h : XH} (p0 : BitVec 64) {K : Int → Prop} (hd : fs.length + 3 ≤ 1000) (w : w_X3_brokenIn p0 K h) (t0 : HT h) (k : ∀ (r : Int), rg r → K r → XFin xP sc goal fs (.inl (some (.int (J r)))) h) : RR sc goal fs 363 0 [some (rv 44), some (.long (G p0)), none, none, none, none, none, none] [] h := by
  unfold w_X3_brokenIn at w
  refine r_n (pc1 := 1) [.long (G p0)] _ rfl rfl ?_
  refine r_lstn (pc1 := 2) (ls1 := [some (rv 44), some (.long (G p0)), none, some (.long (G p0)), none, none, none, none]) rfl rfl rfl rfl ?_
  refine r_n (pc1 := 3) [.int (J 0)] _ rfl rfl ?_
  refine r_ist (pc1 := 5) (ls1 := [some (rv 44), some (.long (G p0)), none, some (.long (G p0)), none, some (.int (J 0)), none, none]) rfl rfl rfl rfl ?_
  refine r_n (pc1 := 6) [.int (J 0)] _ rfl rfl ?_
  refine r_ist (pc1 := 8) (ls1 := [some (rv 44), some (.long (G p0)), none, some (.long (G p0)), none, some (.int (J 0)), some (.int (J 0)), none]) rfl rfl rfl rfl ?_
  obtain ⟨I5, m5, w, y5⟩ := w
  have Q5 : ∀ (n : Nat) (d4 : Option Value) (b1 : BitVec 64) (x2 : Int) (x3 : Int), rg x2 → rg x3 → m5 b1 x2 x3 < n → I5 b1 x2 x3 → RR sc goal fs 363 8 [some (rv 44), some (.long (G p0)), none, some (.long (G b1)), none, some (.int (J x2)), some (.int (J x3)), d4] [] h := by
    intro n
    induction n with
    | zero => intro d4 b1 x2 x3 rx2 rx3 q5 _; exact absurd q5 (Nat.not_lt_zero _)
    | succ n ih5 =>
      intro d4 b1 x2 x3 rx2 rx3 q5 z5
      have w := y5 b1 x2 x3 rx2 rx3 z5
      refine r_n (pc1 := 10) [.int (J x3)] _ rfl rfl ?_
      refine r_n (pc1 := 12) [.int (J 12), .int (J x3)] _ rfl rfl ?_
      refine r_ic (t := 103) (pc1 := 15) rfl rfl rfl rx3 (rgk rfl) (fun c25 => ?_) (fun c25 => ?_)
      · have w := w.1 c25
        refine r_n (pc1 := 105) [.int (J x2)] _ rfl rfl ?_
        exact r_retI rfl rfl rfl (k _ rx2 w)
      · have w := w.2 c25
        refine r_n (pc1 := 16) [.int (J 0)] _ rfl rfl ?_
        refine r_ist (pc1 := 18) (ls1 := [some (rv 44), some (.long (G p0)), none, some (.long (G b1)), none, some (.int (J x2)), some (.int (J x3)), some (.int (J 0))]) rfl rfl rfl rfl ?_
        obtain ⟨I9, m9, w, y9⟩ := w
        have Q9 : ∀ (n : Nat)  (b6 : BitVec 64) (x7 : Int) (x8 : Int), rg x7 → rg x8 → m9 b6 x7 x8 < n → I9 b6 x7 x8 → RR sc goal fs 363 18 [some (rv 44), some (.long (G p0)), none, some (.long (G b6)), none, some (.int (J x7)), some (.int (J x3)), some (.int (J x8))] [] h := by
          intro n
          induction n with
          | zero => intro b6 x7 x8 rx7 rx8 q9 _; exact absurd q9 (Nat.not_lt_zero _)
          | succ n ih9 =>
            intro b6 x7 x8 rx7 rx8 q9 z9
            have w := y9 b6 x7 x8 rx7 rx8 z9
            refine r_n (pc1 := 20) [.int (J x8)] _ rfl rfl ?_
            refine r_aldn (pc1 := 21) rfl rfl rfl ?_
            refine r_gfC (pc1 := 24) (q := 9) rfl rfl rfl t0 (lyk t0 rfl) rfl rfl (lyR t0 rfl rfl) ?_
            refine r_gfI (pc1 := 27) rfl rfl rfl t0 (lyk t0 rfl) rfl rfl ?_
            refine r_ic (t := 97) (pc1 := 30) rfl rfl rfl rx8 (rgh _ _ _) (fun c24 => ?_) (fun c24 => ?_)
            · have w := w.1 c24
              refine r_inc (pc1 := 100) (g := fun zz => [some (rv 44), some (.long (G p0)), none, some (.long (G b6)), none, some (.int (J x7)), some (.int (J zz)), some (.int (J x8))]) rfl rfl rfl rfl (fun _ => rfl) (fun x10 ex10 rx10 => ?_)
              have w := w x10 ex10 rx10
              refine r_goto (t := 8) rfl rfl ?_
              exact ih5 _ b6 x7 x10  rx7 rx10 (Nat.lt_of_lt_of_le w.2 (Nat.le_of_lt_succ q5)) w.1
            · have w := w.2 c24
              refine r_n (pc1 := 31) [.long (G b6)] _ rfl rfl ?_
              refine r_n (pc1 := 33) [.int (J x8), .long (G b6)] _ rfl rfl ?_
              refine r_iq rfl rfl rfl rfl rfl rfl (xe_of (xa_l (xa_i xa_0)) rfl rfl) (r_d0 hd rfl) (a_X12_has b6 x8 (r_d1 hd rfl) rx8 w t0 (fun x11 rx11 vx11 w => ?_))
              refine r_fI (pc1 := 36) rfl ?_
              have w := w rx11 vx11
              obtain ⟨J14, j14, w⟩ := w
              have Q14 : ∀ (b12 : BitVec 64) (x13 : Int), rg x13 → J14 b12 x13 → RR sc goal fs 363 91 [some (rv 44), some (.long (G p0)), none, some (.long (G b12)), none, some (.int (J x13)), some (.int (J x3)), some (.int (J x8))] [] h := by
                intro b12 x13 rx13 z14
                have w := j14 b12 x13 rx13 z14
                refine r_inc (pc1 := 94) (g := fun zz => [some (rv 44), some (.long (G p0)), none, some (.long (G b12)), none, some (.int (J x13)), some (.int (J x3)), some (.int (J zz))]) rfl rfl rfl rfl (fun _ => rfl) (fun x15 ex15 rx15 => ?_)
                have w := w x15 ex15 rx15
                refine r_goto (t := 18) rfl rfl ?_
                exact ih9  b12 x13 x15  rx13 rx15 (Nat.lt_of_lt_of_le w.2 (Nat.le_of_lt_succ q9)) w.1
              refine r_iz (t := 91) (pc1 := 39) rfl rfl rfl rx11 (fun c23 => ?_) (fun c23 => ?_)
              · have w := w.1 c23
                exact Q14  b6 x7  rx7 w
              · have w := w.2 c23
                refine r_aldn (pc1 := 40) rfl rfl rfl ?_
                refine r_n (pc1 := 42) [.int (J x8), rv 44] _ rfl rfl ?_
                refine r_n (pc1 := 43) [.long (G b6), .int (J x8), rv 44] _ rfl rfl ?_
                refine r_iv rfl rfl rfl rfl rfl rfl t0 (lyk t0 rfl) rfl (xe_of (xa_r (xa_i (xa_l xa_0))) rfl rfl) (r_d0 hd rfl) (a_X3_areNeedsMet x8 b6 (r_d1 hd rfl) rx8 w t0 (fun x16 rx16 vx16 w => ?_))
                refine r_fI (pc1 := 46) rfl ?_
                have w := w rx16 vx16
                refine r_iz (t := 91) (pc1 := 49) rfl rfl rfl rx16 (fun c22 => ?_) (fun c22 => ?_)
                · have w := w.1 c22
                  exact Q14  b6 x7  rx7 w
                · have w := w.2 c22
                  refine r_n (pc1 := 51) [.int (J x7)] _ rfl rfl ?_
                  refine r_n (pc1 := 52) [.int (J 1), .int (J x7)] _ rfl rfl ?_
                  refine r_aldn (pc1 := 53) rfl rfl rfl ?_
                  refine r_gfC (pc1 := 56) (q := 9) rfl rfl rfl t0 (lyk t0 rfl) rfl rfl (lyR t0 rfl rfl) ?_
                  refine r_gfC (pc1 := 59) (q := 13) rfl rfl rfl t0 (lyk t0 rfl) rfl rfl (lyR t0 rfl rfl) ?_
                  refine r_n (pc1 := 61) [.int (J x8), rv 13, .int (J 1), .int (J x7)] _ rfl rfl ?_
                  obtain ⟨c17, w⟩ := w
                  refine r_ial (pc1 := 62) rfl rfl t0 (lyk t0 rfl) rx8 c17.1 (lt_len (lyn t0 rfl) c17.2) ?_
                  refine r_ishl (pc1 := 63) rfl rfl ?_
                  refine r_ior (pc1 := 64) rfl rfl ?_
                  refine r_vI (rgt _) (fun x18 ex18 rx18 => ?_)
                  have w := w x18 ex18 rx18
                  refine r_ist (pc1 := 66) (ls1 := [some (rv 44), some (.long (G p0)), none, some (.long (G b6)), none, some (.int (J x18)), some (.int (J x3)), some (.int (J x8))]) rfl rfl rfl rfl ?_
                  refine r_n (pc1 := 67) [.long (G b6)] _ rfl rfl ?_
                  refine r_aldn (pc1 := 68) rfl rfl rfl ?_
                  refine r_gfC (pc1 := 71) (q := 9) rfl rfl rfl t0 (lyk t0 rfl) rfl rfl (lyR t0 rfl rfl) ?_
                  refine r_gfC (pc1 := 74) (q := 11) rfl rfl rfl t0 (lyk t0 rfl) rfl rfl (lyR t0 rfl rfl) ?_
                  refine r_aldn (pc1 := 75) rfl rfl rfl ?_
                  refine r_gfC (pc1 := 78) (q := 9) rfl rfl rfl t0 (lyk t0 rfl) rfl rfl (lyR t0 rfl rfl) ?_
                  refine r_gfC (pc1 := 81) (q := 13) rfl rfl rfl t0 (lyk t0 rfl) rfl rfl (lyR t0 rfl rfl) ?_
                  refine r_n (pc1 := 83) [.int (J x8), rv 13, rv 11, .long (G b6)] _ rfl rfl ?_
                  refine r_ial (pc1 := 84) rfl rfl t0 (lyk t0 rfl) rx8 c17.1 (lt_len (lyn t0 rfl) c17.2) ?_
                  refine r_vI (rgh _ _ _) (fun x19 ex19 rx19 => ?_)
                  have w := w x19 ex19 rx19
                  obtain ⟨c20, w⟩ := w
                  refine r_lal (pc1 := 85) rfl rfl t0 (lyk t0 rfl) rx19 c20.1 (lt_len (lyn t0 rfl) c20.2) ?_
                  refine r_n (pc1 := 88) [.long (G (18446744073709551615#64)), .long (G (hL h 11 x19.toNat)), .long (G b6)] _ rfl rfl ?_
                  refine r_lxor (pc1 := 89) rfl rfl ?_
                  refine r_land (pc1 := 90) rfl rfl ?_
                  refine r_vL (fun b21 eb21 => ?_)
                  have w := w b21 eb21
                  refine r_lstn (pc1 := 91) (ls1 := [some (rv 44), some (.long (G p0)), none, some (.long (G b21)), none, some (.int (J x18)), some (.int (J x3)), some (.int (J x8))]) rfl rfl rfl rfl ?_
                  exact Q14  b21 x18  rx18 w
        exact Q9 _  b1 x2 0  rx2 (rgk rfl) (Nat.lt_succ_self _) w
  exact Q5 _ _ p0 0 0  (rgk rfl) (rgk rfl) (Nat.lt_succ_self _) w
def w_X12_without (p0 : Int) (K : Int → XH → Prop) (E : Nat → XH → Prop) (h : XH) : Prop :=
  (w_X12_checkPack p0 ((w_X12_knowMet (fun h1 => HT h1 → HX h h1 → (w_X11_atHand (fun a2 => (hk h1 a2 = 7 ∧ ∀ b4 : BitVec 64, b4 = hL h1 a2 6 → w_X8_idIn b4 p0 (fun x5 => rg x5 → (((¬ x5 = (-1) → ((0 ≤ p0 ∧ p0 < 12) ∧ w_X3_brokenIn (b4 &&& ((hL h1 11 p0.toNat) ^^^ (18446744073709551615#64))) (fun x7 => rg x7 → (K x7 h1)) h1)) ∧ (¬ (¬ x5 = (-1)) → (K 0 h1))))) h1)) h1)) h)) E h)
set_option maxHeartbeats 4000000 in
theorem a_X12_without {sc : Nat × (Nat → Int32)} {goal : XO → XH → Prop} {fs : List XF} {h : XH} (p0 : Int) {K : Int → XH → Prop} {E : Nat → XH → Prop} (hd : fs.length + 6 ≤ 1000) (rp0 : rg p0) (w : w_X12_without p0 K E h) (t0 : HT h) (k : ∀ (r : Int) (h1 : XH), HT h1 → HX h h1 → rg r → K r h1 → XFin xP sc goal fs (.inl (some (.int (J r)))) h1) (kE : ∀ (x : Nat) (h1 : XH), HT h1 → HX h h1 → E x h1 → XFin xP sc goal fs (.inr x) h1) : RR sc goal fs 165 0 [some (rv 2), some (.int (J p0)), none, none] [] h := by
  unfold w_X12_without at w
  refine r_aldn (pc1 := 1) rfl rfl rfl ?_
  refine r_n (pc1 := 2) [.int (J p0), rv 2] _ rfl rfl ?_
  refine r_iv rfl rfl rfl rfl rfl rfl t0 (lyk t0 rfl) rfl (xe_of (xa_r (xa_i xa_0)) rfl rfl) (r_d0 hd rfl) (a_X12_checkPack p0 (r_d1 hd rfl) rp0 w t0 (fun w => ?_) (fun x y ty uy w => r_finx rfl rfl (kE x y ty (HX_trans (HX_refl h) uy) w)))
  refine r_fV (pc1 := 5) rfl ?_
  refine r_aldn (pc1 := 6) rfl rfl rfl ?_
  refine r_iv rfl rfl rfl rfl rfl rfl t0 (lyk t0 rfl) rfl (xe_of (xa_r xa_0) rfl rfl) (r_d0 hd rfl) (a_X12_knowMet  (r_d1 hd rfl)  w t0 (fun h1 t1 u1 w => ?_))
  refine r_fV (pc1 := 9) rfl ?_
  have s1 := HX_trans (HX_refl h) u1
  have w := w t1 u1
  refine r_aldn (pc1 := 10) rfl rfl rfl ?_
  refine r_gfC (pc1 := 13) (q := 8) rfl rfl rfl t1 (lyk t1 rfl) rfl rfl (lyR t1 rfl rfl) ?_
  refine r_iv rfl rfl rfl rfl rfl rfl t1 (lyk t1 rfl) rfl (xe_of (xa_r xa_0) rfl rfl) (r_d0 hd rfl) (a_X11_atHand  (r_d1 hd rfl)  w t1 (fun a2 w => ?_))
  refine r_fR (pc1 := 16) rfl ?_
  obtain ⟨c3, w⟩ := w
  refine r_gfL (pc1 := 19) rfl rfl rfl t1 c3 rfl rfl ?_
  refine r_vL (fun b4 eb4 => ?_)
  have w := w b4 eb4
  refine r_lstn (pc1 := 20) (ls1 := [some (rv 2), some (.int (J p0)), some (.long (G b4)), none]) rfl rfl rfl rfl ?_
  refine r_aldn (pc1 := 21) rfl rfl rfl ?_
  refine r_gfC (pc1 := 24) (q := 8) rfl rfl rfl t1 (lyk t1 rfl) rfl rfl (lyR t1 rfl rfl) ?_
  refine r_gfC (pc1 := 27) (q := 9) rfl rfl rfl t1 (lyk t1 rfl) rfl rfl (lyR t1 rfl rfl) ?_
  refine r_n (pc1 := 28) [.long (G b4), rv 9] _ rfl rfl ?_
  refine r_n (pc1 := 29) [.int (J p0), .long (G b4), rv 9] _ rfl rfl ?_
  refine r_iv rfl rfl rfl rfl rfl rfl t1 (lyk t1 rfl) rfl (xe_of (xa_r (xa_l (xa_i xa_0))) rfl rfl) (r_d0 hd rfl) (a_X8_idIn b4 p0 (r_d1 hd rfl) rp0 w t1 (fun x5 rx5 w => ?_))
  refine r_fI (pc1 := 32) rfl ?_
  have w := w rx5
  refine r_n (pc1 := 33) [.int (J (-1)), .int (J x5)] _ rfl rfl ?_
  refine r_ic (t := 38) (pc1 := 36) rfl rfl rfl rx5 (rgk rfl) (fun c8 => ?_) (fun c8 => ?_)
  · have w := w.1 c8
    refine r_aldn (pc1 := 39) rfl rfl rfl ?_
    refine r_gfC (pc1 := 42) (q := 44) rfl rfl rfl t1 (lyk t1 rfl) rfl rfl (lyR t1 rfl rfl) ?_
    refine r_n (pc1 := 43) [.long (G b4), rv 44] _ rfl rfl ?_
    refine r_aldn (pc1 := 44) rfl rfl rfl ?_
    refine r_gfC (pc1 := 47) (q := 8) rfl rfl rfl t1 (lyk t1 rfl) rfl rfl (lyR t1 rfl rfl) ?_
    refine r_gfC (pc1 := 50) (q := 9) rfl rfl rfl t1 (lyk t1 rfl) rfl rfl (lyR t1 rfl rfl) ?_
    refine r_gfC (pc1 := 53) (q := 11) rfl rfl rfl t1 (lyk t1 rfl) rfl rfl (lyR t1 rfl rfl) ?_
    refine r_n (pc1 := 54) [.int (J p0), rv 11, .long (G b4), rv 44] _ rfl rfl ?_
    obtain ⟨c6, w⟩ := w
    refine r_lal (pc1 := 55) rfl rfl t1 (lyk t1 rfl) rp0 c6.1 (lt_len (lyn t1 rfl) c6.2) ?_
    refine r_n (pc1 := 58) [.long (G (18446744073709551615#64)), .long (G (hL h1 11 p0.toNat)), .long (G b4), rv 44] _ rfl rfl ?_
    refine r_lxor (pc1 := 59) rfl rfl ?_
    refine r_land (pc1 := 60) rfl rfl ?_
    refine r_iv rfl rfl rfl rfl rfl rfl t1 (lyk t1 rfl) rfl (xe_of (xa_r (xa_l xa_0)) rfl rfl) (r_d0 hd rfl) (a_X3_brokenIn (b4 &&& ((hL h1 11 p0.toNat) ^^^ (18446744073709551615#64))) (r_d1 hd rfl)  w t1 (fun x7 rx7 w => ?_))
    refine r_fI (pc1 := 63) rfl ?_
    have w := w rx7
    exact r_retI rfl rfl rfl (k _ _ t1 s1 rx7 w)
  · have w := w.2 c8
    refine r_n (pc1 := 37) [.int (J 0)] _ rfl rfl ?_
    exact r_retI rfl rfl rfl (k _ _ t1 s1 (rgk rfl) w)
def w_L_without (p1 : Int) (K : Int → XH → Prop) (h : XH) : Prop :=
  (w_X12_without p1 (fun x1 h2 => HT h2 → HX h h2 → rg x1 → (∀ h5 : XH, h5 = sL h2 467 0 (i2l x1) → HT h5 → HX h2 h5 → (K 0 h5))) (fun y4 h3 => ((y4 = 2 ∧ K 1 h3))) h)
set_option maxHeartbeats 4000000 in
theorem a_L_without {sc : Nat × (Nat → Int32)} {goal : XO → XH → Prop} {fs : List XF} {h : XH} (p1 : Int) {K : Int → XH → Prop} (hd : fs.length + 7 ≤ 1000) (rp1 : rg p1) (w : w_L_without p1 K h) (t0 : HT h) (k : ∀ (r : Int) (h1 : XH), HT h1 → HX h h1 → rg r → K r h1 → XFin xP sc goal fs (.inl (some (.int (J r)))) h1) : RR sc goal fs 70 0 [some (rv 2), some (.int (J p1)), some (rv 467), none] [] h := by
  unfold w_L_without at w
  refine r_aldn (pc1 := 1) rfl rfl rfl ?_
  refine r_n (pc1 := 2) [.int (J 0), rv 467] _ rfl rfl ?_
  refine r_aldn (pc1 := 3) rfl rfl rfl ?_
  refine r_n (pc1 := 4) [.int (J p1), rv 2, .int (J 0), rv 467] _ rfl rfl ?_
  refine r_iv rfl rfl rfl rfl rfl rfl t0 (lyk t0 rfl) rfl (xe_of (xa_r (xa_i xa_0)) rfl rfl) (r_d0 hd rfl) (a_X12_without p1 (r_d1 hd rfl) rp1 w t0 (fun x1 h2 t2 u2 rx1 w => ?_) (fun y4 h3 ty uy w => ?_))
  · refine r_fI (pc1 := 7) rfl ?_
    have s2 := HX_trans (HX_refl h) u2
    have w := w t2 u2
    have w := w rx1
    refine r_i2l (pc1 := 8) rfl rfl ?_
    refine r_last (pc1 := 9) rfl rfl t2 (lyk t2 rfl) (rgk rfl) (by decide) (lt_len (lyn t2 rfl) (by decide)) (fun h5 eh5 t5 u5 => ?_)
    have w := w h5 eh5 t5 u5
    have s5 := HX_trans s2 u5
    refine r_goto (t := 15) rfl rfl ?_
    refine r_n (pc1 := 16) [.int (J 0)] _ rfl rfl ?_
    exact r_retI rfl rfl rfl (k _ _ t5 s5 (rgk rfl) w)
  · obtain ⟨rfl, w⟩ := w
    exact r_fink (z := 1) rfl (by decide) rfl rfl (k _ _ ty (HX_trans (HX_refl h) uy) (rgk rfl) w)
def w_X14_without (p0 : Int) (K : Int → XH → Prop) (h : XH) : Prop :=
  (∀ h1 : XH, h1 = sI h 437 5 0 → HT h1 → HX h h1 → w_X14_isPack p0 (fun x2 => rg x2 → (x2 = 0 ∨ x2 = 1) → (w_X14_refused x2 1 (fun x3 h4 => HT h4 → HX h1 h4 → rg x3 → (x3 = 0 ∨ x3 = 1) → (((x3 = 0 → (w_X14_installedSet (fun a5 h6 => HT h6 → HX h4 h6 → (hk h6 a5 = 100 ∧ (0 ≤ p0 ∧ p0 < (hn h6 a5 : Int)) ∧ ((¬ hI h6 a5 p0.toNat = (-1) → (∀ h9 : XH, h9 = sI h6 a5 p0.toNat (-1) → HT h9 → HX h6 h9 → (∃ (I14 : Int → Int → XH → Prop) (m14 : Int → Int → XH → Nat), I14 0 1 h9 ∧ ∀ (x10 : Int) (x11 : Int) (h13 : XH), HT h13 → HX h h13 → rg x10 → rg x11 → I14 x10 x11 h13 → (((x11 = 0 → (K x10 h13)) ∧ (¬ (x11 = 0) → ((∃ (I17 : Int → Int → Prop) (m17 : Int → Int → Nat), I17 0 0 ∧ ∀ (x15 : Int) (x16 : Int), rg x15 → rg x16 → I17 x15 x16 → (((12 ≤ x16 → ((∃ (I20 : Int → XH → Prop) (m20 : Int → XH → Nat), I20 0 h13 ∧ ∀ (x18 : Int) (h19 : XH), HT h19 → HX h h19 → rg x18 → I20 x18 h19 → (((12 ≤ x18 → (∀ x21 : Int, x21 = ior x10 x15 → rg x21 → (I14 x21 x15 h19 ∧ m14 x21 x15 h19 < m14 x10 x11 h13))) ∧ (¬ (12 ≤ x18) → (∃ J23 : Int → Prop, (∀ (x22 : Int), rg x22 → J23 x22 → (hk h19 a5 = 100 ∧ (0 ≤ x18 ∧ x18 < (hn h19 a5 : Int)) ∧ ∀ h26 : XH, h26 = sI h19 a5 x18.toNat x22 → HT h26 → HX h19 h26 → ∀ x27 : Int, x27 = wr (x18 + 1) → rg x27 → (I20 x27 h26 ∧ m20 x27 h26 < m20 x18 h19))) ∧ ((¬ iand (ishr x15 x18) 1 = 1 → (hk h19 a5 = 100 ∧ (0 ≤ x18 ∧ x18 < (hn h19 a5 : Int)) ∧ J23 (hI h19 a5 x18.toNat))) ∧ (¬ (¬ iand (ishr x15 x18) 1 = 1) → (J23 (-1))))))))))) ∧ (¬ (12 ≤ x16) → (hk h13 a5 = 100 ∧ (0 ≤ x16 ∧ x16 < (hn h13 a5 : Int)) ∧ ∃ J35 : Int → Prop, (∀ (x34 : Int), rg x34 → J35 x34 → (∀ x36 : Int, x36 = ior x15 x34 → rg x36 → ∀ x37 : Int, x37 = wr (x16 + 1) → rg x37 → (I17 x36 x37 ∧ m17 x36 x37 < m17 x15 x16))) ∧ ∃ J38 : Prop, (J38 → (J35 0)) ∧ ((hI h13 a5 x16.toNat = (-1) → J38) ∧ (¬ (hI h13 a5 x16.toNat = (-1)) → (w_X14_hasNeeds a5 x16 (fun x39 => rg x39 → (x39 = 0 ∨ x39 = 1) → (((¬ x39 = 0 → J38) ∧ (¬ (¬ x39 = 0) → (J35 (ishl 1 x16)))))) h13))))))))))))))) ∧ (¬ (¬ hI h6 a5 p0.toNat = (-1)) → (K 0 h6))))) h4)) ∧ (¬ (x3 = 0) → (K 0 h4))))) h1)) h1)
set_option maxHeartbeats 4000000 in
theorem a_X14_without {sc : Nat × (Nat → Int32)} {goal : XO → XH → Prop} {fs : List XF} {h : XH} (p0 : Int) {K : Int → XH → Prop} (hd : fs.length + 6 ≤ 1000) (rp0 : rg p0) (w : w_X14_without p0 K h) (t0 : HT h) (k : ∀ (r : Int) (h1 : XH), HT h1 → HX h h1 → rg r → K r h1 → XFin xP sc goal fs (.inl (some (.int (J r)))) h1) : RR sc goal fs 326 0 [some (rv 437), some (.int (J p0)), none, none, none, none] [] h := by
  unfold w_X14_without at w
  refine r_aldn (pc1 := 1) rfl rfl rfl ?_
  refine r_n (pc1 := 2) [.int (J 0), rv 437] _ rfl rfl ?_
  refine r_pfI (pc1 := 5) rfl rfl rfl t0 (lyk t0 rfl) rfl rfl rfl (fun h1 eh1 t1 u1 => ?_)
  have w := w h1 eh1 t1 u1
  have s1 := HX_trans (HX_refl h) u1
  refine r_aldn (pc1 := 6) rfl rfl rfl ?_
  refine r_aldn (pc1 := 7) rfl rfl rfl ?_
  refine r_n (pc1 := 8) [.int (J p0), rv 437, rv 437] _ rfl rfl ?_
  refine r_iv rfl rfl rfl rfl rfl rfl t1 (lyk t1 rfl) rfl (xe_of (xa_r (xa_i xa_0)) rfl rfl) (r_d0 hd rfl) (a_X14_isPack p0 (r_d1 hd rfl) rp0 w t1 (fun x2 rx2 vx2 w => ?_))
  refine r_fI (pc1 := 11) rfl ?_
  have w := w rx2 vx2
  refine r_n (pc1 := 12) [.int (J 1), .int (J x2), rv 437] _ rfl rfl ?_
  refine r_iv rfl rfl rfl rfl rfl rfl t1 (lyk t1 rfl) rfl (xe_of (xa_r (xa_i (xa_i xa_0))) rfl rfl) (r_d0 hd rfl) (a_X14_refused x2 1 (r_d1 hd rfl) rx2 (rgk rfl) w t1 (fun x3 h4 t4 u4 rx3 vx3 w => ?_))
  refine r_fI (pc1 := 15) rfl ?_
  have s4 := HX_trans s1 u4
  have w := w t4 u4
  have w := w rx3 vx3
  refine r_iz (t := 20) (pc1 := 18) rfl rfl rfl rx3 (fun c45 => ?_) (fun c45 => ?_)
  · have w := w.1 c45
    refine r_aldn (pc1 := 21) rfl rfl rfl ?_
    refine r_iv rfl rfl rfl rfl rfl rfl t4 (lyk t4 rfl) rfl (xe_of (xa_r xa_0) rfl rfl) (r_d0 hd rfl) (a_X14_installedSet  (r_d1 hd rfl)  w t4 (fun a5 h6 t6 u6 w => ?_))
    refine r_fR (pc1 := 24) rfl ?_
    have s6 := HX_trans s4 u6
    have w := w t6 u6
    refine r_astn (pc1 := 25) (ls1 := [some (rv 437), some (.int (J p0)), some (rv a5), none, none, none]) rfl rfl rfl rfl ?_
    refine r_aldn (pc1 := 26) rfl rfl rfl ?_
    refine r_n (pc1 := 27) [.int (J p0), rv a5] _ rfl rfl ?_
    obtain ⟨c7, w⟩ := w
    obtain ⟨c8, w⟩ := w
    refine r_ial (pc1 := 28) rfl rfl t6 c7 rp0 c8.1 c8.2 ?_
    refine r_n (pc1 := 29) [.int (J (-1)), .int (J (hI h6 a5 p0.toNat))] _ rfl rfl ?_
    refine r_ic (t := 34) (pc1 := 32) rfl rfl rfl (rgh _ _ _) (rgk rfl) (fun c44 => ?_) (fun c44 => ?_)
    · have w := w.1 c44
      refine r_aldn (pc1 := 35) rfl rfl rfl ?_
      refine r_n (pc1 := 36) [.int (J p0), rv a5] _ rfl rfl ?_
      refine r_n (pc1 := 37) [.int (J (-1)), .int (J p0), rv a5] _ rfl rfl ?_
      refine r_iast (pc1 := 38) rfl rfl t6 c7 rp0 c8.1 c8.2 (fun h9 eh9 t9 u9 => ?_)
      have w := w h9 eh9 t9 u9
      have s9 := HX_trans s6 u9
      refine r_n (pc1 := 39) [.int (J 0)] _ rfl rfl ?_
      refine r_istn (pc1 := 40) (ls1 := [some (rv 437), some (.int (J p0)), some (rv a5), some (.int (J 0)), none, none]) rfl rfl rfl (xput1_rv rfl rfl) ?_
      refine r_n (pc1 := 41) [.int (J 1)] _ rfl rfl ?_
      refine r_ist (pc1 := 43) (ls1 := [some (rv 437), some (.int (J p0)), some (rv a5), some (.int (J 0)), some (.int (J 1)), none]) rfl rfl rfl rfl ?_
      obtain ⟨I14, m14, w, y14⟩ := w
      have Q14 : ∀ (n : Nat) (d12 : Option Value) (x10 : Int) (x11 : Int) (h13 : XH), HT h13 → HX h h13 → rg x10 → rg x11 → m14 x10 x11 h13 < n → I14 x10 x11 h13 → RR sc goal fs 326 43 [some (rv 437), some (.int (J p0)), some (rv a5), some (.int (J x10)), some (.int (J x11)), d12] [] h13 := by
        intro n
        induction n with
        | zero => intro d12 x10 x11 h13 t13 s13 rx10 rx11 q14 _; exact absurd q14 (Nat.not_lt_zero _)
        | succ n ih14 =>
          intro d12 x10 x11 h13 t13 s13 rx10 rx11 q14 z14
          have w := y14 x10 x11 h13 t13 s13 rx10 rx11 z14
          refine r_n (pc1 := 45) [.int (J x11)] _ rfl rfl ?_
          refine r_iz (t := 145) (pc1 := 48) rfl rfl rfl rx11 (fun c43 => ?_) (fun c43 => ?_)
          · have w := w.1 c43
            refine r_n (pc1 := 146) [.int (J x10)] _ rfl rfl ?_
            exact r_retI rfl rfl rfl (k _ _ t13 s13 rx10 w)
          · have w := w.2 c43
            refine r_n (pc1 := 49) [.int (J 0)] _ rfl rfl ?_
            refine r_ist (pc1 := 51) (ls1 := [some (rv 437), some (.int (J p0)), some (rv a5), some (.int (J x10)), some (.int (J 0)), d12]) rfl rfl rfl rfl ?_
            refine r_n (pc1 := 52) [.int (J 0)] _ rfl rfl ?_
            refine r_ist (pc1 := 54) (ls1 := [some (rv 437), some (.int (J p0)), some (rv a5), some (.int (J x10)), some (.int (J 0)), some (.int (J 0))]) rfl rfl rfl rfl ?_
            obtain ⟨I17, m17, w, y17⟩ := w
            have Q17 : ∀ (n : Nat)  (x15 : Int) (x16 : Int), rg x15 → rg x16 → m17 x15 x16 < n → I17 x15 x16 → RR sc goal fs 326 54 [some (rv 437), some (.int (J p0)), some (rv a5), some (.int (J x10)), some (.int (J x15)), some (.int (J x16))] [] h13 := by
              intro n
              induction n with
              | zero => intro x15 x16 rx15 rx16 q17 _; exact absurd q17 (Nat.not_lt_zero _)
              | succ n ih17 =>
                intro x15 x16 rx15 rx16 q17 z17
                have w := y17 x15 x16 rx15 rx16 z17
                refine r_n (pc1 := 56) [.int (J x16)] _ rfl rfl ?_
                refine r_n (pc1 := 58) [.int (J 12), .int (J x16)] _ rfl rfl ?_
                refine r_ic (t := 98) (pc1 := 61) rfl rfl rfl rx16 (rgk rfl) (fun c42 => ?_) (fun c42 => ?_)
                · have w := w.1 c42
                  refine r_n (pc1 := 99) [.int (J 0)] _ rfl rfl ?_
                  refine r_ist (pc1 := 101) (ls1 := [some (rv 437), some (.int (J p0)), some (rv a5), some (.int (J x10)), some (.int (J x15)), some (.int (J 0))]) rfl rfl rfl rfl ?_
                  obtain ⟨I20, m20, w, y20⟩ := w
                  have Q20 : ∀ (n : Nat)  (x18 : Int) (h19 : XH), HT h19 → HX h h19 → rg x18 → m20 x18 h19 < n → I20 x18 h19 → RR sc goal fs 326 101 [some (rv 437), some (.int (J p0)), some (rv a5), some (.int (J x10)), some (.int (J x15)), some (.int (J x18))] [] h19 := by
                    intro n
                    induction n with
                    | zero => intro x18 h19 t19 s19 rx18 q20 _; exact absurd q20 (Nat.not_lt_zero _)
                    | succ n ih20 =>
                      intro x18 h19 t19 s19 rx18 q20 z20
                      have w := y20 x18 h19 t19 s19 rx18 z20
                      refine r_n (pc1 := 103) [.int (J x18)] _ rfl rfl ?_
                      refine r_n (pc1 := 105) [.int (J 12), .int (J x18)] _ rfl rfl ?_
                      refine r_ic (t := 137) (pc1 := 108) rfl rfl rfl rx18 (rgk rfl) (fun c31 => ?_) (fun c31 => ?_)
                      · have w := w.1 c31
                        refine r_n (pc1 := 138) [.int (J x10)] _ rfl rfl ?_
                        refine r_n (pc1 := 140) [.int (J x15), .int (J x10)] _ rfl rfl ?_
                        refine r_ior (pc1 := 141) rfl rfl ?_
                        refine r_vI (rgt _) (fun x21 ex21 rx21 => ?_)
                        have w := w x21 ex21 rx21
                        refine r_istn (pc1 := 142) (ls1 := [some (rv 437), some (.int (J p0)), some (rv a5), some (.int (J x21)), some (.int (J x15)), some (.int (J x18))]) rfl rfl rfl (xput1_rv rfl rfl) ?_
                        refine r_goto (t := 43) rfl rfl ?_
                        exact ih14 _ x21 x15 h19 t19 s19 rx21 rx15 (Nat.lt_of_lt_of_le w.2 (Nat.le_of_lt_succ q14)) w.1
                      · have w := w.2 c31
                        refine r_aldn (pc1 := 109) rfl rfl rfl ?_
                        refine r_n (pc1 := 111) [.int (J x18), rv a5] _ rfl rfl ?_
                        refine r_n (pc1 := 113) [.int (J x15), .int (J x18), rv a5] _ rfl rfl ?_
                        refine r_n (pc1 := 115) [.int (J x18), .int (J x15), .int (J x18), rv a5] _ rfl rfl ?_
                        refine r_ishr (pc1 := 116) rfl rfl ?_
                        refine r_n (pc1 := 117) [.int (J 1), .int (J (ishr x15 x18)), .int (J x18), rv a5] _ rfl rfl ?_
                        refine r_iand (pc1 := 118) rfl rfl ?_
                        refine r_n (pc1 := 119) [.int (J 1), .int (J (iand (ishr x15 x18) 1)), .int (J x18), rv a5] _ rfl rfl ?_
                        obtain ⟨J23, j23, w⟩ := w
                        have Q23 : ∀ (x22 : Int), rg x22 → J23 x22 → RR sc goal fs 326 130 [some (rv 437), some (.int (J p0)), some (rv a5), some (.int (J x10)), some (.int (J x15)), some (.int (J x18))] [.int (J x22), .int (J x18), rv a5] h19 := by
                          intro x22 rx22 z23
                          have w := j23 x22 rx22 z23
                          obtain ⟨c24, w⟩ := w
                          obtain ⟨c25, w⟩ := w
                          refine r_iast (pc1 := 131) rfl rfl t19 c24 rx18 c25.1 c25.2 (fun h26 eh26 t26 u26 => ?_)
                          have w := w h26 eh26 t26 u26
                          have s26 := HX_trans s19 u26
                          refine r_inc (pc1 := 134) (g := fun zz => [some (rv 437), some (.int (J p0)), some (rv a5), some (.int (J x10)), some (.int (J x15)), some (.int (J zz))]) rfl rfl rfl rfl (fun _ => rfl) (fun x27 ex27 rx27 => ?_)
                          have w := w x27 ex27 rx27
                          refine r_goto (t := 101) rfl rfl ?_
                          exact ih20  x27 h26 t26 s26 rx27 (Nat.lt_of_lt_of_le w.2 (Nat.le_of_lt_succ q20)) w.1
                        refine r_ic (t := 126) (pc1 := 122) rfl rfl rfl (rgt _) (rgk rfl) (fun c30 => ?_) (fun c30 => ?_)
                        · have w := w.1 c30
                          refine r_aldn (pc1 := 127) rfl rfl rfl ?_
                          refine r_n (pc1 := 129) [.int (J x18), rv a5, .int (J x18), rv a5] _ rfl rfl ?_
                          obtain ⟨c28, w⟩ := w
                          obtain ⟨c29, w⟩ := w
                          refine r_ial (pc1 := 130) rfl rfl t19 c28 rx18 c29.1 c29.2 ?_
                          exact Q23  (hI h19 a5 x18.toNat)  (rgh _ _ _) w
                        · have w := w.2 c30
                          refine r_n (pc1 := 123) [.int (J (-1)), .int (J x18), rv a5] _ rfl rfl ?_
                          refine r_goto (t := 130) rfl rfl ?_
                          exact Q23  (-1)  (rgk rfl) w
                  exact Q20 _  0 h13 t13 s13 (rgk rfl) (Nat.lt_succ_self _) w
                · have w := w.2 c42
                  refine r_n (pc1 := 63) [.int (J x15)] _ rfl rfl ?_
                  refine r_aldn (pc1 := 64) rfl rfl rfl ?_
                  refine r_n (pc1 := 66) [.int (J x16), rv a5, .int (J x15)] _ rfl rfl ?_
                  obtain ⟨c32, w⟩ := w
                  obtain ⟨c33, w⟩ := w
                  refine r_ial (pc1 := 67) rfl rfl t13 c32 rx16 c33.1 c33.2 ?_
                  refine r_n (pc1 := 68) [.int (J (-1)), .int (J (hI h13 a5 x16.toNat)), .int (J x15)] _ rfl rfl ?_
                  obtain ⟨J35, j35, w⟩ := w
                  have Q35 : ∀ (x34 : Int), rg x34 → J35 x34 → RR sc goal fs 326 89 [some (rv 437), some (.int (J p0)), some (rv a5), some (.int (J x10)), some (.int (J x15)), some (.int (J x16))] [.int (J x34), .int (J x15)] h13 := by
                    intro x34 rx34 z35
                    have w := j35 x34 rx34 z35
                    refine r_ior (pc1 := 90) rfl rfl ?_
                    refine r_vI (rgt _) (fun x36 ex36 rx36 => ?_)
                    have w := w x36 ex36 rx36
                    refine r_ist (pc1 := 92) (ls1 := [some (rv 437), some (.int (J p0)), some (rv a5), some (.int (J x10)), some (.int (J x36)), some (.int (J x16))]) rfl rfl rfl rfl ?_
                    refine r_inc (pc1 := 95) (g := fun zz => [some (rv 437), some (.int (J p0)), some (rv a5), some (.int (J x10)), some (.int (J x36)), some (.int (J zz))]) rfl rfl rfl rfl (fun _ => rfl) (fun x37 ex37 rx37 => ?_)
                    have w := w x37 ex37 rx37
                    refine r_goto (t := 54) rfl rfl ?_
                    exact ih17  x36 x37  rx36 rx37 (Nat.lt_of_lt_of_le w.2 (Nat.le_of_lt_succ q17)) w.1
                  obtain ⟨J38, j38, w⟩ := w
                  have Q38 : J38 → RR sc goal fs 326 88 [some (rv 437), some (.int (J p0)), some (rv a5), some (.int (J x10)), some (.int (J x15)), some (.int (J x16))] [.int (J x15)] h13 := by
                    intro z38
                    have w := j38 z38
                    refine r_n (pc1 := 89) [.int (J 0), .int (J x15)] _ rfl rfl ?_
                    exact Q35  0  (rgk rfl) w
                  refine r_ic (t := 88) (pc1 := 71) rfl rfl rfl (rgh _ _ _) (rgk rfl) (fun c41 => ?_) (fun c41 => ?_)
                  · have w := w.1 c41
                    exact Q38     w
                  · have w := w.2 c41
                    refine r_aldn (pc1 := 72) rfl rfl rfl ?_
                    refine r_aldn (pc1 := 73) rfl rfl rfl ?_
                    refine r_n (pc1 := 75) [.int (J x16), rv a5, rv 437, .int (J x15)] _ rfl rfl ?_
                    refine r_iv rfl rfl rfl rfl rfl rfl t13 (lyk t13 rfl) rfl (xe_of (xa_r (xa_r (xa_i xa_0))) rfl rfl) (r_d0 hd rfl) (a_X14_hasNeeds a5 x16 (r_d1 hd rfl) rx16 w t13 (fun x39 rx39 vx39 w => ?_))
                    refine r_fI (pc1 := 78) rfl ?_
                    have w := w rx39 vx39
                    refine r_iz (t := 88) (pc1 := 81) rfl rfl rfl rx39 (fun c40 => ?_) (fun c40 => ?_)
                    · have w := w.1 c40
                      exact Q38     w
                    · have w := w.2 c40
                      refine r_n (pc1 := 82) [.int (J 1), .int (J x15)] _ rfl rfl ?_
                      refine r_n (pc1 := 84) [.int (J x16), .int (J 1), .int (J x15)] _ rfl rfl ?_
                      refine r_ishl (pc1 := 85) rfl rfl ?_
                      refine r_goto (t := 89) rfl rfl ?_
                      exact Q35  (ishl 1 x16)  (rgt _) w
            exact Q17 _  0 0  (rgk rfl) (rgk rfl) (Nat.lt_succ_self _) w
      exact Q14 _ _ 0 1 h9 t9 s9 (rgk rfl) (rgk rfl) (Nat.lt_succ_self _) w
    · have w := w.2 c44
      refine r_n (pc1 := 33) [.int (J 0)] _ rfl rfl ?_
      exact r_retI rfl rfl rfl (k _ _ t6 s6 (rgk rfl) w)
  · have w := w.2 c45
    refine r_n (pc1 := 19) [.int (J 0)] _ rfl rfl ?_
    exact r_retI rfl rfl rfl (k _ _ t4 s4 (rgk rfl) w)
def w_X14_isKept (p0 : Int) (K : Int → Prop) (h : XH) : Prop :=
  (w_X14_rootAt 47 (fun x1 => rg x1 → (w_J9_max_7cf53 0 (wr (x1 - 20)) (fun x2 => rg x2 → (w_X14_rootAt 47 (fun x3 => rg x3 → (w_X14_within p0 x2 (wr (x3 - 1)) (fun x4 => rg x4 → (x4 = 0 ∨ x4 = 1) → (K x4)) h)) h)) h)) h)
set_option maxHeartbeats 4000000 in
theorem a_X14_isKept {sc : Nat × (Nat → Int32)} {goal : XO → XH → Prop} {fs : List XF} {h : XH} (p0 : Int) {K : Int → Prop} (hd : fs.length + 1 ≤ 1000) (rp0 : rg p0) (w : w_X14_isKept p0 K h) (t0 : HT h) (k : ∀ (r : Int), rg r → (r = 0 ∨ r = 1) → K r → XFin xP sc goal fs (.inl (some (.int (J r)))) h) : RR sc goal fs 229 0 [some (rv 437), some (.int (J p0))] [] h := by
  unfold w_X14_isKept at w
  refine r_n (pc1 := 1) [.int (J p0)] _ rfl rfl ?_
  refine r_n (pc1 := 2) [.int (J 0), .int (J p0)] _ rfl rfl ?_
  refine r_aldn (pc1 := 3) rfl rfl rfl ?_
  refine r_n (pc1 := 5) [.int (J 47), rv 437, .int (J 0), .int (J p0)] _ rfl rfl ?_
  refine r_iv rfl rfl rfl rfl rfl rfl t0 (lyk t0 rfl) rfl (xe_of (xa_r (xa_i xa_0)) rfl rfl) (r_d0 hd rfl) (a_X14_rootAt 47 (r_d1 hd rfl) (rgk rfl) w t0 (fun x1 rx1 w => ?_))
  refine r_fI (pc1 := 8) rfl ?_
  have w := w rx1
  refine r_n (pc1 := 10) [.int (J 20), .int (J x1), .int (J 0), .int (J p0)] _ rfl rfl ?_
  refine r_isub (pc1 := 11) rfl rfl ?_
  refine r_iq rfl rfl rfl rfl rfl rfl (xe_of (xa_i (xa_i xa_0)) rfl rfl) (r_d0 hd rfl) (a_J9_max_7cf53 0 (wr (x1 - 20)) (r_d1 hd rfl) (rgk rfl) (rgw _) w t0 (fun x2 rx2 w => ?_))
  refine r_fI (pc1 := 14) rfl ?_
  have w := w rx2
  refine r_aldn (pc1 := 15) rfl rfl rfl ?_
  refine r_n (pc1 := 17) [.int (J 47), rv 437, .int (J x2), .int (J p0)] _ rfl rfl ?_
  refine r_iv rfl rfl rfl rfl rfl rfl t0 (lyk t0 rfl) rfl (xe_of (xa_r (xa_i xa_0)) rfl rfl) (r_d0 hd rfl) (a_X14_rootAt 47 (r_d1 hd rfl) (rgk rfl) w t0 (fun x3 rx3 w => ?_))
  refine r_fI (pc1 := 20) rfl ?_
  have w := w rx3
  refine r_n (pc1 := 21) [.int (J 1), .int (J x3), .int (J x2), .int (J p0)] _ rfl rfl ?_
  refine r_isub (pc1 := 22) rfl rfl ?_
  refine r_iq rfl rfl rfl rfl rfl rfl (xe_of (xa_i (xa_i (xa_i xa_0))) rfl rfl) (r_d0 hd rfl) (a_X14_within p0 x2 (wr (x3 - 1)) (r_d1 hd rfl) rp0 rx2 (rgw _) w t0 (fun x4 rx4 vx4 w => ?_))
  refine r_fI (pc1 := 25) rfl ?_
  have w := w rx4 vx4
  exact r_retB rfl rfl rfl vx4 (k _ rx4 vx4 w)
def w_X14_entrySet (p0 : Int) (K : Nat → XH → Prop) (h : XH) : Prop :=
  (w_X14_setAt (wr ((wr ((wr (805 + (wr ((hI h 438 1) * 291)))) + 48)) + (wr ((irem p0 20) * 12)))) (fun a1 h2 => HT h2 → HX h h2 → (K a1 h2)) h)
set_option maxHeartbeats 4000000 in
theorem a_X14_entrySet {sc : Nat × (Nat → Int32)} {goal : XO → XH → Prop} {fs : List XF} {h : XH} (p0 : Int) {K : Nat → XH → Prop} (hd : fs.length + 1 ≤ 1000) (rp0 : rg p0) (w : w_X14_entrySet p0 K h) (t0 : HT h) (k : ∀ (r : Nat) (h1 : XH), HT h1 → HX h h1 → K r h1 → XFin xP sc goal fs (.inl (some (rv r))) h1) : RR sc goal fs 192 0 [some (rv 437), some (.int (J p0))] [] h := by
  unfold w_X14_entrySet at w
  refine r_aldn (pc1 := 1) rfl rfl rfl ?_
  refine r_n (pc1 := 4) [.int (J 805), rv 437] _ rfl rfl ?_
  refine r_aldn (pc1 := 5) rfl rfl rfl ?_
  refine r_gfC (pc1 := 8) (q := 438) rfl rfl rfl t0 (lyk t0 rfl) rfl rfl (lyR t0 rfl rfl) ?_
  refine r_n (pc1 := 9) [.int (J 1), rv 438, .int (J 805), rv 437] _ rfl rfl ?_
  refine r_ial (pc1 := 10) rfl rfl t0 (lyk t0 rfl) (rgk rfl) (by decide) (lt_len (lyn t0 rfl) (by decide)) ?_
  refine r_n (pc1 := 13) [.int (J 291), .int (J (hI h 438 1)), .int (J 805), rv 437] _ rfl rfl ?_
  refine r_imul (pc1 := 14) rfl rfl ?_
  refine r_iadd (pc1 := 15) rfl rfl ?_
  refine r_n (pc1 := 17) [.int (J 48), .int (J (wr (805 + (wr ((hI h 438 1) * 291))))), rv 437] _ rfl rfl ?_
  refine r_iadd (pc1 := 18) rfl rfl ?_
  refine r_n (pc1 := 19) [.int (J p0), .int (J (wr ((wr (805 + (wr ((hI h 438 1) * 291)))) + 48))), rv 437] _ rfl rfl ?_
  refine r_n (pc1 := 21) [.int (J 20), .int (J p0), .int (J (wr ((wr (805 + (wr ((hI h 438 1) * 291)))) + 48))), rv 437] _ rfl rfl ?_
  refine r_irem (pc1 := 22) rfl rfl (rgk rfl) (by decide) ?_
  refine r_n (pc1 := 24) [.int (J 12), .int (J (irem p0 20)), .int (J (wr ((wr (805 + (wr ((hI h 438 1) * 291)))) + 48))), rv 437] _ rfl rfl ?_
  refine r_imul (pc1 := 25) rfl rfl ?_
  refine r_iadd (pc1 := 26) rfl rfl ?_
  refine r_iv rfl rfl rfl rfl rfl rfl t0 (lyk t0 rfl) rfl (xe_of (xa_r (xa_i xa_0)) rfl rfl) (r_d0 hd rfl) (a_X14_setAt (wr ((wr ((wr (805 + (wr ((hI h 438 1) * 291)))) + 48)) + (wr ((irem p0 20) * 12)))) (r_d1 hd rfl) (rgw _) w t0 (fun a1 h2 t2 u2 w => ?_))
  refine r_fR (pc1 := 29) rfl ?_
  have s2 := HX_trans (HX_refl h) u2
  have w := w t2 u2
  exact r_retR rfl rfl rfl xok_A xokr_A (k _ _ t2 s2 w)
def w_X14_backTo (p0 : Int) (K : Int → XH → Prop) (h : XH) : Prop :=
  (∀ h1 : XH, h1 = sI h 437 5 0 → HT h1 → HX h h1 → ∃ J3 : Int → Prop, (∀ (x2 : Int), rg x2 → J3 x2 → (w_X14_refused x2 1 (fun x4 h5 => HT h5 → HX h1 h5 → rg x4 → (x4 = 0 ∨ x4 = 1) → (((x4 = 0 → (w_X14_record (fun h6 => HT h6 → HX h5 h6 → (∀ (a7 : Nat) (h8 : XH), a7 = h6.length → h8 = nA h6 0 12 → HT h8 → HX h6 h8 → hk h8 a7 = 100 → hn h8 a7 = 12 → (∃ (I11 : Int → XH → Prop) (m11 : Int → XH → Nat), I11 0 h8 ∧ ∀ (x9 : Int) (h10 : XH), HT h10 → HX h h10 → rg x9 → I11 x9 h10 → (((12 ≤ x9 → (∃ J15 : Nat → XH → Prop, (∀ (a13 : Nat) (h14 : XH), HT h14 → HX h h14 → J15 a13 h14 → (w_X14_putGoal a13 (fun h16 => HT h16 → HX h14 h16 → (w_X14_installedSet (fun a17 h18 => HT h18 → HX h16 h18 → (w_X14_differences a13 a17 (fun x19 => rg x19 → (K x19 h18)) h18)) h16)) h14)) ∧ ((p0 = (-1) → J15 a7 h10) ∧ (¬ (p0 = (-1)) → (w_X14_entrySet p0 (fun a20 h21 => HT h21 → HX h10 h21 → (J15 a20 h21)) h10))))) ∧ (¬ (12 ≤ x9) → (hk h10 a7 = 100 ∧ (0 ≤ x9 ∧ x9 < (hn h10 a7 : Int)) ∧ ∀ h25 : XH, h25 = sI h10 a7 x9.toNat (-1) → HT h25 → HX h10 h25 → ∀ x26 : Int, x26 = wr (x9 + 1) → rg x26 → (I11 x26 h25 ∧ m11 x26 h25 < m11 x9 h10)))))))) h5)) ∧ (¬ (x4 = 0) → (K 0 h5))))) h1)) ∧ ∃ J29 : Prop, (J29 → (J3 1)) ∧ ((p0 = (-1) → J29) ∧ (¬ (p0 = (-1)) → (w_X14_isKept p0 (fun x30 => rg x30 → (x30 = 0 ∨ x30 = 1) → (((x30 = 0 → (J3 0)) ∧ (¬ (x30 = 0) → J29)))) h1))))
set_option maxHeartbeats 4000000 in
theorem a_X14_backTo {sc : Nat × (Nat → Int32)} {goal : XO → XH → Prop} {fs : List XF} {h : XH} (p0 : Int) {K : Int → XH → Prop} (hd : fs.length + 2 ≤ 1000) (rp0 : rg p0) (w : w_X14_backTo p0 K h) (t0 : HT h) (k : ∀ (r : Int) (h1 : XH), HT h1 → HX h h1 → rg r → K r h1 → XFin xP sc goal fs (.inl (some (.int (J r)))) h1) : RR sc goal fs 173 0 [some (rv 437), some (.int (J p0)), none, none] [] h := by
  unfold w_X14_backTo at w
  refine r_aldn (pc1 := 1) rfl rfl rfl ?_
  refine r_n (pc1 := 2) [.int (J 0), rv 437] _ rfl rfl ?_
  refine r_pfI (pc1 := 5) rfl rfl rfl t0 (lyk t0 rfl) rfl rfl rfl (fun h1 eh1 t1 u1 => ?_)
  have w := w h1 eh1 t1 u1
  have s1 := HX_trans (HX_refl h) u1
  refine r_aldn (pc1 := 6) rfl rfl rfl ?_
  refine r_n (pc1 := 7) [.int (J p0), rv 437] _ rfl rfl ?_
  refine r_n (pc1 := 8) [.int (J (-1)), .int (J p0), rv 437] _ rfl rfl ?_
  obtain ⟨J3, j3, w⟩ := w
  have Q3 : ∀ (x2 : Int), rg x2 → J3 x2 → RR sc goal fs 173 24 [some (rv 437), some (.int (J p0)), none, none] [.int (J x2), rv 437] h1 := by
    intro x2 rx2 z3
    have w := j3 x2 rx2 z3
    refine r_n (pc1 := 25) [.int (J 1), .int (J x2), rv 437] _ rfl rfl ?_
    refine r_iv rfl rfl rfl rfl rfl rfl t1 (lyk t1 rfl) rfl (xe_of (xa_r (xa_i (xa_i xa_0))) rfl rfl) (r_d0 hd rfl) (a_X14_refused x2 1 (r_d1 hd rfl) rx2 (rgk rfl) w t1 (fun x4 h5 t5 u5 rx4 vx4 w => ?_))
    refine r_fI (pc1 := 28) rfl ?_
    have s5 := HX_trans s1 u5
    have w := w t5 u5
    have w := w rx4 vx4
    refine r_iz (t := 33) (pc1 := 31) rfl rfl rfl rx4 (fun c28 => ?_) (fun c28 => ?_)
    · have w := w.1 c28
      refine r_aldn (pc1 := 34) rfl rfl rfl ?_
      refine r_iv rfl rfl rfl rfl rfl rfl t5 (lyk t5 rfl) rfl (xe_of (xa_r xa_0) rfl rfl) (r_d0 hd rfl) (a_X14_record  (r_d1 hd rfl)  w t5 (fun h6 t6 u6 w => ?_))
      refine r_fV (pc1 := 37) rfl ?_
      have s6 := HX_trans s5 u6
      have w := w t6 u6
      refine r_n (pc1 := 39) [.int (J 12)] _ rfl rfl ?_
      refine r_na (pc1 := 41) (u := 0) (m := 2) rfl rfl rfl t6 rfl (rgk rfl) (by decide) (by decide) (fun a7 h8 ea7 eh8 t8 u8 ca7 la7 => ?_)
      have w := w a7 h8 ea7 eh8 t8 u8 ca7 la7
      have s8 := HX_trans s6 u8
      refine r_astn (pc1 := 42) (ls1 := [some (rv 437), some (.int (J p0)), some (rv a7), none]) rfl rfl rfl rfl ?_
      refine r_n (pc1 := 43) [.int (J 0)] _ rfl rfl ?_
      refine r_istn (pc1 := 44) (ls1 := [some (rv 437), some (.int (J p0)), some (rv a7), some (.int (J 0))]) rfl rfl rfl (xput1_rv rfl rfl) ?_
      obtain ⟨I11, m11, w, y11⟩ := w
      have Q11 : ∀ (n : Nat)  (x9 : Int) (h10 : XH), HT h10 → HX h h10 → rg x9 → m11 x9 h10 < n → I11 x9 h10 → RR sc goal fs 173 44 [some (rv 437), some (.int (J p0)), some (rv a7), some (.int (J x9))] [] h10 := by
        intro n
        induction n with
        | zero => intro x9 h10 t10 s10 rx9 q11 _; exact absurd q11 (Nat.not_lt_zero _)
        | succ n ih11 =>
          intro x9 h10 t10 s10 rx9 q11 z11
          have w := y11 x9 h10 t10 s10 rx9 z11
          refine r_n (pc1 := 45) [.int (J x9)] _ rfl rfl ?_
          refine r_n (pc1 := 47) [.int (J 12), .int (J x9)] _ rfl rfl ?_
          refine r_ic (t := 60) (pc1 := 50) rfl rfl rfl rx9 (rgk rfl) (fun c27 => ?_) (fun c27 => ?_)
          · have w := w.1 c27
            refine r_n (pc1 := 61) [.int (J p0)] _ rfl rfl ?_
            refine r_n (pc1 := 62) [.int (J (-1)), .int (J p0)] _ rfl rfl ?_
            obtain ⟨J15, j15, w⟩ := w
            have Q15 : ∀ (d12 : Option Value) (a13 : Nat) (h14 : XH), HT h14 → HX h h14 → J15 a13 h14 → RR sc goal fs 173 71 [some (rv 437), d12, some (rv a13), some (.int (J x9))] [] h14 := by
              intro d12 a13 h14 t14 s14 z15
              have w := j15 a13 h14 t14 s14 z15
              refine r_aldn (pc1 := 72) rfl rfl rfl ?_
              refine r_aldn (pc1 := 73) rfl rfl rfl ?_
              refine r_iv rfl rfl rfl rfl rfl rfl t14 (lyk t14 rfl) rfl (xe_of (xa_r (xa_r xa_0)) rfl rfl) (r_d0 hd rfl) (a_X14_putGoal a13 (r_d1 hd rfl)  w t14 (fun h16 t16 u16 w => ?_))
              refine r_fV (pc1 := 76) rfl ?_
              have s16 := HX_trans s14 u16
              have w := w t16 u16
              refine r_aldn (pc1 := 77) rfl rfl rfl ?_
              refine r_aldn (pc1 := 78) rfl rfl rfl ?_
              refine r_iv rfl rfl rfl rfl rfl rfl t16 (lyk t16 rfl) rfl (xe_of (xa_r xa_0) rfl rfl) (r_d0 hd rfl) (a_X14_installedSet  (r_d1 hd rfl)  w t16 (fun a17 h18 t18 u18 w => ?_))
              refine r_fR (pc1 := 81) rfl ?_
              have s18 := HX_trans s16 u18
              have w := w t18 u18
              refine r_iq rfl rfl rfl rfl rfl rfl (xe_of (xa_r (xa_r xa_0)) rfl rfl) (r_d0 hd rfl) (a_X14_differences a13 a17 (r_d1 hd rfl)  w t18 (fun x19 rx19 w => ?_))
              refine r_fI (pc1 := 84) rfl ?_
              have w := w rx19
              exact r_retI rfl rfl rfl (k _ _ t18 s18 rx19 w)
            refine r_ic (t := 71) (pc1 := 65) rfl rfl rfl rp0 (rgk rfl) (fun c22 => ?_) (fun c22 => ?_)
            · have w := w.1 c22
              exact Q15 _ a7 h10 t10 s10  w
            · have w := w.2 c22
              refine r_aldn (pc1 := 66) rfl rfl rfl ?_
              refine r_n (pc1 := 67) [.int (J p0), rv 437] _ rfl rfl ?_
              refine r_iv rfl rfl rfl rfl rfl rfl t10 (lyk t10 rfl) rfl (xe_of (xa_r (xa_i xa_0)) rfl rfl) (r_d0 hd rfl) (a_X14_entrySet p0 (r_d1 hd rfl) rp0 w t10 (fun a20 h21 t21 u21 w => ?_))
              refine r_fR (pc1 := 70) rfl ?_
              have s21 := HX_trans s10 u21
              have w := w t21 u21
              refine r_astn (pc1 := 71) (ls1 := [some (rv 437), some (.int (J p0)), some (rv a20), some (.int (J x9))]) rfl rfl rfl rfl ?_
              exact Q15 _ a20 h21 t21 s21  w
          · have w := w.2 c27
            refine r_aldn (pc1 := 51) rfl rfl rfl ?_
            refine r_n (pc1 := 52) [.int (J x9), rv a7] _ rfl rfl ?_
            refine r_n (pc1 := 53) [.int (J (-1)), .int (J x9), rv a7] _ rfl rfl ?_
            obtain ⟨c23, w⟩ := w
            obtain ⟨c24, w⟩ := w
            refine r_iast (pc1 := 54) rfl rfl t10 c23 rx9 c24.1 c24.2 (fun h25 eh25 t25 u25 => ?_)
            have w := w h25 eh25 t25 u25
            have s25 := HX_trans s10 u25
            refine r_inc (pc1 := 57) (g := fun zz => [some (rv 437), some (.int (J p0)), some (rv a7), some (.int (J zz))]) rfl rfl rfl rfl (fun _ => xput1_rv rfl rfl) (fun x26 ex26 rx26 => ?_)
            have w := w x26 ex26 rx26
            refine r_goto (t := 44) rfl rfl ?_
            exact ih11  x26 h25 t25 s25 rx26 (Nat.lt_of_lt_of_le w.2 (Nat.le_of_lt_succ q11)) w.1
      exact Q11 _  0 h8 t8 s8 (rgk rfl) (Nat.lt_succ_self _) w
    · have w := w.2 c28
      refine r_n (pc1 := 32) [.int (J 0)] _ rfl rfl ?_
      exact r_retI rfl rfl rfl (k _ _ t5 s5 (rgk rfl) w)
  obtain ⟨J29, j29, w⟩ := w
  have Q29 : J29 → RR sc goal fs 173 19 [some (rv 437), some (.int (J p0)), none, none] [rv 437] h1 := by
    intro z29
    have w := j29 z29
    refine r_n (pc1 := 20) [.int (J 1), rv 437] _ rfl rfl ?_
    refine r_goto (t := 24) rfl rfl ?_
    exact Q3  1  (rgk rfl) w
  refine r_ic (t := 19) (pc1 := 11) rfl rfl rfl rp0 (rgk rfl) (fun c32 => ?_) (fun c32 => ?_)
  · have w := w.1 c32
    exact Q29     w
  · have w := w.2 c32
    refine r_aldn (pc1 := 12) rfl rfl rfl ?_
    refine r_n (pc1 := 13) [.int (J p0), rv 437, rv 437] _ rfl rfl ?_
    refine r_iv rfl rfl rfl rfl rfl rfl t1 (lyk t1 rfl) rfl (xe_of (xa_r (xa_i xa_0)) rfl rfl) (r_d0 hd rfl) (a_X14_isKept p0 (r_d1 hd rfl) rp0 w t1 (fun x30 rx30 vx30 w => ?_))
    refine r_fI (pc1 := 16) rfl ?_
    have w := w rx30 vx30
    refine r_iz (t := 23) (pc1 := 19) rfl rfl rfl rx30 (fun c31 => ?_) (fun c31 => ?_)
    · have w := w.1 c31
      refine r_n (pc1 := 24) [.int (J 0), rv 437] _ rfl rfl ?_
      exact Q3  0  (rgk rfl) w
    · have w := w.2 c31
      exact Q29     w
def w_X12_then (p0 : Int) (p1 : Int) (K : Int → Prop) (E : Nat → XH → Prop) (h : XH) : Prop :=
  (w_X11_atHand (fun a1 => (hk h a1 = 7 ∧ w_X6_isKept a1 p0 (fun x3 => rg x3 → (x3 = 0 ∨ x3 = 1) → (((¬ x3 = 0 → (w_X12_checkPack p1 ((w_X11_atHand (fun a4 => (hk h a4 = 7 ∧ w_X6_entryAt a4 p0 (fun b6 => (w_X8_codeIn b6 p1 (fun x7 => rg x7 → (K x7)) h)) h)) h)) E h)) ∧ (¬ (¬ x3 = 0) → (E 3 (nT h)))))) h)) h)
set_option maxHeartbeats 4000000 in
theorem a_X12_then {sc : Nat × (Nat → Int32)} {goal : XO → XH → Prop} {fs : List XF} {h : XH} (p0 : Int) (p1 : Int) {K : Int → Prop} {E : Nat → XH → Prop} (hd : fs.length + 3 ≤ 1000) (rp0 : rg p0) (rp1 : rg p1) (w : w_X12_then p0 p1 K E h) (t0 : HT h) (k : ∀ (r : Int), rg r → K r → XFin xP sc goal fs (.inl (some (.int (J r)))) h) (kE : ∀ (x : Nat) (h1 : XH), HT h1 → HX h h1 → E x h1 → XFin xP sc goal fs (.inr x) h1) : RR sc goal fs 156 0 [some (rv 2), some (.int (J p0)), some (.int (J p1))] [] h := by
  unfold w_X12_then at w
  refine r_aldn (pc1 := 1) rfl rfl rfl ?_
  refine r_gfC (pc1 := 4) (q := 8) rfl rfl rfl t0 (lyk t0 rfl) rfl rfl (lyR t0 rfl rfl) ?_
  refine r_iv rfl rfl rfl rfl rfl rfl t0 (lyk t0 rfl) rfl (xe_of (xa_r xa_0) rfl rfl) (r_d0 hd rfl) (a_X11_atHand  (r_d1 hd rfl)  w t0 (fun a1 w => ?_))
  refine r_fR (pc1 := 7) rfl ?_
  refine r_n (pc1 := 8) [.int (J p0), rv a1] _ rfl rfl ?_
  obtain ⟨c2, w⟩ := w
  refine r_iv rfl rfl rfl rfl rfl rfl t0 c2 rfl (xe_of (xa_r (xa_i xa_0)) rfl rfl) (r_d0 hd rfl) (a_X6_isKept a1 p0 (r_d1 hd rfl) c2 rp0 w t0 (fun x3 rx3 vx3 w => ?_))
  refine r_fI (pc1 := 11) rfl ?_
  have w := w rx3 vx3
  refine r_iz (t := 25) (pc1 := 14) rfl rfl rfl rx3 (fun c8 => ?_) (fun c8 => ?_)
  · have w := w.1 c8
    refine r_aldn (pc1 := 26) rfl rfl rfl ?_
    refine r_n (pc1 := 27) [.int (J p1), rv 2] _ rfl rfl ?_
    refine r_iv rfl rfl rfl rfl rfl rfl t0 (lyk t0 rfl) rfl (xe_of (xa_r (xa_i xa_0)) rfl rfl) (r_d0 hd rfl) (a_X12_checkPack p1 (r_d1 hd rfl) rp1 w t0 (fun w => ?_) (fun x y ty uy w => r_finx rfl rfl (kE x y ty (HX_trans (HX_refl h) uy) w)))
    refine r_fV (pc1 := 30) rfl ?_
    refine r_aldn (pc1 := 31) rfl rfl rfl ?_
    refine r_gfC (pc1 := 34) (q := 8) rfl rfl rfl t0 (lyk t0 rfl) rfl rfl (lyR t0 rfl rfl) ?_
    refine r_gfC (pc1 := 37) (q := 9) rfl rfl rfl t0 (lyk t0 rfl) rfl rfl (lyR t0 rfl rfl) ?_
    refine r_aldn (pc1 := 38) rfl rfl rfl ?_
    refine r_gfC (pc1 := 41) (q := 8) rfl rfl rfl t0 (lyk t0 rfl) rfl rfl (lyR t0 rfl rfl) ?_
    refine r_iv rfl rfl rfl rfl rfl rfl t0 (lyk t0 rfl) rfl (xe_of (xa_r xa_0) rfl rfl) (r_d0 hd rfl) (a_X11_atHand  (r_d1 hd rfl)  w t0 (fun a4 w => ?_))
    refine r_fR (pc1 := 44) rfl ?_
    refine r_n (pc1 := 45) [.int (J p0), rv a4, rv 9] _ rfl rfl ?_
    obtain ⟨c5, w⟩ := w
    refine r_iv rfl rfl rfl rfl rfl rfl t0 c5 rfl (xe_of (xa_r (xa_i xa_0)) rfl rfl) (r_d0 hd rfl) (a_X6_entryAt a4 p0 (r_d1 hd rfl) c5 rp0 w t0 (fun b6 w => ?_))
    refine r_fL (pc1 := 48) rfl ?_
    refine r_n (pc1 := 49) [.int (J p1), .long (G b6), rv 9] _ rfl rfl ?_
    refine r_iv rfl rfl rfl rfl rfl rfl t0 (lyk t0 rfl) rfl (xe_of (xa_r (xa_l (xa_i xa_0))) rfl rfl) (r_d0 hd rfl) (a_X8_codeIn b6 p1 (r_d1 hd rfl) rp1 w t0 (fun x7 rx7 w => ?_))
    refine r_fI (pc1 := 52) rfl ?_
    have w := w rx7
    exact r_retI rfl rfl rfl (k _ rx7 w)
  · have w := w.2 c8
    exact r_thr rfl rfl rfl rfl rfl rfl (kE _ _ (HT_nT t0).1 (HX_trans (HX_refl h) (HT_nT t0).2) w)
def w_L_then (p1 : Int) (p2 : Int) (K : Int → XH → Prop) (h : XH) : Prop :=
  (w_X12_then p1 p2 (fun x1 => rg x1 → (∀ h4 : XH, h4 = sL h 467 0 (i2l x1) → HT h4 → HX h h4 → (K 0 h4))) (fun y3 h2 => ((y3 = 3 ∧ K 1 h2) ∨ (y3 = 2 ∧ K 2 h2))) h)
set_option maxHeartbeats 4000000 in
theorem a_L_then {sc : Nat × (Nat → Int32)} {goal : XO → XH → Prop} {fs : List XF} {h : XH} (p1 : Int) (p2 : Int) {K : Int → XH → Prop} (hd : fs.length + 4 ≤ 1000) (rp1 : rg p1) (rp2 : rg p2) (w : w_L_then p1 p2 K h) (t0 : HT h) (k : ∀ (r : Int) (h1 : XH), HT h1 → HX h h1 → rg r → K r h1 → XFin xP sc goal fs (.inl (some (.int (J r)))) h1) : RR sc goal fs 63 0 [some (rv 2), some (.int (J p1)), some (.int (J p2)), some (rv 467), none] [] h := by
  unfold w_L_then at w
  refine r_aldn (pc1 := 1) rfl rfl rfl ?_
  refine r_n (pc1 := 2) [.int (J 0), rv 467] _ rfl rfl ?_
  refine r_aldn (pc1 := 3) rfl rfl rfl ?_
  refine r_n (pc1 := 4) [.int (J p1), rv 2, .int (J 0), rv 467] _ rfl rfl ?_
  refine r_n (pc1 := 5) [.int (J p2), .int (J p1), rv 2, .int (J 0), rv 467] _ rfl rfl ?_
  refine r_iv rfl rfl rfl rfl rfl rfl t0 (lyk t0 rfl) rfl (xe_of (xa_r (xa_i (xa_i xa_0))) rfl rfl) (r_d0 hd rfl) (a_X12_then p1 p2 (r_d1 hd rfl) rp1 rp2 w t0 (fun x1 rx1 w => ?_) (fun y3 h2 ty uy w => ?_))
  · refine r_fI (pc1 := 8) rfl ?_
    have w := w rx1
    refine r_i2l (pc1 := 9) rfl rfl ?_
    refine r_last (pc1 := 10) rfl rfl t0 (lyk t0 rfl) (rgk rfl) (by decide) (lt_len (lyn t0 rfl) (by decide)) (fun h4 eh4 t4 u4 => ?_)
    have w := w h4 eh4 t4 u4
    have s4 := HX_trans (HX_refl h) u4
    refine r_goto (t := 21) rfl rfl ?_
    refine r_n (pc1 := 22) [.int (J 0)] _ rfl rfl ?_
    exact r_retI rfl rfl rfl (k _ _ t4 s4 (rgk rfl) w)
  · rcases w with ⟨rfl, w⟩ | w
    · exact r_fink (z := 1) rfl (by decide) rfl rfl (k _ _ ty (HX_trans (HX_refl h) uy) (rgk rfl) w)
    obtain ⟨rfl, w⟩ := w
    exact r_fink (z := 2) rfl (by decide) rfl rfl (k _ _ ty (HX_trans (HX_refl h) uy) (rgk rfl) w)
def w_X14_then (p0 : Int) (p1 : Int) (K : Int → XH → Prop) (h : XH) : Prop :=
  (∀ h1 : XH, h1 = sI h 437 5 0 → HT h1 → HX h h1 → w_X14_isKept p0 (fun x2 => rg x2 → (x2 = 0 ∨ x2 = 1) → (w_X14_refused x2 1 (fun x3 h4 => HT h4 → HX h1 h4 → rg x3 → (x3 = 0 ∨ x3 = 1) → (∃ J6 : XH → Prop, (∀ (h5 : XH), HT h5 → HX h h5 → J6 h5 → (K 0 h5)) ∧ ((¬ x3 = 0 → J6 h4) ∧ (¬ (¬ x3 = 0) → (w_X14_isPack p1 (fun x7 => rg x7 → (x7 = 0 ∨ x7 = 1) → (w_X14_refused x7 2 (fun x8 h9 => HT h9 → HX h4 h9 → rg x8 → (x8 = 0 ∨ x8 = 1) → (((x8 = 0 → (w_X14_entrySet p0 (fun a10 h11 => HT h11 → HX h9 h11 → (w_X14_codeIn a10 p1 (fun x12 => rg x12 → (K x12 h11)) h11)) h9)) ∧ (¬ (x8 = 0) → J6 h9)))) h4)) h4))))) h1)) h1)
set_option maxHeartbeats 4000000 in
theorem a_X14_then {sc : Nat × (Nat → Int32)} {goal : XO → XH → Prop} {fs : List XF} {h : XH} (p0 : Int) (p1 : Int) {K : Int → XH → Prop} (hd : fs.length + 2 ≤ 1000) (rp0 : rg p0) (rp1 : rg p1) (w : w_X14_then p0 p1 K h) (t0 : HT h) (k : ∀ (r : Int) (h1 : XH), HT h1 → HX h h1 → rg r → K r h1 → XFin xP sc goal fs (.inl (some (.int (J r)))) h1) : RR sc goal fs 312 0 [some (rv 437), some (.int (J p0)), some (.int (J p1))] [] h := by
  unfold w_X14_then at w
  refine r_aldn (pc1 := 1) rfl rfl rfl ?_
  refine r_n (pc1 := 2) [.int (J 0), rv 437] _ rfl rfl ?_
  refine r_pfI (pc1 := 5) rfl rfl rfl t0 (lyk t0 rfl) rfl rfl rfl (fun h1 eh1 t1 u1 => ?_)
  have w := w h1 eh1 t1 u1
  have s1 := HX_trans (HX_refl h) u1
  refine r_aldn (pc1 := 6) rfl rfl rfl ?_
  refine r_aldn (pc1 := 7) rfl rfl rfl ?_
  refine r_n (pc1 := 8) [.int (J p0), rv 437, rv 437] _ rfl rfl ?_
  refine r_iv rfl rfl rfl rfl rfl rfl t1 (lyk t1 rfl) rfl (xe_of (xa_r (xa_i xa_0)) rfl rfl) (r_d0 hd rfl) (a_X14_isKept p0 (r_d1 hd rfl) rp0 w t1 (fun x2 rx2 vx2 w => ?_))
  refine r_fI (pc1 := 11) rfl ?_
  have w := w rx2 vx2
  refine r_n (pc1 := 12) [.int (J 1), .int (J x2), rv 437] _ rfl rfl ?_
  refine r_iv rfl rfl rfl rfl rfl rfl t1 (lyk t1 rfl) rfl (xe_of (xa_r (xa_i (xa_i xa_0))) rfl rfl) (r_d0 hd rfl) (a_X14_refused x2 1 (r_d1 hd rfl) rx2 (rgk rfl) w t1 (fun x3 h4 t4 u4 rx3 vx3 w => ?_))
  refine r_fI (pc1 := 15) rfl ?_
  have s4 := HX_trans s1 u4
  have w := w t4 u4
  have w := w rx3 vx3
  obtain ⟨J6, j6, w⟩ := w
  have Q6 : ∀ (h5 : XH), HT h5 → HX h h5 → J6 h5 → RR sc goal fs 312 31 [some (rv 437), some (.int (J p0)), some (.int (J p1))] [] h5 := by
    intro h5 t5 s5 z6
    have w := j6 h5 t5 s5 z6
    refine r_n (pc1 := 32) [.int (J 0)] _ rfl rfl ?_
    exact r_retI rfl rfl rfl (k _ _ t5 s5 (rgk rfl) w)
  refine r_iz (t := 31) (pc1 := 18) rfl rfl rfl rx3 (fun c14 => ?_) (fun c14 => ?_)
  · have w := w.1 c14
    exact Q6   h4 t4 s4  w
  · have w := w.2 c14
    refine r_aldn (pc1 := 19) rfl rfl rfl ?_
    refine r_aldn (pc1 := 20) rfl rfl rfl ?_
    refine r_n (pc1 := 21) [.int (J p1), rv 437, rv 437] _ rfl rfl ?_
    refine r_iv rfl rfl rfl rfl rfl rfl t4 (lyk t4 rfl) rfl (xe_of (xa_r (xa_i xa_0)) rfl rfl) (r_d0 hd rfl) (a_X14_isPack p1 (r_d1 hd rfl) rp1 w t4 (fun x7 rx7 vx7 w => ?_))
    refine r_fI (pc1 := 24) rfl ?_
    have w := w rx7 vx7
    refine r_n (pc1 := 25) [.int (J 2), .int (J x7), rv 437] _ rfl rfl ?_
    refine r_iv rfl rfl rfl rfl rfl rfl t4 (lyk t4 rfl) rfl (xe_of (xa_r (xa_i (xa_i xa_0))) rfl rfl) (r_d0 hd rfl) (a_X14_refused x7 2 (r_d1 hd rfl) rx7 (rgk rfl) w t4 (fun x8 h9 t9 u9 rx8 vx8 w => ?_))
    refine r_fI (pc1 := 28) rfl ?_
    have s9 := HX_trans s4 u9
    have w := w t9 u9
    have w := w rx8 vx8
    refine r_iz (t := 33) (pc1 := 31) rfl rfl rfl rx8 (fun c13 => ?_) (fun c13 => ?_)
    · have w := w.1 c13
      refine r_aldn (pc1 := 34) rfl rfl rfl ?_
      refine r_n (pc1 := 35) [.int (J p0), rv 437] _ rfl rfl ?_
      refine r_iv rfl rfl rfl rfl rfl rfl t9 (lyk t9 rfl) rfl (xe_of (xa_r (xa_i xa_0)) rfl rfl) (r_d0 hd rfl) (a_X14_entrySet p0 (r_d1 hd rfl) rp0 w t9 (fun a10 h11 t11 u11 w => ?_))
      refine r_fR (pc1 := 38) rfl ?_
      have s11 := HX_trans s9 u11
      have w := w t11 u11
      refine r_n (pc1 := 39) [.int (J p1), rv a10] _ rfl rfl ?_
      refine r_iq rfl rfl rfl rfl rfl rfl (xe_of (xa_r (xa_i xa_0)) rfl rfl) (r_d0 hd rfl) (a_X14_codeIn a10 p1 (r_d1 hd rfl) rp1 w t11 (fun x12 rx12 w => ?_))
      refine r_fI (pc1 := 42) rfl ?_
      have w := w rx12
      exact r_retI rfl rfl rfl (k _ _ t11 s11 rx12 w)
    · have w := w.2 c13
      exact Q6   h9 t9 s9  w
def w_X12_size  (K : Int → Prop) (h : XH) : Prop :=
  (w_X11_atHand (fun a1 => (hk h a1 = 7 ∧ w_X8_sizeOf (hL h a1 6) (fun x3 => rg x3 → (K x3)) h)) h)
set_option maxHeartbeats 4000000 in
theorem a_X12_size {sc : Nat × (Nat → Int32)} {goal : XO → XH → Prop} {fs : List XF} {h : XH}  {K : Int → Prop} (hd : fs.length + 2 ≤ 1000) (w : w_X12_size  K h) (t0 : HT h) (k : ∀ (r : Int), rg r → K r → XFin xP sc goal fs (.inl (some (.int (J r)))) h) : RR sc goal fs 150 0 [some (rv 2)] [] h := by
  unfold w_X12_size at w
  refine r_aldn (pc1 := 1) rfl rfl rfl ?_
  refine r_gfC (pc1 := 4) (q := 8) rfl rfl rfl t0 (lyk t0 rfl) rfl rfl (lyR t0 rfl rfl) ?_
  refine r_gfC (pc1 := 7) (q := 9) rfl rfl rfl t0 (lyk t0 rfl) rfl rfl (lyR t0 rfl rfl) ?_
  refine r_aldn (pc1 := 8) rfl rfl rfl ?_
  refine r_gfC (pc1 := 11) (q := 8) rfl rfl rfl t0 (lyk t0 rfl) rfl rfl (lyR t0 rfl rfl) ?_
  refine r_iv rfl rfl rfl rfl rfl rfl t0 (lyk t0 rfl) rfl (xe_of (xa_r xa_0) rfl rfl) (r_d0 hd rfl) (a_X11_atHand  (r_d1 hd rfl)  w t0 (fun a1 w => ?_))
  refine r_fR (pc1 := 14) rfl ?_
  obtain ⟨c2, w⟩ := w
  refine r_gfL (pc1 := 17) rfl rfl rfl t0 c2 rfl rfl ?_
  refine r_iv rfl rfl rfl rfl rfl rfl t0 (lyk t0 rfl) rfl (xe_of (xa_r (xa_l xa_0)) rfl rfl) (r_d0 hd rfl) (a_X8_sizeOf (hL h a1 6) (r_d1 hd rfl)  w t0 (fun x3 rx3 w => ?_))
  refine r_fI (pc1 := 20) rfl ?_
  have w := w rx3
  exact r_retI rfl rfl rfl (k _ rx3 w)
def w_X14_size  (K : Int → XH → Prop) (h : XH) : Prop :=
  (∀ h1 : XH, h1 = sI h 437 5 0 → HT h1 → HX h h1 → w_X14_installedSet (fun a2 h3 => HT h3 → HX h1 h3 → (w_X14_sizeOf a2 (fun x4 => rg x4 → (K x4 h3)) h3)) h1)
set_option maxHeartbeats 4000000 in
theorem a_X14_size {sc : Nat × (Nat → Int32)} {goal : XO → XH → Prop} {fs : List XF} {h : XH}  {K : Int → XH → Prop} (hd : fs.length + 4 ≤ 1000) (w : w_X14_size  K h) (t0 : HT h) (k : ∀ (r : Int) (h1 : XH), HT h1 → HX h h1 → rg r → K r h1 → XFin xP sc goal fs (.inl (some (.int (J r)))) h1) : RR sc goal fs 299 0 [some (rv 437)] [] h := by
  unfold w_X14_size at w
  refine r_aldn (pc1 := 1) rfl rfl rfl ?_
  refine r_n (pc1 := 2) [.int (J 0), rv 437] _ rfl rfl ?_
  refine r_pfI (pc1 := 5) rfl rfl rfl t0 (lyk t0 rfl) rfl rfl rfl (fun h1 eh1 t1 u1 => ?_)
  have w := w h1 eh1 t1 u1
  have s1 := HX_trans (HX_refl h) u1
  refine r_aldn (pc1 := 6) rfl rfl rfl ?_
  refine r_aldn (pc1 := 7) rfl rfl rfl ?_
  refine r_iv rfl rfl rfl rfl rfl rfl t1 (lyk t1 rfl) rfl (xe_of (xa_r xa_0) rfl rfl) (r_d0 hd rfl) (a_X14_installedSet  (r_d1 hd rfl)  w t1 (fun a2 h3 t3 u3 w => ?_))
  refine r_fR (pc1 := 10) rfl ?_
  have s3 := HX_trans s1 u3
  have w := w t3 u3
  refine r_iv rfl rfl rfl rfl rfl rfl t3 (lyk t3 rfl) rfl (xe_of (xa_r (xa_r xa_0)) rfl rfl) (r_d0 hd rfl) (a_X14_sizeOf a2 (r_d1 hd rfl)  w t3 (fun x4 rx4 w => ?_))
  refine r_fI (pc1 := 13) rfl ?_
  have w := w rx4
  exact r_retI rfl rfl rfl (k _ _ t3 s3 rx4 w)
def w_X12_undo  (K : Int → XH → Prop) (h : XH) : Prop :=
  (((¬ hI h 2 10 = 0 → (∀ h1 : XH, h1 = sI h 2 10 (wr ((hI h 2 10) - 1)) → HT h1 → HX h h1 → ∀ h2 : XH, h2 = sI h1 2 11 0 → HT h2 → HX h1 h2 → ∀ x3 : Int, x3 = irem (wr ((hI h2 2 9) + (hI h2 2 10))) 10 → rg x3 → ∃ J5 : XH → Prop, (∀ (h4 : XH), HT h4 → HX h h4 → J5 h4 → (K (hI h4 2 10) h4)) ∧ ((x3 < 0 → J5 h2) ∧ (¬ (x3 < 0) → (w_Jx4a65c_size_8abf5 (fun x6 => rg x6 → (((x6 ≤ x3 → J5 h2) ∧ (¬ (x6 ≤ x3) → (w_Jx4a65c_get_915e3 x3 (fun a7 => (hk h2 a7 = 12 ∧ w_X11_copyFrom 8 a7 (fun h9 => HT h9 → HX h2 h9 → J5 h9) h2)) h2))))) h2))))) ∧ (¬ (¬ hI h 2 10 = 0) → (K (-1) h))))
set_option maxHeartbeats 4000000 in
theorem a_X12_undo {sc : Nat × (Nat → Int32)} {goal : XO → XH → Prop} {fs : List XF} {h : XH}  {K : Int → XH → Prop} (hd : fs.length + 3 ≤ 1000) (w : w_X12_undo  K h) (t0 : HT h) (k : ∀ (r : Int) (h1 : XH), HT h1 → HX h h1 → rg r → K r h1 → XFin xP sc goal fs (.inl (some (.int (J r)))) h1) : RR sc goal fs 157 0 [some (rv 2), none] [] h := by
  unfold w_X12_undo at w
  refine r_aldn (pc1 := 1) rfl rfl rfl ?_
  refine r_gfI (pc1 := 4) rfl rfl rfl t0 (lyk t0 rfl) rfl rfl ?_
  refine r_iz (t := 9) (pc1 := 7) rfl rfl rfl (rgh _ _ _) (fun c12 => ?_) (fun c12 => ?_)
  · have w := w.1 c12
    refine r_aldn (pc1 := 10) rfl rfl rfl ?_
    refine r_dupR (pc1 := 11) rfl rfl ?_
    refine r_gfI (pc1 := 14) rfl rfl rfl t0 (lyk t0 rfl) rfl rfl ?_
    refine r_n (pc1 := 15) [.int (J 1), .int (J (hI h 2 10)), rv 2] _ rfl rfl ?_
    refine r_isub (pc1 := 16) rfl rfl ?_
    refine r_pfI (pc1 := 19) rfl rfl rfl t0 (lyk t0 rfl) rfl rfl rfl (fun h1 eh1 t1 u1 => ?_)
    have w := w h1 eh1 t1 u1
    have s1 := HX_trans (HX_refl h) u1
    refine r_aldn (pc1 := 20) rfl rfl rfl ?_
    refine r_n (pc1 := 21) [.int (J 0), rv 2] _ rfl rfl ?_
    refine r_pfI (pc1 := 24) rfl rfl rfl t1 (lyk t1 rfl) rfl rfl rfl (fun h2 eh2 t2 u2 => ?_)
    have w := w h2 eh2 t2 u2
    have s2 := HX_trans s1 u2
    refine r_aldn (pc1 := 25) rfl rfl rfl ?_
    refine r_gfI (pc1 := 28) rfl rfl rfl t2 (lyk t2 rfl) rfl rfl ?_
    refine r_aldn (pc1 := 29) rfl rfl rfl ?_
    refine r_gfI (pc1 := 32) rfl rfl rfl t2 (lyk t2 rfl) rfl rfl ?_
    refine r_iadd (pc1 := 33) rfl rfl ?_
    refine r_n (pc1 := 35) [.int (J 10), .int (J (wr ((hI h2 2 9) + (hI h2 2 10))))] _ rfl rfl ?_
    refine r_irem (pc1 := 36) rfl rfl (rgk rfl) (by decide) ?_
    refine r_vI (rgt _) (fun x3 ex3 rx3 => ?_)
    have w := w x3 ex3 rx3
    refine r_istn (pc1 := 37) (ls1 := [some (rv 2), some (.int (J x3))]) rfl rfl rfl rfl ?_
    refine r_n (pc1 := 38) [.int (J x3)] _ rfl rfl ?_
    obtain ⟨J5, j5, w⟩ := w
    have Q5 : ∀ (h4 : XH), HT h4 → HX h h4 → J5 h4 → RR sc goal fs 157 70 [some (rv 2), some (.int (J x3))] [] h4 := by
      intro h4 t4 s4 z5
      have w := j5 h4 t4 s4 z5
      refine r_aldn (pc1 := 71) rfl rfl rfl ?_
      refine r_gfI (pc1 := 74) rfl rfl rfl t4 (lyk t4 rfl) rfl rfl ?_
      exact r_retI rfl rfl rfl (k _ _ t4 s4 (rgh _ _ _) w)
    refine r_iz (t := 70) (pc1 := 41) rfl rfl rfl rx3 (fun c11 => ?_) (fun c11 => ?_)
    · have w := w.1 c11
      exact Q5   h2 t2 s2  w
    · have w := w.2 c11
      refine r_n (pc1 := 42) [.int (J x3)] _ rfl rfl ?_
      refine r_aldn (pc1 := 43) rfl rfl rfl ?_
      refine r_gfC (pc1 := 46) (q := 43) rfl rfl rfl t2 (lyk t2 rfl) rfl rfl (lyR t2 rfl rfl) ?_
      refine r_iv rfl rfl rfl rfl rfl rfl t2 (lyk t2 rfl) rfl (xe_of (xa_r xa_0) rfl rfl) (r_d0 hd rfl) (a_Jx4a65c_size_8abf5  (r_d1 hd rfl)  w t2 (fun x6 rx6 w => ?_))
      refine r_fI (pc1 := 49) rfl ?_
      have w := w rx6
      refine r_ic (t := 70) (pc1 := 52) rfl rfl rfl rx3 rx6 (fun c10 => ?_) (fun c10 => ?_)
      · have w := w.1 c10
        exact Q5   h2 t2 s2  w
      · have w := w.2 c10
        refine r_aldn (pc1 := 53) rfl rfl rfl ?_
        refine r_gfC (pc1 := 56) (q := 8) rfl rfl rfl t2 (lyk t2 rfl) rfl rfl (lyR t2 rfl rfl) ?_
        refine r_aldn (pc1 := 57) rfl rfl rfl ?_
        refine r_gfC (pc1 := 60) (q := 43) rfl rfl rfl t2 (lyk t2 rfl) rfl rfl (lyR t2 rfl rfl) ?_
        refine r_n (pc1 := 61) [.int (J x3), rv 43, rv 8] _ rfl rfl ?_
        refine r_iv rfl rfl rfl rfl rfl rfl t2 (lyk t2 rfl) rfl (xe_of (xa_r (xa_i xa_0)) rfl rfl) (r_d0 hd rfl) (a_Jx4a65c_get_915e3 x3 (r_d1 hd rfl) rx3 w t2 (fun a7 w => ?_))
        refine r_fR (pc1 := 64) rfl ?_
        obtain ⟨c8, w⟩ := w
        refine r_cast (pc1 := 67) rfl rfl rfl t2 c8 rfl ?_
        refine r_iv rfl rfl rfl rfl rfl rfl t2 (lyk t2 rfl) rfl (xe_of (xa_r (xa_r xa_0)) rfl rfl) (r_d0 hd rfl) (a_X11_copyFrom 8 a7 (r_d1 hd rfl) (lyk t2 rfl)  w t2 (fun h9 t9 u9 w => ?_))
        refine r_fV (pc1 := 70) rfl ?_
        have s9 := HX_trans s2 u9
        have w := w t9 u9
        exact Q5   h9 t9 s9  w
  · have w := w.2 c12
    refine r_n (pc1 := 8) [.int (J (-1))] _ rfl rfl ?_
    exact r_retI rfl rfl rfl (k _ _ t0 (HX_refl h) (rgk rfl) w)
def w_X14_undo  (K : Int → XH → Prop) (h : XH) : Prop :=
  (∀ h1 : XH, h1 = sI h 437 5 0 → HT h1 → HX h h1 → ((¬ hI h1 437 2 = 0 → (∀ h2 : XH, h2 = sI h1 437 2 (wr ((hI h1 437 2) - 1)) → HT h2 → HX h1 h2 → ∀ h3 : XH, h3 = sI h2 437 3 (irem (wr ((wr ((hI h2 437 3) + 10)) - 1)) 10) → HT h3 → HX h2 h3 → (¬ 439 = 438 ∧ (0 : Int) ≤ wr ((hI h3 437 3) * 1957) ∧ (0 : Int) ≤ 0 ∧ (0 : Int) ≤ 1957 ∧ (((wr ((hI h3 437 3) * 1957)) + 1957 : Int)) ≤ 19570 ∧ ((0 + 1957 : Int)) ≤ 1957) ∧ ∀ h5 : XH, h5 = cA h3 439 (wr ((hI h3 437 3) * 1957)).toNat 438 0 1957 → HT h5 → HX h3 h5 → ∀ h6 : XH, h6 = sI h5 437 4 (wr ((hI h5 437 4) + 1)) → HT h6 → HX h5 h6 → K (hI h6 437 2) h6)) ∧ (¬ (¬ hI h1 437 2 = 0) → (K (-1) h1))))
set_option maxHeartbeats 4000000 in
theorem a_X14_undo {sc : Nat × (Nat → Int32)} {goal : XO → XH → Prop} {fs : List XF} {h : XH}  {K : Int → XH → Prop} (hd : fs.length + 0 ≤ 1000) (w : w_X14_undo  K h) (t0 : HT h) (k : ∀ (r : Int) (h1 : XH), HT h1 → HX h h1 → rg r → K r h1 → XFin xP sc goal fs (.inl (some (.int (J r)))) h1) : RR sc goal fs 314 0 [some (rv 437)] [] h := by
  unfold w_X14_undo at w
  refine r_aldn (pc1 := 1) rfl rfl rfl ?_
  refine r_n (pc1 := 2) [.int (J 0), rv 437] _ rfl rfl ?_
  refine r_pfI (pc1 := 5) rfl rfl rfl t0 (lyk t0 rfl) rfl rfl rfl (fun h1 eh1 t1 u1 => ?_)
  have w := w h1 eh1 t1 u1
  have s1 := HX_trans (HX_refl h) u1
  refine r_aldn (pc1 := 6) rfl rfl rfl ?_
  refine r_gfI (pc1 := 9) rfl rfl rfl t1 (lyk t1 rfl) rfl rfl ?_
  refine r_iz (t := 14) (pc1 := 12) rfl rfl rfl (rgh _ _ _) (fun c7 => ?_) (fun c7 => ?_)
  · have w := w.1 c7
    refine r_aldn (pc1 := 15) rfl rfl rfl ?_
    refine r_dupR (pc1 := 16) rfl rfl ?_
    refine r_gfI (pc1 := 19) rfl rfl rfl t1 (lyk t1 rfl) rfl rfl ?_
    refine r_n (pc1 := 20) [.int (J 1), .int (J (hI h1 437 2)), rv 437] _ rfl rfl ?_
    refine r_isub (pc1 := 21) rfl rfl ?_
    refine r_pfI (pc1 := 24) rfl rfl rfl t1 (lyk t1 rfl) rfl rfl rfl (fun h2 eh2 t2 u2 => ?_)
    have w := w h2 eh2 t2 u2
    have s2 := HX_trans s1 u2
    refine r_aldn (pc1 := 25) rfl rfl rfl ?_
    refine r_aldn (pc1 := 26) rfl rfl rfl ?_
    refine r_gfI (pc1 := 29) rfl rfl rfl t2 (lyk t2 rfl) rfl rfl ?_
    refine r_n (pc1 := 31) [.int (J 10), .int (J (hI h2 437 3)), rv 437] _ rfl rfl ?_
    refine r_iadd (pc1 := 32) rfl rfl ?_
    refine r_n (pc1 := 33) [.int (J 1), .int (J (wr ((hI h2 437 3) + 10))), rv 437] _ rfl rfl ?_
    refine r_isub (pc1 := 34) rfl rfl ?_
    refine r_n (pc1 := 36) [.int (J 10), .int (J (wr ((wr ((hI h2 437 3) + 10)) - 1))), rv 437] _ rfl rfl ?_
    refine r_irem (pc1 := 37) rfl rfl (rgk rfl) (by decide) ?_
    refine r_pfI (pc1 := 40) rfl rfl rfl t2 (lyk t2 rfl) rfl rfl rfl (fun h3 eh3 t3 u3 => ?_)
    have w := w h3 eh3 t3 u3
    have s3 := HX_trans s2 u3
    refine r_aldn (pc1 := 41) rfl rfl rfl ?_
    refine r_gfC (pc1 := 44) (q := 439) rfl rfl rfl t3 (lyk t3 rfl) rfl rfl (lyR t3 rfl rfl) ?_
    refine r_aldn (pc1 := 45) rfl rfl rfl ?_
    refine r_gfI (pc1 := 48) rfl rfl rfl t3 (lyk t3 rfl) rfl rfl ?_
    refine r_n (pc1 := 51) [.int (J 1957), .int (J (hI h3 437 3)), rv 439] _ rfl rfl ?_
    refine r_imul (pc1 := 52) rfl rfl ?_
    refine r_aldn (pc1 := 53) rfl rfl rfl ?_
    refine r_gfC (pc1 := 56) (q := 438) rfl rfl rfl t3 (lyk t3 rfl) rfl rfl (lyR t3 rfl rfl) ?_
    refine r_n (pc1 := 57) [.int (J 0), rv 438, .int (J (wr ((hI h3 437 3) * 1957))), rv 439] _ rfl rfl ?_
    refine r_n (pc1 := 60) [.int (J 1957), .int (J 0), rv 438, .int (J (wr ((hI h3 437 3) * 1957))), rv 439] _ rfl rfl ?_
    obtain ⟨c4, w⟩ := w
    refine r_cp (pc1 := 63) (u := 0) rfl rfl rfl rfl t3 (lyk t3 rfl) (lyk t3 rfl) (by decide) (rgw _) (rgk rfl) (rgk rfl) (lyn t3 rfl) (lyn t3 rfl) c4 (fun h5 eh5 t5 u5 => ?_)
    have w := w h5 eh5 t5 u5
    have s5 := HX_trans s3 u5
    refine r_aldn (pc1 := 64) rfl rfl rfl ?_
    refine r_dupR (pc1 := 65) rfl rfl ?_
    refine r_gfI (pc1 := 68) rfl rfl rfl t5 (lyk t5 rfl) rfl rfl ?_
    refine r_n (pc1 := 69) [.int (J 1), .int (J (hI h5 437 4)), rv 437] _ rfl rfl ?_
    refine r_iadd (pc1 := 70) rfl rfl ?_
    refine r_pfI (pc1 := 73) rfl rfl rfl t5 (lyk t5 rfl) rfl rfl rfl (fun h6 eh6 t6 u6 => ?_)
    have w := w h6 eh6 t6 u6
    have s6 := HX_trans s5 u6
    refine r_aldn (pc1 := 74) rfl rfl rfl ?_
    refine r_gfI (pc1 := 77) rfl rfl rfl t6 (lyk t6 rfl) rfl rfl ?_
    exact r_retI rfl rfl rfl (k _ _ t6 s6 (rgh _ _ _) w)
  · have w := w.2 c7
    refine r_n (pc1 := 13) [.int (J (-1))] _ rfl rfl ?_
    exact r_retI rfl rfl rfl (k _ _ t1 s1 (rgk rfl) w)
def w_X12_checksum  (K : Int → Prop) (h : XH) : Prop :=
  ((∃ (I3 : Int → Int → Prop) (m3 : Int → Int → Nat), I3 17 0 ∧ ∀ (x1 : Int) (x2 : Int), rg x1 → rg x2 → I3 x1 x2 → (((hI h 9 0 ≤ x2 → (K x1)) ∧ (¬ (hI h 9 0 ≤ x2) → (w_X11_atHand (fun a4 => (hk h a4 = 7 ∧ w_X12_valueIn (hL h a4 5) x2 (fun x6 => rg x6 → (∀ x7 : Int, x7 = wr ((wr (31 * x1)) + x6) → rg x7 → w_X11_atHand (fun a8 => (hk h a8 = 7 ∧ w_X12_valueIn (hL h a8 6) x2 (fun x10 => rg x10 → (∀ x11 : Int, x11 = wr ((wr (31 * x7)) + x10) → rg x11 → ∀ x12 : Int, x12 = wr (x2 + 1) → rg x12 → (I3 x11 x12 ∧ m3 x11 x12 < m3 x1 x2))) h)) h)) h)) h))))))
set_option maxHeartbeats 4000000 in
theorem a_X12_checksum {sc : Nat × (Nat → Int32)} {goal : XO → XH → Prop} {fs : List XF} {h : XH}  {K : Int → Prop} (hd : fs.length + 4 ≤ 1000) (w : w_X12_checksum  K h) (t0 : HT h) (k : ∀ (r : Int), rg r → K r → XFin xP sc goal fs (.inl (some (.int (J r)))) h) : RR sc goal fs 96 0 [some (rv 2), none, none] [] h := by
  unfold w_X12_checksum at w
  refine r_n (pc1 := 2) [.int (J 17)] _ rfl rfl ?_
  refine r_istn (pc1 := 3) (ls1 := [some (rv 2), some (.int (J 17)), none]) rfl rfl rfl rfl ?_
  refine r_n (pc1 := 4) [.int (J 0)] _ rfl rfl ?_
  refine r_istn (pc1 := 5) (ls1 := [some (rv 2), some (.int (J 17)), some (.int (J 0))]) rfl rfl rfl rfl ?_
  obtain ⟨I3, m3, w, y3⟩ := w
  have Q3 : ∀ (n : Nat)  (x1 : Int) (x2 : Int), rg x1 → rg x2 → m3 x1 x2 < n → I3 x1 x2 → RR sc goal fs 96 5 [some (rv 2), some (.int (J x1)), some (.int (J x2))] [] h := by
    intro n
    induction n with
    | zero => intro x1 x2 rx1 rx2 q3 _; exact absurd q3 (Nat.not_lt_zero _)
    | succ n ih3 =>
      intro x1 x2 rx1 rx2 q3 z3
      have w := y3 x1 x2 rx1 rx2 z3
      refine r_n (pc1 := 6) [.int (J x2)] _ rfl rfl ?_
      refine r_aldn (pc1 := 7) rfl rfl rfl ?_
      refine r_gfC (pc1 := 10) (q := 8) rfl rfl rfl t0 (lyk t0 rfl) rfl rfl (lyR t0 rfl rfl) ?_
      refine r_gfC (pc1 := 13) (q := 9) rfl rfl rfl t0 (lyk t0 rfl) rfl rfl (lyR t0 rfl rfl) ?_
      refine r_gfI (pc1 := 16) rfl rfl rfl t0 (lyk t0 rfl) rfl rfl ?_
      refine r_ic (t := 67) (pc1 := 19) rfl rfl rfl rx2 (rgh _ _ _) (fun c13 => ?_) (fun c13 => ?_)
      · have w := w.1 c13
        refine r_n (pc1 := 68) [.int (J x1)] _ rfl rfl ?_
        exact r_retI rfl rfl rfl (k _ rx1 w)
      · have w := w.2 c13
        refine r_n (pc1 := 21) [.int (J 31)] _ rfl rfl ?_
        refine r_n (pc1 := 22) [.int (J x1), .int (J 31)] _ rfl rfl ?_
        refine r_imul (pc1 := 23) rfl rfl ?_
        refine r_aldn (pc1 := 24) rfl rfl rfl ?_
        refine r_aldn (pc1 := 25) rfl rfl rfl ?_
        refine r_gfC (pc1 := 28) (q := 8) rfl rfl rfl t0 (lyk t0 rfl) rfl rfl (lyR t0 rfl rfl) ?_
        refine r_iv rfl rfl rfl rfl rfl rfl t0 (lyk t0 rfl) rfl (xe_of (xa_r xa_0) rfl rfl) (r_d0 hd rfl) (a_X11_atHand  (r_d1 hd rfl)  w t0 (fun a4 w => ?_))
        refine r_fR (pc1 := 31) rfl ?_
        obtain ⟨c5, w⟩ := w
        refine r_gfL (pc1 := 34) rfl rfl rfl t0 c5 rfl rfl ?_
        refine r_n (pc1 := 35) [.int (J x2), .long (G (hL h a4 5)), rv 2, .int (J (wr (31 * x1)))] _ rfl rfl ?_
        refine r_iv rfl rfl rfl rfl rfl rfl t0 (lyk t0 rfl) rfl (xe_of (xa_r (xa_l (xa_i xa_0))) rfl rfl) (r_d0 hd rfl) (a_X12_valueIn (hL h a4 5) x2 (r_d1 hd rfl) rx2 w t0 (fun x6 rx6 w => ?_))
        refine r_fI (pc1 := 38) rfl ?_
        have w := w rx6
        refine r_iadd (pc1 := 39) rfl rfl ?_
        refine r_vI (rgw _) (fun x7 ex7 rx7 => ?_)
        have w := w x7 ex7 rx7
        refine r_istn (pc1 := 40) (ls1 := [some (rv 2), some (.int (J x7)), some (.int (J x2))]) rfl rfl rfl rfl ?_
        refine r_n (pc1 := 42) [.int (J 31)] _ rfl rfl ?_
        refine r_n (pc1 := 43) [.int (J x7), .int (J 31)] _ rfl rfl ?_
        refine r_imul (pc1 := 44) rfl rfl ?_
        refine r_aldn (pc1 := 45) rfl rfl rfl ?_
        refine r_aldn (pc1 := 46) rfl rfl rfl ?_
        refine r_gfC (pc1 := 49) (q := 8) rfl rfl rfl t0 (lyk t0 rfl) rfl rfl (lyR t0 rfl rfl) ?_
        refine r_iv rfl rfl rfl rfl rfl rfl t0 (lyk t0 rfl) rfl (xe_of (xa_r xa_0) rfl rfl) (r_d0 hd rfl) (a_X11_atHand  (r_d1 hd rfl)  w t0 (fun a8 w => ?_))
        refine r_fR (pc1 := 52) rfl ?_
        obtain ⟨c9, w⟩ := w
        refine r_gfL (pc1 := 55) rfl rfl rfl t0 c9 rfl rfl ?_
        refine r_n (pc1 := 56) [.int (J x2), .long (G (hL h a8 6)), rv 2, .int (J (wr (31 * x7)))] _ rfl rfl ?_
        refine r_iv rfl rfl rfl rfl rfl rfl t0 (lyk t0 rfl) rfl (xe_of (xa_r (xa_l (xa_i xa_0))) rfl rfl) (r_d0 hd rfl) (a_X12_valueIn (hL h a8 6) x2 (r_d1 hd rfl) rx2 w t0 (fun x10 rx10 w => ?_))
        refine r_fI (pc1 := 59) rfl ?_
        have w := w rx10
        refine r_iadd (pc1 := 60) rfl rfl ?_
        refine r_vI (rgw _) (fun x11 ex11 rx11 => ?_)
        have w := w x11 ex11 rx11
        refine r_istn (pc1 := 61) (ls1 := [some (rv 2), some (.int (J x11)), some (.int (J x2))]) rfl rfl rfl rfl ?_
        refine r_inc (pc1 := 64) (g := fun zz => [some (rv 2), some (.int (J x11)), some (.int (J zz))]) rfl rfl rfl rfl (fun _ => rfl) (fun x12 ex12 rx12 => ?_)
        have w := w x12 ex12 rx12
        refine r_goto (t := 5) rfl rfl ?_
        exact ih3  x11 x12  rx11 rx12 (Nat.lt_of_lt_of_le w.2 (Nat.le_of_lt_succ q3)) w.1
  exact Q3 _  17 0  (rgk rfl) (rgk rfl) (Nat.lt_succ_self _) w
def w_X14_checksum  (K : Int → XH → Prop) (h : XH) : Prop :=
  (∀ h1 : XH, h1 = sI h 437 5 0 → HT h1 → HX h h1 → w_X14_goalSet (fun a2 h3 => HT h3 → HX h1 h3 → (w_X14_installedSet (fun a4 h5 => HT h5 → HX h3 h5 → ((∃ (I8 : Int → Int → Prop) (m8 : Int → Int → Nat), I8 17 0 ∧ ∀ (x6 : Int) (x7 : Int), rg x6 → rg x7 → I8 x6 x7 → (((hI h5 438 0 ≤ x7 → (K x6 h5)) ∧ (¬ (hI h5 438 0 ≤ x7) → (hk h5 a2 = 100 ∧ (0 ≤ x7 ∧ x7 < (hn h5 a2 : Int)) ∧ ∀ x11 : Int, x11 = wr ((wr (31 * x6)) + (hI h5 a2 x7.toNat)) → rg x11 → hk h5 a4 = 100 ∧ (0 ≤ x7 ∧ x7 < (hn h5 a4 : Int)) ∧ ∀ x14 : Int, x14 = wr ((wr (31 * x11)) + (hI h5 a4 x7.toNat)) → rg x14 → ∀ x15 : Int, x15 = wr (x7 + 1) → rg x15 → (I8 x14 x15 ∧ m8 x14 x15 < m8 x6 x7)))))))) h3)) h1)
set_option maxHeartbeats 4000000 in
theorem a_X14_checksum {sc : Nat × (Nat → Int32)} {goal : XO → XH → Prop} {fs : List XF} {h : XH}  {K : Int → XH → Prop} (hd : fs.length + 2 ≤ 1000) (w : w_X14_checksum  K h) (t0 : HT h) (k : ∀ (r : Int) (h1 : XH), HT h1 → HX h h1 → rg r → K r h1 → XFin xP sc goal fs (.inl (some (.int (J r)))) h1) : RR sc goal fs 182 0 [some (rv 437), none, none, none, none] [] h := by
  unfold w_X14_checksum at w
  refine r_aldn (pc1 := 1) rfl rfl rfl ?_
  refine r_n (pc1 := 2) [.int (J 0), rv 437] _ rfl rfl ?_
  refine r_pfI (pc1 := 5) rfl rfl rfl t0 (lyk t0 rfl) rfl rfl rfl (fun h1 eh1 t1 u1 => ?_)
  have w := w h1 eh1 t1 u1
  have s1 := HX_trans (HX_refl h) u1
  refine r_aldn (pc1 := 6) rfl rfl rfl ?_
  refine r_iv rfl rfl rfl rfl rfl rfl t1 (lyk t1 rfl) rfl (xe_of (xa_r xa_0) rfl rfl) (r_d0 hd rfl) (a_X14_goalSet  (r_d1 hd rfl)  w t1 (fun a2 h3 t3 u3 w => ?_))
  refine r_fR (pc1 := 9) rfl ?_
  have s3 := HX_trans s1 u3
  have w := w t3 u3
  refine r_astn (pc1 := 10) (ls1 := [some (rv 437), some (rv a2), none, none, none]) rfl rfl rfl rfl ?_
  refine r_aldn (pc1 := 11) rfl rfl rfl ?_
  refine r_iv rfl rfl rfl rfl rfl rfl t3 (lyk t3 rfl) rfl (xe_of (xa_r xa_0) rfl rfl) (r_d0 hd rfl) (a_X14_installedSet  (r_d1 hd rfl)  w t3 (fun a4 h5 t5 u5 w => ?_))
  refine r_fR (pc1 := 14) rfl ?_
  have s5 := HX_trans s3 u5
  have w := w t5 u5
  refine r_astn (pc1 := 15) (ls1 := [some (rv 437), some (rv a2), some (rv a4), none, none]) rfl rfl rfl (xput1_rv rfl rfl) ?_
  refine r_n (pc1 := 17) [.int (J 17)] _ rfl rfl ?_
  refine r_istn (pc1 := 18) (ls1 := [some (rv 437), some (rv a2), some (rv a4), some (.int (J 17)), none]) rfl rfl rfl (xput1_rv rfl rfl) ?_
  refine r_n (pc1 := 19) [.int (J 0)] _ rfl rfl ?_
  refine r_ist (pc1 := 21) (ls1 := [some (rv 437), some (rv a2), some (rv a4), some (.int (J 17)), some (.int (J 0))]) rfl rfl rfl rfl ?_
  obtain ⟨I8, m8, w, y8⟩ := w
  have Q8 : ∀ (n : Nat)  (x6 : Int) (x7 : Int), rg x6 → rg x7 → m8 x6 x7 < n → I8 x6 x7 → RR sc goal fs 182 21 [some (rv 437), some (rv a2), some (rv a4), some (.int (J x6)), some (.int (J x7))] [] h5 := by
    intro n
    induction n with
    | zero => intro x6 x7 rx6 rx7 q8 _; exact absurd q8 (Nat.not_lt_zero _)
    | succ n ih8 =>
      intro x6 x7 rx6 rx7 q8 z8
      have w := y8 x6 x7 rx6 rx7 z8
      refine r_n (pc1 := 23) [.int (J x7)] _ rfl rfl ?_
      refine r_aldn (pc1 := 24) rfl rfl rfl ?_
      refine r_gfC (pc1 := 27) (q := 438) rfl rfl rfl t5 (lyk t5 rfl) rfl rfl (lyR t5 rfl rfl) ?_
      refine r_n (pc1 := 28) [.int (J 0), rv 438, .int (J x7)] _ rfl rfl ?_
      refine r_ial (pc1 := 29) rfl rfl t5 (lyk t5 rfl) (rgk rfl) (by decide) (lt_len (lyn t5 rfl) (by decide)) ?_
      refine r_ic (t := 58) (pc1 := 32) rfl rfl rfl rx7 (rgh _ _ _) (fun c16 => ?_) (fun c16 => ?_)
      · have w := w.1 c16
        refine r_n (pc1 := 59) [.int (J x6)] _ rfl rfl ?_
        exact r_retI rfl rfl rfl (k _ _ t5 s5 rx6 w)
      · have w := w.2 c16
        refine r_n (pc1 := 34) [.int (J 31)] _ rfl rfl ?_
        refine r_n (pc1 := 35) [.int (J x6), .int (J 31)] _ rfl rfl ?_
        refine r_imul (pc1 := 36) rfl rfl ?_
        refine r_aldn (pc1 := 37) rfl rfl rfl ?_
        refine r_n (pc1 := 39) [.int (J x7), rv a2, .int (J (wr (31 * x6)))] _ rfl rfl ?_
        obtain ⟨c9, w⟩ := w
        obtain ⟨c10, w⟩ := w
        refine r_ial (pc1 := 40) rfl rfl t5 c9 rx7 c10.1 c10.2 ?_
        refine r_iadd (pc1 := 41) rfl rfl ?_
        refine r_vI (rgw _) (fun x11 ex11 rx11 => ?_)
        have w := w x11 ex11 rx11
        refine r_istn (pc1 := 42) (ls1 := [some (rv 437), some (rv a2), some (rv a4), some (.int (J x11)), some (.int (J x7))]) rfl rfl rfl (xput1_rv rfl rfl) ?_
        refine r_n (pc1 := 44) [.int (J 31)] _ rfl rfl ?_
        refine r_n (pc1 := 45) [.int (J x11), .int (J 31)] _ rfl rfl ?_
        refine r_imul (pc1 := 46) rfl rfl ?_
        refine r_aldn (pc1 := 47) rfl rfl rfl ?_
        refine r_n (pc1 := 49) [.int (J x7), rv a4, .int (J (wr (31 * x11)))] _ rfl rfl ?_
        obtain ⟨c12, w⟩ := w
        obtain ⟨c13, w⟩ := w
        refine r_ial (pc1 := 50) rfl rfl t5 c12 rx7 c13.1 c13.2 ?_
        refine r_iadd (pc1 := 51) rfl rfl ?_
        refine r_vI (rgw _) (fun x14 ex14 rx14 => ?_)
        have w := w x14 ex14 rx14
        refine r_istn (pc1 := 52) (ls1 := [some (rv 437), some (rv a2), some (rv a4), some (.int (J x14)), some (.int (J x7))]) rfl rfl rfl (xput1_rv rfl rfl) ?_
        refine r_inc (pc1 := 55) (g := fun zz => [some (rv 437), some (rv a2), some (rv a4), some (.int (J x14)), some (.int (J zz))]) rfl rfl rfl rfl (fun _ => rfl) (fun x15 ex15 rx15 => ?_)
        have w := w x15 ex15 rx15
        refine r_goto (t := 21) rfl rfl ?_
        exact ih8  x14 x15  rx14 rx15 (Nat.lt_of_lt_of_le w.2 (Nat.le_of_lt_succ q8)) w.1
  exact Q8 _  17 0  (rgk rfl) (rgk rfl) (Nat.lt_succ_self _) w
def w_X12_isSound  (K : Int → XH → Prop) (h : XH) : Prop :=
  (w_X12_knowMet (fun h1 => HT h1 → HX h h1 → ((∃ (I3 : Int → Prop) (m3 : Int → Nat), I3 0 ∧ ∀ (x2 : Int), rg x2 → I3 x2 → (((3 ≤ x2 → (K 1 h1)) ∧ (¬ (3 ≤ x2) → (w_X11_rootOf x2 (fun a4 => (hk h1 a4 = 7 ∧ w_X3_isSoundSet (hL h1 a4 6) (fun x6 => rg x6 → (x6 = 0 ∨ x6 = 1) → (((¬ x6 = 0 → (∀ x7 : Int, x7 = wr (x2 + 1) → rg x7 → (I3 x7 ∧ m3 x7 < m3 x2))) ∧ (¬ (¬ x6 = 0) → (K 0 h1))))) h1)) h1))))))) h)
set_option maxHeartbeats 4000000 in
theorem a_X12_isSound {sc : Nat × (Nat → Int32)} {goal : XO → XH → Prop} {fs : List XF} {h : XH}  {K : Int → XH → Prop} (hd : fs.length + 6 ≤ 1000) (w : w_X12_isSound  K h) (t0 : HT h) (k : ∀ (r : Int) (h1 : XH), HT h1 → HX h h1 → rg r → (r = 0 ∨ r = 1) → K r h1 → XFin xP sc goal fs (.inl (some (.int (J r)))) h1) : RR sc goal fs 119 0 [some (rv 2), none] [] h := by
  unfold w_X12_isSound at w
  refine r_aldn (pc1 := 1) rfl rfl rfl ?_
  refine r_iv rfl rfl rfl rfl rfl rfl t0 (lyk t0 rfl) rfl (xe_of (xa_r xa_0) rfl rfl) (r_d0 hd rfl) (a_X12_knowMet  (r_d1 hd rfl)  w t0 (fun h1 t1 u1 w => ?_))
  refine r_fV (pc1 := 4) rfl ?_
  have s1 := HX_trans (HX_refl h) u1
  have w := w t1 u1
  refine r_n (pc1 := 5) [.int (J 0)] _ rfl rfl ?_
  refine r_istn (pc1 := 6) (ls1 := [some (rv 2), some (.int (J 0))]) rfl rfl rfl rfl ?_
  obtain ⟨I3, m3, w, y3⟩ := w
  have Q3 : ∀ (n : Nat)  (x2 : Int), rg x2 → m3 x2 < n → I3 x2 → RR sc goal fs 119 6 [some (rv 2), some (.int (J x2))] [] h1 := by
    intro n
    induction n with
    | zero => intro x2 rx2 q3 _; exact absurd q3 (Nat.not_lt_zero _)
    | succ n ih3 =>
      intro x2 rx2 q3 z3
      have w := y3 x2 rx2 z3
      refine r_n (pc1 := 7) [.int (J x2)] _ rfl rfl ?_
      refine r_n (pc1 := 8) [.int (J 3), .int (J x2)] _ rfl rfl ?_
      refine r_ic (t := 40) (pc1 := 11) rfl rfl rfl rx2 (rgk rfl) (fun c9 => ?_) (fun c9 => ?_)
      · have w := w.1 c9
        refine r_n (pc1 := 41) [.int (J 1)] _ rfl rfl ?_
        exact r_retB rfl rfl rfl (.inr rfl) (k _ _ t1 s1 (rgk rfl) (.inr rfl) w)
      · have w := w.2 c9
        refine r_aldn (pc1 := 12) rfl rfl rfl ?_
        refine r_gfC (pc1 := 15) (q := 44) rfl rfl rfl t1 (lyk t1 rfl) rfl rfl (lyR t1 rfl rfl) ?_
        refine r_aldn (pc1 := 16) rfl rfl rfl ?_
        refine r_gfC (pc1 := 19) (q := 8) rfl rfl rfl t1 (lyk t1 rfl) rfl rfl (lyR t1 rfl rfl) ?_
        refine r_n (pc1 := 20) [.int (J x2), rv 8, rv 44] _ rfl rfl ?_
        refine r_iv rfl rfl rfl rfl rfl rfl t1 (lyk t1 rfl) rfl (xe_of (xa_r (xa_i xa_0)) rfl rfl) (r_d0 hd rfl) (a_X11_rootOf x2 (r_d1 hd rfl) rx2 w t1 (fun a4 w => ?_))
        refine r_fR (pc1 := 23) rfl ?_
        obtain ⟨c5, w⟩ := w
        refine r_gfL (pc1 := 26) rfl rfl rfl t1 c5 rfl rfl ?_
        refine r_iv rfl rfl rfl rfl rfl rfl t1 (lyk t1 rfl) rfl (xe_of (xa_r (xa_l xa_0)) rfl rfl) (r_d0 hd rfl) (a_X3_isSoundSet (hL h1 a4 6) (r_d1 hd rfl)  w t1 (fun x6 rx6 vx6 w => ?_))
        refine r_fI (pc1 := 29) rfl ?_
        have w := w rx6 vx6
        refine r_iz (t := 34) (pc1 := 32) rfl rfl rfl rx6 (fun c8 => ?_) (fun c8 => ?_)
        · have w := w.1 c8
          refine r_inc (pc1 := 37) (g := fun zz => [some (rv 2), some (.int (J zz))]) rfl rfl rfl rfl (fun _ => rfl) (fun x7 ex7 rx7 => ?_)
          have w := w x7 ex7 rx7
          refine r_goto (t := 6) rfl rfl ?_
          exact ih3  x7  rx7 (Nat.lt_of_lt_of_le w.2 (Nat.le_of_lt_succ q3)) w.1
        · have w := w.2 c8
          refine r_n (pc1 := 33) [.int (J 0)] _ rfl rfl ?_
          exact r_retB rfl rfl rfl (.inl rfl) (k _ _ t1 s1 (rgk rfl) (.inl rfl) w)
  exact Q3 _  0  (rgk rfl) (Nat.lt_succ_self _) w
def w_X14_isSound  (K : Int → XH → Prop) (h : XH) : Prop :=
  (∀ h1 : XH, h1 = sI h 437 5 0 → HT h1 → HX h h1 → (∃ (I5 : Int → Int → XH → Prop) (m5 : Int → Int → XH → Nat), I5 1 0 h1 ∧ ∀ (x2 : Int) (x3 : Int) (h4 : XH), HT h4 → HX h h4 → rg x2 → rg x3 → I5 x2 x3 h4 → (((3 ≤ x3 → ((x2 = 0 ∨ x2 = 1) ∧ K x2 h4)) ∧ (¬ (3 ≤ x3) → (∃ J9 : Int → XH → Prop, (∀ (x7 : Int) (h8 : XH), HT h8 → HX h h8 → rg x7 → J9 x7 h8 → (∀ x10 : Int, x10 = wr (x3 + 1) → rg x10 → (I5 x7 x10 h8 ∧ m5 x7 x10 h8 < m5 x2 x3 h4))) ∧ ∃ J12 : XH → Prop, (∀ (h11 : XH), HT h11 → HX h h11 → J12 h11 → (J9 0 h11)) ∧ ((x2 = 0 → J12 h4) ∧ (¬ (x2 = 0) → (w_X14_setAt (wr ((wr (805 + (wr (x3 * 291)))) + 23)) (fun a13 h14 => HT h14 → HX h4 h14 → (w_X14_isSoundSet a13 (fun x15 => rg x15 → (x15 = 0 ∨ x15 = 1) → (((x15 = 0 → J12 h14) ∧ (¬ (x15 = 0) → (J9 1 h14))))) h14)) h4)))))))))
set_option maxHeartbeats 4000000 in
theorem a_X14_isSound {sc : Nat × (Nat → Int32)} {goal : XO → XH → Prop} {fs : List XF} {h : XH}  {K : Int → XH → Prop} (hd : fs.length + 7 ≤ 1000) (w : w_X14_isSound  K h) (t0 : HT h) (k : ∀ (r : Int) (h1 : XH), HT h1 → HX h h1 → rg r → (r = 0 ∨ r = 1) → K r h1 → XFin xP sc goal fs (.inl (some (.int (J r)))) h1) : RR sc goal fs 238 0 [some (rv 437), none, none] [] h := by
  unfold w_X14_isSound at w
  refine r_aldn (pc1 := 1) rfl rfl rfl ?_
  refine r_n (pc1 := 2) [.int (J 0), rv 437] _ rfl rfl ?_
  refine r_pfI (pc1 := 5) rfl rfl rfl t0 (lyk t0 rfl) rfl rfl rfl (fun h1 eh1 t1 u1 => ?_)
  have w := w h1 eh1 t1 u1
  have s1 := HX_trans (HX_refl h) u1
  refine r_n (pc1 := 6) [.int (J 1)] _ rfl rfl ?_
  refine r_istn (pc1 := 7) (ls1 := [some (rv 437), some (.int (J 1)), none]) rfl rfl rfl rfl ?_
  refine r_n (pc1 := 8) [.int (J 0)] _ rfl rfl ?_
  refine r_istn (pc1 := 9) (ls1 := [some (rv 437), some (.int (J 1)), some (.int (J 0))]) rfl rfl rfl rfl ?_
  obtain ⟨I5, m5, w, y5⟩ := w
  have Q5 : ∀ (n : Nat)  (x2 : Int) (x3 : Int) (h4 : XH), HT h4 → HX h h4 → rg x2 → rg x3 → m5 x2 x3 h4 < n → I5 x2 x3 h4 → RR sc goal fs 238 9 [some (rv 437), some (.int (J x2)), some (.int (J x3))] [] h4 := by
    intro n
    induction n with
    | zero => intro x2 x3 h4 t4 s4 rx2 rx3 q5 _; exact absurd q5 (Nat.not_lt_zero _)
    | succ n ih5 =>
      intro x2 x3 h4 t4 s4 rx2 rx3 q5 z5
      have w := y5 x2 x3 h4 t4 s4 rx2 rx3 z5
      refine r_n (pc1 := 10) [.int (J x3)] _ rfl rfl ?_
      refine r_n (pc1 := 11) [.int (J 3), .int (J x3)] _ rfl rfl ?_
      refine r_ic (t := 53) (pc1 := 14) rfl rfl rfl rx3 (rgk rfl) (fun c18 => ?_) (fun c18 => ?_)
      · have w := w.1 c18
        refine r_n (pc1 := 54) [.int (J x2)] _ rfl rfl ?_
        obtain ⟨c6, w⟩ := w
        exact r_retB rfl rfl rfl c6 (k _ _ t4 s4 rx2 c6 w)
      · have w := w.2 c18
        refine r_n (pc1 := 15) [.int (J x2)] _ rfl rfl ?_
        obtain ⟨J9, j9, w⟩ := w
        have Q9 : ∀ (x7 : Int) (h8 : XH), HT h8 → HX h h8 → rg x7 → J9 x7 h8 → RR sc goal fs 238 46 [some (rv 437), some (.int (J x2)), some (.int (J x3))] [.int (J x7)] h8 := by
          intro x7 h8 t8 s8 rx7 z9
          have w := j9 x7 h8 t8 s8 rx7 z9
          refine r_istn (pc1 := 47) (ls1 := [some (rv 437), some (.int (J x7)), some (.int (J x3))]) rfl rfl rfl rfl ?_
          refine r_inc (pc1 := 50) (g := fun zz => [some (rv 437), some (.int (J x7)), some (.int (J zz))]) rfl rfl rfl rfl (fun _ => rfl) (fun x10 ex10 rx10 => ?_)
          have w := w x10 ex10 rx10
          refine r_goto (t := 9) rfl rfl ?_
          exact ih5  x7 x10 h8 t8 s8 rx7 rx10 (Nat.lt_of_lt_of_le w.2 (Nat.le_of_lt_succ q5)) w.1
        obtain ⟨J12, j12, w⟩ := w
        have Q12 : ∀ (h11 : XH), HT h11 → HX h h11 → J12 h11 → RR sc goal fs 238 45 [some (rv 437), some (.int (J x2)), some (.int (J x3))] [] h11 := by
          intro h11 t11 s11 z12
          have w := j12 h11 t11 s11 z12
          refine r_n (pc1 := 46) [.int (J 0)] _ rfl rfl ?_
          exact Q9  0 h11 t11 s11 (rgk rfl) w
        refine r_iz (t := 45) (pc1 := 18) rfl rfl rfl rx2 (fun c17 => ?_) (fun c17 => ?_)
        · have w := w.1 c17
          exact Q12   h4 t4 s4  w
        · have w := w.2 c17
          refine r_aldn (pc1 := 19) rfl rfl rfl ?_
          refine r_aldn (pc1 := 20) rfl rfl rfl ?_
          refine r_n (pc1 := 23) [.int (J 805), rv 437, rv 437] _ rfl rfl ?_
          refine r_n (pc1 := 24) [.int (J x3), .int (J 805), rv 437, rv 437] _ rfl rfl ?_
          refine r_n (pc1 := 27) [.int (J 291), .int (J x3), .int (J 805), rv 437, rv 437] _ rfl rfl ?_
          refine r_imul (pc1 := 28) rfl rfl ?_
          refine r_iadd (pc1 := 29) rfl rfl ?_
          refine r_n (pc1 := 31) [.int (J 23), .int (J (wr (805 + (wr (x3 * 291))))), rv 437, rv 437] _ rfl rfl ?_
          refine r_iadd (pc1 := 32) rfl rfl ?_
          refine r_iv rfl rfl rfl rfl rfl rfl t4 (lyk t4 rfl) rfl (xe_of (xa_r (xa_i xa_0)) rfl rfl) (r_d0 hd rfl) (a_X14_setAt (wr ((wr (805 + (wr (x3 * 291)))) + 23)) (r_d1 hd rfl) (rgw _) w t4 (fun a13 h14 t14 u14 w => ?_))
          refine r_fR (pc1 := 35) rfl ?_
          have s14 := HX_trans s4 u14
          have w := w t14 u14
          refine r_iv rfl rfl rfl rfl rfl rfl t14 (lyk t14 rfl) rfl (xe_of (xa_r (xa_r xa_0)) rfl rfl) (r_d0 hd rfl) (a_X14_isSoundSet a13 (r_d1 hd rfl)  w t14 (fun x15 rx15 vx15 w => ?_))
          refine r_fI (pc1 := 38) rfl ?_
          have w := w rx15 vx15
          refine r_iz (t := 45) (pc1 := 41) rfl rfl rfl rx15 (fun c16 => ?_) (fun c16 => ?_)
          · have w := w.1 c16
            exact Q12   h14 t14 s14  w
          · have w := w.2 c16
            refine r_n (pc1 := 42) [.int (J 1)] _ rfl rfl ?_
            refine r_goto (t := 46) rfl rfl ?_
            exact Q9  1 h14 t14 s14 (rgk rfl) w
  exact Q5 _  1 0 h1 t1 s1 (rgk rfl) (rgk rfl) (Nat.lt_succ_self _) w
def w_X9_isAhead (p0 : BitVec 64) (p1 : BitVec 64) (K : Int → Prop) (h : XH) : Prop :=
  ((∃ (I5 : Int → Prop) (m5 : Int → Nat), I5 0 ∧ ∀ (x1 : Int), rg x1 → I5 x1 → (((hI h 9 0 ≤ x1 → ((∃ (I7 : Int → Prop) (m7 : Int → Nat), I7 0 ∧ ∀ (x6 : Int), rg x6 → I7 x6 → (((hI h 9 0 ≤ x6 → (K 0)) ∧ (¬ (hI h 9 0 ≤ x6) → (w_X12_switchOf x6 (fun b8 => ((((p0 ^^^ p1) &&& b8 = (0#64) → (∀ x9 : Int, x9 = wr (x6 + 1) → rg x9 → (I7 x9 ∧ m7 x9 < m7 x6))) ∧ (¬ ((p0 ^^^ p1) &&& b8 = (0#64)) → (w_X12_switchOf x6 (fun b10 => (∃ J12 : Int → Prop, (∀ (x11 : Int), rg x11 → J12 x11 → ((x11 = 0 ∨ x11 = 1) ∧ K x11)) ∧ ((¬ p0 &&& b10 = (0#64) → (J12 0)) ∧ (¬ (¬ p0 &&& b10 = (0#64)) → (J12 1))))) h))))) h))))))) ∧ (¬ (hI h 9 0 ≤ x1) → ((0 ≤ x1 ∧ x1 < 12) ∧ ∀ x18 : Int, x18 = hI h 69 x1.toNat → rg x18 → w_X8_codeIn p0 x18 (fun x19 => rg x19 → (w_X8_codeIn p1 x18 (fun x20 => rg x20 → (((x19 = x20 → (∀ x21 : Int, x21 = wr (x1 + 1) → rg x21 → (I5 x21 ∧ m5 x21 < m5 x1))) ∧ (¬ (x19 = x20) → (∃ J23 : Int → Prop, (∀ (x22 : Int), rg x22 → J23 x22 → (∃ J25 : Int → Prop, (∀ (x24 : Int), rg x24 → J25 x24 → (∃ J27 : Int → Prop, (∀ (x26 : Int), rg x26 → J27 x26 → ((x26 = 0 ∨ x26 = 1) ∧ K x26)) ∧ ((x24 = 0 → (((x19 ≤ x20 → (J27 0)) ∧ (¬ (x19 ≤ x20) → (J27 1))))) ∧ (¬ (x24 = 0) → (((¬ x19 = (-1) → (J27 0)) ∧ (¬ (¬ x19 = (-1)) → (J27 1)))))))) ∧ ∃ J32 : Prop, (J32 → (J25 0)) ∧ ((¬ x22 = 0 → J32) ∧ (¬ (¬ x22 = 0) → (∃ J33 : Prop, (J33 → (J25 1)) ∧ ((x19 = (-1) → J33) ∧ (¬ (x19 = (-1)) → (((¬ x20 = (-1) → J32) ∧ (¬ (¬ x20 = (-1)) → J33)))))))))) ∧ ((iand (ishr (hI h 68 5) x18) 1 = 0 → (J23 0)) ∧ (¬ (iand (ishr (hI h 68 5) x18) 1 = 0) → (J23 1)))))))) h)) h))))))
set_option maxHeartbeats 4000000 in
theorem a_X9_isAhead {sc : Nat × (Nat → Int32)} {goal : XO → XH → Prop} {fs : List XF} {h : XH} (p0 : BitVec 64) (p1 : BitVec 64) {K : Int → Prop} (hd : fs.length + 3 ≤ 1000) (w : w_X9_isAhead p0 p1 K h) (t0 : HT h) (k : ∀ (r : Int), rg r → (r = 0 ∨ r = 1) → K r → XFin xP sc goal fs (.inl (some (.int (J r)))) h) : RR sc goal fs 473 0 [some (rv 68), some (.long (G p0)), none, some (.long (G p1)), none, none, none, none, none, none, none] [] h := by
  unfold w_X9_isAhead at w
  refine r_n (pc1 := 1) [.int (J 0)] _ rfl rfl ?_
  refine r_ist (pc1 := 3) (ls1 := [some (rv 68), some (.long (G p0)), none, some (.long (G p1)), none, some (.int (J 0)), none, none, none, none, none]) rfl rfl rfl rfl ?_
  obtain ⟨I5, m5, w, y5⟩ := w
  have Q5 : ∀ (n : Nat) (d2 : Option Value) (d3 : Option Value) (d4 : Option Value) (x1 : Int), rg x1 → m5 x1 < n → I5 x1 → RR sc goal fs 473 3 [some (rv 68), some (.long (G p0)), none, some (.long (G p1)), none, some (.int (J x1)), d2, d3, d4, none, none] [] h := by
    intro n
    induction n with
    | zero => intro d2 d3 d4 x1 rx1 q5 _; exact absurd q5 (Nat.not_lt_zero _)
    | succ n ih5 =>
      intro d2 d3 d4 x1 rx1 q5 z5
      have w := y5 x1 rx1 z5
      refine r_n (pc1 := 5) [.int (J x1)] _ rfl rfl ?_
      refine r_aldn (pc1 := 6) rfl rfl rfl ?_
      refine r_gfC (pc1 := 9) (q := 9) rfl rfl rfl t0 (lyk t0 rfl) rfl rfl (lyR t0 rfl rfl) ?_
      refine r_gfI (pc1 := 12) rfl rfl rfl t0 (lyk t0 rfl) rfl rfl ?_
      refine r_ic (t := 136) (pc1 := 15) rfl rfl rfl rx1 (rgh _ _ _) (fun c39 => ?_) (fun c39 => ?_)
      · have w := w.1 c39
        refine r_n (pc1 := 137) [.int (J 0)] _ rfl rfl ?_
        refine r_ist (pc1 := 139) (ls1 := [some (rv 68), some (.long (G p0)), none, some (.long (G p1)), none, some (.int (J 0)), d2, d3, d4, none, none]) rfl rfl rfl rfl ?_
        obtain ⟨I7, m7, w, y7⟩ := w
        have Q7 : ∀ (n : Nat)  (x6 : Int), rg x6 → m7 x6 < n → I7 x6 → RR sc goal fs 473 139 [some (rv 68), some (.long (G p0)), none, some (.long (G p1)), none, some (.int (J x6)), d2, d3, d4, none, none] [] h := by
          intro n
          induction n with
          | zero => intro x6 rx6 q7 _; exact absurd q7 (Nat.not_lt_zero _)
          | succ n ih7 =>
            intro x6 rx6 q7 z7
            have w := y7 x6 rx6 z7
            refine r_n (pc1 := 141) [.int (J x6)] _ rfl rfl ?_
            refine r_aldn (pc1 := 142) rfl rfl rfl ?_
            refine r_gfC (pc1 := 145) (q := 9) rfl rfl rfl t0 (lyk t0 rfl) rfl rfl (lyR t0 rfl rfl) ?_
            refine r_gfI (pc1 := 148) rfl rfl rfl t0 (lyk t0 rfl) rfl rfl ?_
            refine r_ic (t := 189) (pc1 := 151) rfl rfl rfl rx6 (rgh _ _ _) (fun c16 => ?_) (fun c16 => ?_)
            · have w := w.1 c16
              refine r_n (pc1 := 190) [.int (J 0)] _ rfl rfl ?_
              exact r_retB rfl rfl rfl (.inl rfl) (k _ (rgk rfl) (.inl rfl) w)
            · have w := w.2 c16
              refine r_n (pc1 := 152) [.long (G p0)] _ rfl rfl ?_
              refine r_n (pc1 := 153) [.long (G p1), .long (G p0)] _ rfl rfl ?_
              refine r_lxor (pc1 := 154) rfl rfl ?_
              refine r_n (pc1 := 156) [.int (J x6), .long (G (p0 ^^^ p1))] _ rfl rfl ?_
              refine r_iq rfl rfl rfl rfl rfl rfl (xe_of (xa_i xa_0) rfl rfl) (r_d0 hd rfl) (a_X12_switchOf x6 (r_d1 hd rfl) rx6 w t0 (fun b8 w => ?_))
              refine r_fL (pc1 := 159) rfl ?_
              refine r_land (pc1 := 160) rfl rfl ?_
              refine r_n (pc1 := 161) [.long (G (0#64)), .long (G ((p0 ^^^ p1) &&& b8))] _ rfl rfl ?_
              refine r_lc (pc2 := 162) (t := 183) (pc1 := 165) rfl rfl rfl rfl rfl (fun c15 => ?_) (fun c15 => ?_)
              · have w := w.1 c15
                refine r_inc (pc1 := 186) (g := fun zz => [some (rv 68), some (.long (G p0)), none, some (.long (G p1)), none, some (.int (J zz)), d2, d3, d4, none, none]) rfl rfl rfl rfl (fun _ => rfl) (fun x9 ex9 rx9 => ?_)
                have w := w x9 ex9 rx9
                refine r_goto (t := 139) rfl rfl ?_
                exact ih7  x9  rx9 (Nat.lt_of_lt_of_le w.2 (Nat.le_of_lt_succ q7)) w.1
              · have w := w.2 c15
                refine r_n (pc1 := 166) [.long (G p0)] _ rfl rfl ?_
                refine r_n (pc1 := 168) [.int (J x6), .long (G p0)] _ rfl rfl ?_
                refine r_iq rfl rfl rfl rfl rfl rfl (xe_of (xa_i xa_0) rfl rfl) (r_d0 hd rfl) (a_X12_switchOf x6 (r_d1 hd rfl) rx6 w t0 (fun b10 w => ?_))
                refine r_fL (pc1 := 171) rfl ?_
                refine r_land (pc1 := 172) rfl rfl ?_
                refine r_n (pc1 := 173) [.long (G (0#64)), .long (G (p0 &&& b10))] _ rfl rfl ?_
                obtain ⟨J12, j12, w⟩ := w
                have Q12 : ∀ (x11 : Int), rg x11 → J12 x11 → RR sc goal fs 473 182 [some (rv 68), some (.long (G p0)), none, some (.long (G p1)), none, some (.int (J x6)), d2, d3, d4, none, none] [.int (J x11)] h := by
                  intro x11 rx11 z12
                  have w := j12 x11 rx11 z12
                  obtain ⟨c13, w⟩ := w
                  exact r_retB rfl rfl rfl c13 (k _ rx11 c13 w)
                refine r_lc (pc2 := 174) (t := 181) (pc1 := 177) rfl rfl rfl rfl rfl (fun c14 => ?_) (fun c14 => ?_)
                · have w := w.1 c14
                  refine r_n (pc1 := 182) [.int (J 0)] _ rfl rfl ?_
                  exact Q12  0  (rgk rfl) w
                · have w := w.2 c14
                  refine r_n (pc1 := 178) [.int (J 1)] _ rfl rfl ?_
                  refine r_goto (t := 182) rfl rfl ?_
                  exact Q12  1  (rgk rfl) w
        exact Q7 _  0  (rgk rfl) (Nat.lt_succ_self _) w
      · have w := w.2 c39
        refine r_aldn (pc1 := 16) rfl rfl rfl ?_
        refine r_gfC (pc1 := 19) (q := 69) rfl rfl rfl t0 (lyk t0 rfl) rfl rfl (lyR t0 rfl rfl) ?_
        refine r_n (pc1 := 21) [.int (J x1), rv 69] _ rfl rfl ?_
        obtain ⟨c17, w⟩ := w
        refine r_ial (pc1 := 22) rfl rfl t0 (lyk t0 rfl) rx1 c17.1 (lt_len (lyn t0 rfl) c17.2) ?_
        refine r_vI (rgh _ _ _) (fun x18 ex18 rx18 => ?_)
        have w := w x18 ex18 rx18
        refine r_ist (pc1 := 24) (ls1 := [some (rv 68), some (.long (G p0)), none, some (.long (G p1)), none, some (.int (J x1)), some (.int (J x18)), d3, d4, none, none]) rfl rfl rfl rfl ?_
        refine r_aldn (pc1 := 25) rfl rfl rfl ?_
        refine r_gfC (pc1 := 28) (q := 9) rfl rfl rfl t0 (lyk t0 rfl) rfl rfl (lyR t0 rfl rfl) ?_
        refine r_n (pc1 := 29) [.long (G p0), rv 9] _ rfl rfl ?_
        refine r_n (pc1 := 31) [.int (J x18), .long (G p0), rv 9] _ rfl rfl ?_
        refine r_iv rfl rfl rfl rfl rfl rfl t0 (lyk t0 rfl) rfl (xe_of (xa_r (xa_l (xa_i xa_0))) rfl rfl) (r_d0 hd rfl) (a_X8_codeIn p0 x18 (r_d1 hd rfl) rx18 w t0 (fun x19 rx19 w => ?_))
        refine r_fI (pc1 := 34) rfl ?_
        have w := w rx19
        refine r_ist (pc1 := 36) (ls1 := [some (rv 68), some (.long (G p0)), none, some (.long (G p1)), none, some (.int (J x1)), some (.int (J x18)), some (.int (J x19)), d4, none, none]) rfl rfl rfl rfl ?_
        refine r_aldn (pc1 := 37) rfl rfl rfl ?_
        refine r_gfC (pc1 := 40) (q := 9) rfl rfl rfl t0 (lyk t0 rfl) rfl rfl (lyR t0 rfl rfl) ?_
        refine r_n (pc1 := 41) [.long (G p1), rv 9] _ rfl rfl ?_
        refine r_n (pc1 := 43) [.int (J x18), .long (G p1), rv 9] _ rfl rfl ?_
        refine r_iv rfl rfl rfl rfl rfl rfl t0 (lyk t0 rfl) rfl (xe_of (xa_r (xa_l (xa_i xa_0))) rfl rfl) (r_d0 hd rfl) (a_X8_codeIn p1 x18 (r_d1 hd rfl) rx18 w t0 (fun x20 rx20 w => ?_))
        refine r_fI (pc1 := 46) rfl ?_
        have w := w rx20
        refine r_ist (pc1 := 48) (ls1 := [some (rv 68), some (.long (G p0)), none, some (.long (G p1)), none, some (.int (J x1)), some (.int (J x18)), some (.int (J x19)), some (.int (J x20)), none, none]) rfl rfl rfl rfl ?_
        refine r_n (pc1 := 50) [.int (J x19)] _ rfl rfl ?_
        refine r_n (pc1 := 52) [.int (J x20), .int (J x19)] _ rfl rfl ?_
        refine r_ic (t := 130) (pc1 := 55) rfl rfl rfl rx19 rx20 (fun c38 => ?_) (fun c38 => ?_)
        · have w := w.1 c38
          refine r_inc (pc1 := 133) (g := fun zz => [some (rv 68), some (.long (G p0)), none, some (.long (G p1)), none, some (.int (J zz)), some (.int (J x18)), some (.int (J x19)), some (.int (J x20)), none, none]) rfl rfl rfl rfl (fun _ => rfl) (fun x21 ex21 rx21 => ?_)
          have w := w x21 ex21 rx21
          refine r_goto (t := 3) rfl rfl ?_
          exact ih5 _ _ _ x21  rx21 (Nat.lt_of_lt_of_le w.2 (Nat.le_of_lt_succ q5)) w.1
        · have w := w.2 c38
          refine r_aldn (pc1 := 56) rfl rfl rfl ?_
          refine r_gfI (pc1 := 59) rfl rfl rfl t0 (lyk t0 rfl) rfl rfl ?_
          refine r_n (pc1 := 61) [.int (J x18), .int (J (hI h 68 5))] _ rfl rfl ?_
          refine r_ishr (pc1 := 62) rfl rfl ?_
          refine r_n (pc1 := 63) [.int (J 1), .int (J (ishr (hI h 68 5) x18))] _ rfl rfl ?_
          refine r_iand (pc1 := 64) rfl rfl ?_
          obtain ⟨J23, j23, w⟩ := w
          have Q23 : ∀ (x22 : Int), rg x22 → J23 x22 → RR sc goal fs 473 72 [some (rv 68), some (.long (G p0)), none, some (.long (G p1)), none, some (.int (J x1)), some (.int (J x18)), some (.int (J x19)), some (.int (J x20)), none, none] [.int (J x22)] h := by
            intro x22 rx22 z23
            have w := j23 x22 rx22 z23
            refine r_ist (pc1 := 74) (ls1 := [some (rv 68), some (.long (G p0)), none, some (.long (G p1)), none, some (.int (J x1)), some (.int (J x18)), some (.int (J x19)), some (.int (J x20)), some (.int (J x22)), none]) rfl rfl rfl rfl ?_
            refine r_n (pc1 := 76) [.int (J x22)] _ rfl rfl ?_
            obtain ⟨J25, j25, w⟩ := w
            have Q25 : ∀ (x24 : Int), rg x24 → J25 x24 → RR sc goal fs 473 96 [some (rv 68), some (.long (G p0)), none, some (.long (G p1)), none, some (.int (J x1)), some (.int (J x18)), some (.int (J x19)), some (.int (J x20)), some (.int (J x22)), none] [.int (J x24)] h := by
              intro x24 rx24 z25
              have w := j25 x24 rx24 z25
              refine r_ist (pc1 := 98) (ls1 := [some (rv 68), some (.long (G p0)), none, some (.long (G p1)), none, some (.int (J x1)), some (.int (J x18)), some (.int (J x19)), some (.int (J x20)), some (.int (J x22)), some (.int (J x24))]) rfl rfl rfl rfl ?_
              refine r_n (pc1 := 100) [.int (J x24)] _ rfl rfl ?_
              obtain ⟨J27, j27, w⟩ := w
              have Q27 : ∀ (x26 : Int), rg x26 → J27 x26 → RR sc goal fs 473 129 [some (rv 68), some (.long (G p0)), none, some (.long (G p1)), none, some (.int (J x1)), some (.int (J x18)), some (.int (J x19)), some (.int (J x20)), some (.int (J x22)), some (.int (J x24))] [.int (J x26)] h := by
                intro x26 rx26 z27
                have w := j27 x26 rx26 z27
                obtain ⟨c28, w⟩ := w
                exact r_retB rfl rfl rfl c28 (k _ rx26 c28 w)
              refine r_iz (t := 117) (pc1 := 103) rfl rfl rfl rx24 (fun c31 => ?_) (fun c31 => ?_)
              · have w := w.1 c31
                refine r_n (pc1 := 119) [.int (J x19)] _ rfl rfl ?_
                refine r_n (pc1 := 121) [.int (J x20), .int (J x19)] _ rfl rfl ?_
                refine r_ic (t := 128) (pc1 := 124) rfl rfl rfl rx19 rx20 (fun c29 => ?_) (fun c29 => ?_)
                · have w := w.1 c29
                  refine r_n (pc1 := 129) [.int (J 0)] _ rfl rfl ?_
                  exact Q27  0  (rgk rfl) w
                · have w := w.2 c29
                  refine r_n (pc1 := 125) [.int (J 1)] _ rfl rfl ?_
                  refine r_goto (t := 129) rfl rfl ?_
                  exact Q27  1  (rgk rfl) w
              · have w := w.2 c31
                refine r_n (pc1 := 105) [.int (J x19)] _ rfl rfl ?_
                refine r_n (pc1 := 106) [.int (J (-1)), .int (J x19)] _ rfl rfl ?_
                refine r_ic (t := 113) (pc1 := 109) rfl rfl rfl rx19 (rgk rfl) (fun c30 => ?_) (fun c30 => ?_)
                · have w := w.1 c30
                  refine r_n (pc1 := 114) [.int (J 0)] _ rfl rfl ?_
                  refine r_goto (t := 129) rfl rfl ?_
                  exact Q27  0  (rgk rfl) w
                · have w := w.2 c30
                  refine r_n (pc1 := 110) [.int (J 1)] _ rfl rfl ?_
                  refine r_goto (t := 129) rfl rfl ?_
                  exact Q27  1  (rgk rfl) w
            obtain ⟨J32, j32, w⟩ := w
            have Q32 : J32 → RR sc goal fs 473 95 [some (rv 68), some (.long (G p0)), none, some (.long (G p1)), none, some (.int (J x1)), some (.int (J x18)), some (.int (J x19)), some (.int (J x20)), some (.int (J x22)), none] [] h := by
              intro z32
              have w := j32 z32
              refine r_n (pc1 := 96) [.int (J 0)] _ rfl rfl ?_
              exact Q25  0  (rgk rfl) w
            refine r_iz (t := 95) (pc1 := 79) rfl rfl rfl rx22 (fun c36 => ?_) (fun c36 => ?_)
            · have w := w.1 c36
              exact Q32     w
            · have w := w.2 c36
              refine r_n (pc1 := 81) [.int (J x19)] _ rfl rfl ?_
              refine r_n (pc1 := 82) [.int (J (-1)), .int (J x19)] _ rfl rfl ?_
              obtain ⟨J33, j33, w⟩ := w
              have Q33 : J33 → RR sc goal fs 473 91 [some (rv 68), some (.long (G p0)), none, some (.long (G p1)), none, some (.int (J x1)), some (.int (J x18)), some (.int (J x19)), some (.int (J x20)), some (.int (J x22)), none] [] h := by
                intro z33
                have w := j33 z33
                refine r_n (pc1 := 92) [.int (J 1)] _ rfl rfl ?_
                refine r_goto (t := 96) rfl rfl ?_
                exact Q25  1  (rgk rfl) w
              refine r_ic (t := 91) (pc1 := 85) rfl rfl rfl rx19 (rgk rfl) (fun c35 => ?_) (fun c35 => ?_)
              · have w := w.1 c35
                exact Q33     w
              · have w := w.2 c35
                refine r_n (pc1 := 87) [.int (J x20)] _ rfl rfl ?_
                refine r_n (pc1 := 88) [.int (J (-1)), .int (J x20)] _ rfl rfl ?_
                refine r_ic (t := 95) (pc1 := 91) rfl rfl rfl rx20 (rgk rfl) (fun c34 => ?_) (fun c34 => ?_)
                · have w := w.1 c34
                  exact Q32     w
                · have w := w.2 c34
                  exact Q33     w
          refine r_iz (t := 71) (pc1 := 67) rfl rfl rfl (rgt _) (fun c37 => ?_) (fun c37 => ?_)
          · have w := w.1 c37
            refine r_n (pc1 := 72) [.int (J 0)] _ rfl rfl ?_
            exact Q23  0  (rgk rfl) w
          · have w := w.2 c37
            refine r_n (pc1 := 68) [.int (J 1)] _ rfl rfl ?_
            refine r_goto (t := 72) rfl rfl ?_
            exact Q23  1  (rgk rfl) w
  exact Q5 _ _ _ _ 0  (rgk rfl) (Nat.lt_succ_self _) w
