/-! printed by dec.py: what each method wants, and that the machine keeps it -/ 
def w_X7_isCovered (p0 : Int) (p1 : BitVec 64) (K : Int → Prop) (h : XH) : Prop :=
  ((0 ≤ p0 ∧ p0 < 3926) ∧ ∃ J3 : Int → Prop, (∀ (x2 : Int), rg x2 → J3 x2 → ((x2 = 0 ∨ x2 = 1) ∧ K x2)) ∧ ((¬ (((hL h 60 p0.toNat) &&& ((hL h 60 3925) ^^^ (18446744073709551615#64))) ||| ((hL h 61 p0.toNat) &&& ((hL h 61 3925) ^^^ (18446744073709551615#64)))) &&& (p1 ^^^ (18446744073709551615#64)) = (0#64) → (J3 0)) ∧ (¬ (¬ (((hL h 60 p0.toNat) &&& ((hL h 60 3925) ^^^ (18446744073709551615#64))) ||| ((hL h 61 p0.toNat) &&& ((hL h 61 3925) ^^^ (18446744073709551615#64)))) &&& (p1 ^^^ (18446744073709551615#64)) = (0#64)) → (J3 1))))
set_option maxHeartbeats 4000000 in
theorem a_X7_isCovered {sc : Nat × (Nat → Int32)} {goal : XO → XH → Prop} {fs : List XF} {h : XH} (p0 : Int) (p1 : BitVec 64) {K : Int → Prop} (hd : fs.length + 0 ≤ 1000) (rp0 : rg p0) (w : w_X7_isCovered p0 p1 K h) (t0 : HT h) (k : ∀ (r : Int), rg r → (r = 0 ∨ r = 1) → K r → XFin xP sc goal fs (.inl (some (.int (J r)))) h) : RR sc goal fs 432 0 [some (rv 57), some (.int (J p0)), some (.long (G p1)), none] [] h := by
  unfold w_X7_isCovered at w
  refine r_aldn (pc1 := 1) rfl rfl rfl ?_
  refine r_gfC (pc1 := 4) (q := 60) rfl rfl rfl t0 (lyk t0 rfl) rfl rfl (lyR t0 rfl rfl) ?_
  refine r_n (pc1 := 5) [.int (J p0), rv 60] _ rfl rfl ?_
  obtain ⟨c1, w⟩ := w
  refine r_lal (pc1 := 6) rfl rfl t0 (lyk t0 rfl) rp0 c1.1 (lt_len (lyn t0 rfl) c1.2) ?_
  refine r_aldn (pc1 := 7) rfl rfl rfl ?_
  refine r_gfC (pc1 := 10) (q := 60) rfl rfl rfl t0 (lyk t0 rfl) rfl rfl (lyR t0 rfl rfl) ?_
  refine r_n (pc1 := 13) [.int (J 3925), rv 60, .long (G (hL h 60 p0.toNat))] _ rfl rfl ?_
  refine r_lal (pc1 := 14) rfl rfl t0 (lyk t0 rfl) (rgk rfl) (by decide) (lt_len (lyn t0 rfl) (by decide)) ?_
  refine r_n (pc1 := 17) [.long (G (18446744073709551615#64)), .long (G (hL h 60 3925)), .long (G (hL h 60 p0.toNat))] _ rfl rfl ?_
  refine r_lxor (pc1 := 18) rfl rfl ?_
  refine r_land (pc1 := 19) rfl rfl ?_
  refine r_aldn (pc1 := 20) rfl rfl rfl ?_
  refine r_gfC (pc1 := 23) (q := 61) rfl rfl rfl t0 (lyk t0 rfl) rfl rfl (lyR t0 rfl rfl) ?_
  refine r_n (pc1 := 24) [.int (J p0), rv 61, .long (G ((hL h 60 p0.toNat) &&& ((hL h 60 3925) ^^^ (18446744073709551615#64))))] _ rfl rfl ?_
  refine r_lal (pc1 := 25) rfl rfl t0 (lyk t0 rfl) rp0 c1.1 (lt_len (lyn t0 rfl) c1.2) ?_
  refine r_aldn (pc1 := 26) rfl rfl rfl ?_
  refine r_gfC (pc1 := 29) (q := 61) rfl rfl rfl t0 (lyk t0 rfl) rfl rfl (lyR t0 rfl rfl) ?_
  refine r_n (pc1 := 32) [.int (J 3925), rv 61, .long (G (hL h 61 p0.toNat)), .long (G ((hL h 60 p0.toNat) &&& ((hL h 60 3925) ^^^ (18446744073709551615#64))))] _ rfl rfl ?_
  refine r_lal (pc1 := 33) rfl rfl t0 (lyk t0 rfl) (rgk rfl) (by decide) (lt_len (lyn t0 rfl) (by decide)) ?_
  refine r_n (pc1 := 36) [.long (G (18446744073709551615#64)), .long (G (hL h 61 3925)), .long (G (hL h 61 p0.toNat)), .long (G ((hL h 60 p0.toNat) &&& ((hL h 60 3925) ^^^ (18446744073709551615#64))))] _ rfl rfl ?_
  refine r_lxor (pc1 := 37) rfl rfl ?_
  refine r_land (pc1 := 38) rfl rfl ?_
  refine r_lor (pc1 := 39) rfl rfl ?_
  refine r_n (pc1 := 40) [.long (G p1), .long (G (((hL h 60 p0.toNat) &&& ((hL h 60 3925) ^^^ (18446744073709551615#64))) ||| ((hL h 61 p0.toNat) &&& ((hL h 61 3925) ^^^ (18446744073709551615#64)))))] _ rfl rfl ?_
  refine r_n (pc1 := 43) [.long (G (18446744073709551615#64)), .long (G p1), .long (G (((hL h 60 p0.toNat) &&& ((hL h 60 3925) ^^^ (18446744073709551615#64))) ||| ((hL h 61 p0.toNat) &&& ((hL h 61 3925) ^^^ (18446744073709551615#64)))))] _ rfl rfl ?_
  refine r_lxor (pc1 := 44) rfl rfl ?_
  refine r_land (pc1 := 45) rfl rfl ?_
  refine r_n (pc1 := 46) [.long (G (0#64)), .long (G ((((hL h 60 p0.toNat) &&& ((hL h 60 3925) ^^^ (18446744073709551615#64))) ||| ((hL h 61 p0.toNat) &&& ((hL h 61 3925) ^^^ (18446744073709551615#64)))) &&& (p1 ^^^ (18446744073709551615#64))))] _ rfl rfl ?_
  obtain ⟨J3, j3, w⟩ := w
  have Q3 : ∀ (x2 : Int), rg x2 → J3 x2 → RR sc goal fs 432 55 [some (rv 57), some (.int (J p0)), some (.long (G p1)), none] [.int (J x2)] h := by
    intro x2 rx2 z3
    have w := j3 x2 rx2 z3
    obtain ⟨c4, w⟩ := w
    exact r_retB rfl rfl rfl c4 (k _ rx2 c4 w)
  refine r_lc (pc2 := 47) (t := 54) (pc1 := 50) rfl rfl rfl rfl rfl (fun c5 => ?_) (fun c5 => ?_)
  · have w := w.1 c5
    refine r_n (pc1 := 55) [.int (J 0)] _ rfl rfl ?_
    exact Q3  0  (rgk rfl) w
  · have w := w.2 c5
    refine r_n (pc1 := 51) [.int (J 1)] _ rfl rfl ?_
    refine r_goto (t := 55) rfl rfl ?_
    exact Q3  1  (rgk rfl) w
def w_X7_weigh (p0 : BitVec 64) (K : XH → Prop) (h : XH) : Prop :=
  (∀ h1 : XH, h1 = sI h 57 19 (wr ((hI h 57 19) + (wr ((idiv (hI h 57 19) 16) + 1)))) → HT h1 → HX h h1 → (∃ (I4 : Int → XH → Prop) (m4 : Int → XH → Nat), I4 0 h1 ∧ ∀ (x2 : Int) (h3 : XH), HT h3 → HX h h3 → rg x2 → I4 x2 h3 → (((64 ≤ x2 → (∃ J7 : XH → Prop, (∀ (h6 : XH), HT h6 → HX h h6 → J7 h6 → (K h6)) ∧ ((hI h3 57 19 ≤ 16777216 → J7 h3) ∧ (¬ (hI h3 57 19 ≤ 16777216) → (∀ h8 : XH, h8 = sI h3 57 19 (ishr (hI h3 57 19) 16) → HT h8 → HX h3 h8 → (∃ (I11 : Int → XH → Prop) (m11 : Int → XH → Nat), I11 0 h8 ∧ ∀ (x9 : Int) (h10 : XH), HT h10 → HX h h10 → rg x9 → I11 x9 h10 → (((64 ≤ x9 → J7 h10) ∧ (¬ (64 ≤ x9) → ((0 ≤ x9 ∧ x9 < 64) ∧ ∀ h13 : XH, h13 = sI h10 67 x9.toNat (ishr (hI h10 67 x9.toNat) 16) → HT h13 → HX h10 h13 → ∀ x14 : Int, x14 = wr (x9 + 1) → rg x14 → (I11 x14 h13 ∧ m11 x14 h13 < m11 x9 h10))))))))))) ∧ (¬ (64 ≤ x2) → ((0 ≤ x2 ∧ x2 < 64) ∧ ∃ J19 : Int → Prop, (∀ (x18 : Int), rg x18 → J19 x18 → (∀ h20 : XH, h20 = sI h3 67 x2.toNat (wr ((hI h3 67 x2.toNat) + x18)) → HT h20 → HX h3 h20 → ∀ x21 : Int, x21 = wr (x2 + 1) → rg x21 → (I4 x21 h20 ∧ m4 x21 h20 < m4 x2 h3))) ∧ (((lshr p0 x2) &&& (1#64) = (0#64) → (J19 0)) ∧ (¬ ((lshr p0 x2) &&& (1#64) = (0#64)) → (J19 (hI h3 57 19))))))))))
set_option maxHeartbeats 4000000 in
theorem a_X7_weigh {sc : Nat × (Nat → Int32)} {goal : XO → XH → Prop} {fs : List XF} {h : XH} (p0 : BitVec 64) {K : XH → Prop} (hd : fs.length + 0 ≤ 1000) (w : w_X7_weigh p0 K h) (t0 : HT h) (k : ∀ (h1 : XH), HT h1 → HX h h1 → K h1 → XFin xP sc goal fs (.inl none) h1) : RR sc goal fs 448 0 [some (rv 57), some (.long (G p0)), none, none] [] h := by
  unfold w_X7_weigh at w
  refine r_aldn (pc1 := 1) rfl rfl rfl ?_
  refine r_dupR (pc1 := 2) rfl rfl ?_
  refine r_gfI (pc1 := 5) rfl rfl rfl t0 (lyk t0 rfl) rfl rfl ?_
  refine r_aldn (pc1 := 6) rfl rfl rfl ?_
  refine r_gfI (pc1 := 9) rfl rfl rfl t0 (lyk t0 rfl) rfl rfl ?_
  refine r_n (pc1 := 11) [.int (J 16), .int (J (hI h 57 19)), .int (J (hI h 57 19)), rv 57] _ rfl rfl ?_
  refine r_idiv (pc1 := 12) rfl rfl (rgk rfl) (by decide) ?_
  refine r_n (pc1 := 13) [.int (J 1), .int (J (idiv (hI h 57 19) 16)), .int (J (hI h 57 19)), rv 57] _ rfl rfl ?_
  refine r_iadd (pc1 := 14) rfl rfl ?_
  refine r_iadd (pc1 := 15) rfl rfl ?_
  refine r_pfI (pc1 := 18) rfl rfl rfl t0 (lyk t0 rfl) rfl rfl rfl (fun h1 eh1 t1 u1 => ?_)
  have w := w h1 eh1 t1 u1
  have s1 := HX_trans (HX_refl h) u1
  refine r_n (pc1 := 19) [.int (J 0)] _ rfl rfl ?_
  refine r_istn (pc1 := 20) (ls1 := [some (rv 57), some (.long (G p0)), none, some (.int (J 0))]) rfl rfl rfl rfl ?_
  obtain ⟨I4, m4, w, y4⟩ := w
  have Q4 : ∀ (n : Nat)  (x2 : Int) (h3 : XH), HT h3 → HX h h3 → rg x2 → m4 x2 h3 < n → I4 x2 h3 → RR sc goal fs 448 20 [some (rv 57), some (.long (G p0)), none, some (.int (J x2))] [] h3 := by
    intro n
    induction n with
    | zero => intro x2 h3 t3 s3 rx2 q4 _; exact absurd q4 (Nat.not_lt_zero _)
    | succ n ih4 =>
      intro x2 h3 t3 s3 rx2 q4 z4
      have w := y4 x2 h3 t3 s3 rx2 z4
      refine r_n (pc1 := 21) [.int (J x2)] _ rfl rfl ?_
      refine r_n (pc1 := 23) [.int (J 64), .int (J x2)] _ rfl rfl ?_
      refine r_ic (t := 59) (pc1 := 26) rfl rfl rfl rx2 (rgk rfl) (fun c23 => ?_) (fun c23 => ?_)
      · have w := w.1 c23
        refine r_aldn (pc1 := 60) rfl rfl rfl ?_
        refine r_gfI (pc1 := 63) rfl rfl rfl t3 (lyk t3 rfl) rfl rfl ?_
        refine r_n (pc1 := 65) [.int (J 16777216), .int (J (hI h3 57 19))] _ rfl rfl ?_
        obtain ⟨J7, j7, w⟩ := w
        have Q7 : ∀ (d5 : Option Value) (h6 : XH), HT h6 → HX h h6 → J7 h6 → RR sc goal fs 448 108 [some (rv 57), some (.long (G p0)), none, d5] [] h6 := by
          intro d5 h6 t6 s6 z7
          have w := j7 h6 t6 s6 z7
          exact r_retV rfl rfl rfl (k _ t6 s6 w)
        refine r_ic (t := 108) (pc1 := 68) rfl rfl rfl (rgh _ _ _) (rgk rfl) (fun c16 => ?_) (fun c16 => ?_)
        · have w := w.1 c16
          exact Q7 _  h3 t3 s3  w
        · have w := w.2 c16
          refine r_aldn (pc1 := 69) rfl rfl rfl ?_
          refine r_aldn (pc1 := 70) rfl rfl rfl ?_
          refine r_gfI (pc1 := 73) rfl rfl rfl t3 (lyk t3 rfl) rfl rfl ?_
          refine r_n (pc1 := 75) [.int (J 16), .int (J (hI h3 57 19)), rv 57] _ rfl rfl ?_
          refine r_ishr (pc1 := 76) rfl rfl ?_
          refine r_pfI (pc1 := 79) rfl rfl rfl t3 (lyk t3 rfl) rfl rfl rfl (fun h8 eh8 t8 u8 => ?_)
          have w := w h8 eh8 t8 u8
          have s8 := HX_trans s3 u8
          refine r_n (pc1 := 80) [.int (J 0)] _ rfl rfl ?_
          refine r_istn (pc1 := 81) (ls1 := [some (rv 57), some (.long (G p0)), none, some (.int (J 0))]) rfl rfl rfl rfl ?_
          obtain ⟨I11, m11, w, y11⟩ := w
          have Q11 : ∀ (n : Nat)  (x9 : Int) (h10 : XH), HT h10 → HX h h10 → rg x9 → m11 x9 h10 < n → I11 x9 h10 → RR sc goal fs 448 81 [some (rv 57), some (.long (G p0)), none, some (.int (J x9))] [] h10 := by
            intro n
            induction n with
            | zero => intro x9 h10 t10 s10 rx9 q11 _; exact absurd q11 (Nat.not_lt_zero _)
            | succ n ih11 =>
              intro x9 h10 t10 s10 rx9 q11 z11
              have w := y11 x9 h10 t10 s10 rx9 z11
              refine r_n (pc1 := 82) [.int (J x9)] _ rfl rfl ?_
              refine r_n (pc1 := 84) [.int (J 64), .int (J x9)] _ rfl rfl ?_
              refine r_ic (t := 108) (pc1 := 87) rfl rfl rfl rx9 (rgk rfl) (fun c15 => ?_) (fun c15 => ?_)
              · have w := w.1 c15
                exact Q7 _  h10 t10 s10  w
              · have w := w.2 c15
                refine r_aldn (pc1 := 88) rfl rfl rfl ?_
                refine r_gfC (pc1 := 91) (q := 67) rfl rfl rfl t10 (lyk t10 rfl) rfl rfl (lyR t10 rfl rfl) ?_
                refine r_n (pc1 := 92) [.int (J x9), rv 67] _ rfl rfl ?_
                refine r_aldn (pc1 := 93) rfl rfl rfl ?_
                refine r_gfC (pc1 := 96) (q := 67) rfl rfl rfl t10 (lyk t10 rfl) rfl rfl (lyR t10 rfl rfl) ?_
                refine r_n (pc1 := 97) [.int (J x9), rv 67, .int (J x9), rv 67] _ rfl rfl ?_
                obtain ⟨c12, w⟩ := w
                refine r_ial (pc1 := 98) rfl rfl t10 (lyk t10 rfl) rx9 c12.1 (lt_len (lyn t10 rfl) c12.2) ?_
                refine r_n (pc1 := 100) [.int (J 16), .int (J (hI h10 67 x9.toNat)), .int (J x9), rv 67] _ rfl rfl ?_
                refine r_ishr (pc1 := 101) rfl rfl ?_
                refine r_iast (pc1 := 102) rfl rfl t10 (lyk t10 rfl) rx9 c12.1 (lt_len (lyn t10 rfl) c12.2) (fun h13 eh13 t13 u13 => ?_)
                have w := w h13 eh13 t13 u13
                have s13 := HX_trans s10 u13
                refine r_inc (pc1 := 105) (g := fun zz => [some (rv 57), some (.long (G p0)), none, some (.int (J zz))]) rfl rfl rfl rfl (fun _ => rfl) (fun x14 ex14 rx14 => ?_)
                have w := w x14 ex14 rx14
                refine r_goto (t := 81) rfl rfl ?_
                exact ih11  x14 h13 t13 s13 rx14 (Nat.lt_of_lt_of_le w.2 (Nat.le_of_lt_succ q11)) w.1
          exact Q11 _  0 h8 t8 s8 (rgk rfl) (Nat.lt_succ_self _) w
      · have w := w.2 c23
        refine r_aldn (pc1 := 27) rfl rfl rfl ?_
        refine r_gfC (pc1 := 30) (q := 67) rfl rfl rfl t3 (lyk t3 rfl) rfl rfl (lyR t3 rfl rfl) ?_
        refine r_n (pc1 := 31) [.int (J x2), rv 67] _ rfl rfl ?_
        refine r_dup2 (pc1 := 32) rfl rfl ?_
        obtain ⟨c17, w⟩ := w
        refine r_ial (pc1 := 33) rfl rfl t3 (lyk t3 rfl) rx2 c17.1 (lt_len (lyn t3 rfl) c17.2) ?_
        refine r_n (pc1 := 34) [.long (G p0), .int (J (hI h3 67 x2.toNat)), .int (J x2), rv 67] _ rfl rfl ?_
        refine r_n (pc1 := 35) [.int (J x2), .long (G p0), .int (J (hI h3 67 x2.toNat)), .int (J x2), rv 67] _ rfl rfl ?_
        refine r_lshr (pc1 := 36) rfl rfl ?_
        refine r_n (pc1 := 37) [.long (G (1#64)), .long (G (lshr p0 x2)), .int (J (hI h3 67 x2.toNat)), .int (J x2), rv 67] _ rfl rfl ?_
        refine r_land (pc1 := 38) rfl rfl ?_
        refine r_n (pc1 := 39) [.long (G (0#64)), .long (G ((lshr p0 x2) &&& (1#64))), .int (J (hI h3 67 x2.toNat)), .int (J x2), rv 67] _ rfl rfl ?_
        obtain ⟨J19, j19, w⟩ := w
        have Q19 : ∀ (x18 : Int), rg x18 → J19 x18 → RR sc goal fs 448 51 [some (rv 57), some (.long (G p0)), none, some (.int (J x2))] [.int (J x18), .int (J (hI h3 67 x2.toNat)), .int (J x2), rv 67] h3 := by
          intro x18 rx18 z19
          have w := j19 x18 rx18 z19
          refine r_iadd (pc1 := 52) rfl rfl ?_
          refine r_iast (pc1 := 53) rfl rfl t3 (lyk t3 rfl) rx2 c17.1 (lt_len (lyn t3 rfl) c17.2) (fun h20 eh20 t20 u20 => ?_)
          have w := w h20 eh20 t20 u20
          have s20 := HX_trans s3 u20
          refine r_inc (pc1 := 56) (g := fun zz => [some (rv 57), some (.long (G p0)), none, some (.int (J zz))]) rfl rfl rfl rfl (fun _ => rfl) (fun x21 ex21 rx21 => ?_)
          have w := w x21 ex21 rx21
          refine r_goto (t := 20) rfl rfl ?_
          exact ih4  x21 h20 t20 s20 rx21 (Nat.lt_of_lt_of_le w.2 (Nat.le_of_lt_succ q4)) w.1
        refine r_lc (pc2 := 40) (t := 50) (pc1 := 43) rfl rfl rfl rfl rfl (fun c22 => ?_) (fun c22 => ?_)
        · have w := w.1 c22
          refine r_n (pc1 := 51) [.int (J 0), .int (J (hI h3 67 x2.toNat)), .int (J x2), rv 67] _ rfl rfl ?_
          exact Q19  0  (rgk rfl) w
        · have w := w.2 c22
          refine r_aldn (pc1 := 44) rfl rfl rfl ?_
          refine r_gfI (pc1 := 47) rfl rfl rfl t3 (lyk t3 rfl) rfl rfl ?_
          refine r_goto (t := 51) rfl rfl ?_
          exact Q19  (hI h3 57 19)  (rgh _ _ _) w
  exact Q4 _  0 h1 t1 s1 (rgk rfl) (Nat.lt_succ_self _) w
def w_X7_trace (p0 : Int) (K : XH → Prop) (h : XH) : Prop :=
  (∀ h1 : XH, h1 = sL h 61 3924 ((hL h 57 9) &&& (18442240474082181120#64)) → HT h1 → HX h h1 → ∀ h2 : XH, h2 = sL h1 60 3925 (0#64) → HT h2 → HX h1 h2 → ∀ h3 : XH, h3 = sL h2 61 3925 (0#64) → HT h3 → HX h2 h3 → w_X7_join p0 (0#64) (fun b4 h5 => HT h5 → HX h3 h5 → (w_J13_bitCount_95d88 ((hL h5 57 9) ||| (hL h5 57 10)) (fun x6 => rg x6 → (∀ x7 : Int, x7 = wr (x6 - 1) → rg x7 → (∃ (I18 : BitVec 64 → Int → Int → XH → Prop) (m18 : BitVec 64 → Int → Int → XH → Nat), I18 b4 0 x7 h5 ∧ ∀ (b9 : BitVec 64) (x10 : Int) (x11 : Int) (h17 : XH), HT h17 → HX h h17 → rg x10 → rg x11 → I18 b9 x10 x11 h17 → (((x11 < 0 → (w_X7_weigh b9 (fun h19 => HT h19 → HX h17 h19 → (K h19)) h17)) ∧ (¬ (x11 < 0) → ((0 ≤ x11 ∧ x11 < 64) ∧ ∀ b21 : BitVec 64, b21 = lshl (1#64) (irem (hI h17 63 x11.toNat) 64) → ∀ x22 : Int, x22 = irem (hI h17 63 x11.toNat) 64 → rg x22 → (0 ≤ x22 ∧ x22 < 64) ∧ ∀ x24 : Int, x24 = hI h17 64 x22.toNat → rg x24 → ∀ b25 : BitVec 64, b25 = (hL h17 60 3925) ||| (hL h17 61 3925) → ∃ J27 : Int → Prop, (∀ (x26 : Int), rg x26 → J27 x26 → (∃ J31 : BitVec 64 → XH → Prop, (∀ (b29 : BitVec 64) (h30 : XH), HT h30 → HX h h30 → J31 b29 h30 → (∀ x32 : Int, x32 = wr (x11 + (-1)) → rg x32 → (I18 b29 x26 x32 h30 ∧ m18 b29 x26 x32 h30 < m18 b9 x10 x11 h17))) ∧ ((x24 = (-1) → J31 b9 h17) ∧ (¬ (x24 = (-1)) → (((b25 &&& b21 = (0#64) → J31 b9 h17) ∧ (¬ (b25 &&& b21 = (0#64)) → (∃ J33 : Prop, (J33 → (w_X7_join x24 b21 (fun b34 h35 => HT h35 → HX h17 h35 → (∀ b36 : BitVec 64, b36 = b9 ||| b34 → J31 b36 h35)) h17)) ∧ ((x26 = 0 → J33) ∧ (¬ (x26 = 0) → (w_X7_isCovered x24 b21 (fun x37 => rg x37 → (x37 = 0 ∨ x37 = 1) → (((x37 = 0 → J31 b9 h17) ∧ (¬ (x37 = 0) → J33)))) h17))))))))))) ∧ ∃ J42 : Prop, (J42 → (J27 1)) ∧ ((¬ x10 = 0 → J42) ∧ (¬ (¬ x10 = 0) → (∃ J43 : Prop, (J43 → (J27 0)) ∧ ((hI h17 57 11 ≤ 1 → J43) ∧ (¬ (hI h17 57 11 ≤ 1) → (∀ x44 : Int, x44 = hI h17 57 11 → rg x44 → (0 ≤ x44 ∧ x44 < 66) ∧ w_J13_bitCount_95d88 (b25 &&& (hL h17 62 x44.toNat)) (fun x46 => rg x46 → (((¬ x46 = 1 → J43) ∧ (¬ (¬ x46 = 1) → J42)))) h17))))))))))))) h5)) h3)
set_option maxHeartbeats 4000000 in
theorem a_X7_trace {sc : Nat × (Nat → Int32)} {goal : XO → XH → Prop} {fs : List XF} {h : XH} (p0 : Int) {K : XH → Prop} (hd : fs.length + 1 ≤ 1000) (rp0 : rg p0) (w : w_X7_trace p0 K h) (t0 : HT h) (k : ∀ (h1 : XH), HT h1 → HX h h1 → K h1 → XFin xP sc goal fs (.inl none) h1) : RR sc goal fs 444 0 [some (rv 57), some (.int (J p0)), none, none, none, none, none, none, none, none, none] [] h := by
  unfold w_X7_trace at w
  refine r_aldn (pc1 := 1) rfl rfl rfl ?_
  refine r_gfC (pc1 := 4) (q := 61) rfl rfl rfl t0 (lyk t0 rfl) rfl rfl (lyR t0 rfl rfl) ?_
  refine r_n (pc1 := 7) [.int (J 3924), rv 61] _ rfl rfl ?_
  refine r_aldn (pc1 := 8) rfl rfl rfl ?_
  refine r_gfL (pc1 := 11) rfl rfl rfl t0 (lyk t0 rfl) rfl rfl ?_
  refine r_n (pc1 := 14) [.long (G (18442240474082181120#64)), .long (G (hL h 57 9)), .int (J 3924), rv 61] _ rfl rfl ?_
  refine r_land (pc1 := 15) rfl rfl ?_
  refine r_last (pc1 := 16) rfl rfl t0 (lyk t0 rfl) (rgk rfl) (by decide) (lt_len (lyn t0 rfl) (by decide)) (fun h1 eh1 t1 u1 => ?_)
  have w := w h1 eh1 t1 u1
  have s1 := HX_trans (HX_refl h) u1
  refine r_aldn (pc1 := 17) rfl rfl rfl ?_
  refine r_gfC (pc1 := 20) (q := 60) rfl rfl rfl t1 (lyk t1 rfl) rfl rfl (lyR t1 rfl rfl) ?_
  refine r_n (pc1 := 23) [.int (J 3925), rv 60] _ rfl rfl ?_
  refine r_n (pc1 := 24) [.long (G (0#64)), .int (J 3925), rv 60] _ rfl rfl ?_
  refine r_last (pc1 := 25) rfl rfl t1 (lyk t1 rfl) (rgk rfl) (by decide) (lt_len (lyn t1 rfl) (by decide)) (fun h2 eh2 t2 u2 => ?_)
  have w := w h2 eh2 t2 u2
  have s2 := HX_trans s1 u2
  refine r_aldn (pc1 := 26) rfl rfl rfl ?_
  refine r_gfC (pc1 := 29) (q := 61) rfl rfl rfl t2 (lyk t2 rfl) rfl rfl (lyR t2 rfl rfl) ?_
  refine r_n (pc1 := 32) [.int (J 3925), rv 61] _ rfl rfl ?_
  refine r_n (pc1 := 33) [.long (G (0#64)), .int (J 3925), rv 61] _ rfl rfl ?_
  refine r_last (pc1 := 34) rfl rfl t2 (lyk t2 rfl) (rgk rfl) (by decide) (lt_len (lyn t2 rfl) (by decide)) (fun h3 eh3 t3 u3 => ?_)
  have w := w h3 eh3 t3 u3
  have s3 := HX_trans s2 u3
  refine r_aldn (pc1 := 35) rfl rfl rfl ?_
  refine r_n (pc1 := 36) [.int (J p0), rv 57] _ rfl rfl ?_
  refine r_n (pc1 := 37) [.long (G (0#64)), .int (J p0), rv 57] _ rfl rfl ?_
  refine r_iv rfl rfl rfl rfl rfl rfl t3 (lyk t3 rfl) rfl (xe_of (xa_r (xa_i (xa_l xa_0))) rfl rfl) (r_d0 hd rfl) (a_X7_join p0 (0#64) (r_d1 hd rfl) rp0 w t3 (fun b4 h5 t5 u5 w => ?_))
  refine r_fL (pc1 := 40) rfl ?_
  have s5 := HX_trans s3 u5
  have w := w t5 u5
  refine r_lstn (pc1 := 41) (ls1 := [some (rv 57), some (.int (J p0)), some (.long (G b4)), none, none, none, none, none, none, none, none]) rfl rfl rfl rfl ?_
  refine r_n (pc1 := 42) [.int (J 0)] _ rfl rfl ?_
  refine r_ist (pc1 := 44) (ls1 := [some (rv 57), some (.int (J p0)), some (.long (G b4)), none, some (.int (J 0)), none, none, none, none, none, none]) rfl rfl rfl rfl ?_
  refine r_aldn (pc1 := 45) rfl rfl rfl ?_
  refine r_gfL (pc1 := 48) rfl rfl rfl t5 (lyk t5 rfl) rfl rfl ?_
  refine r_aldn (pc1 := 49) rfl rfl rfl ?_
  refine r_gfL (pc1 := 52) rfl rfl rfl t5 (lyk t5 rfl) rfl rfl ?_
  refine r_lor (pc1 := 53) rfl rfl ?_
  refine r_iq rfl rfl rfl rfl rfl rfl (xe_of (xa_l xa_0) rfl rfl) (r_d0 hd rfl) (a_J13_bitCount_95d88 ((hL h5 57 9) ||| (hL h5 57 10)) (r_d1 hd rfl)  w t5 (fun x6 rx6 w => ?_))
  refine r_fI (pc1 := 56) rfl ?_
  have w := w rx6
  refine r_n (pc1 := 57) [.int (J 1), .int (J x6)] _ rfl rfl ?_
  refine r_isub (pc1 := 58) rfl rfl ?_
  refine r_vI (rgw _) (fun x7 ex7 rx7 => ?_)
  have w := w x7 ex7 rx7
  refine r_ist (pc1 := 60) (ls1 := [some (rv 57), some (.int (J p0)), some (.long (G b4)), none, some (.int (J 0)), some (.int (J x7)), none, none, none, none, none]) rfl rfl rfl rfl ?_
  obtain ⟨I18, m18, w, y18⟩ := w
  have Q18 : ∀ (n : Nat) (d8 : Option Value) (d12 : Option Value) (d13 : Option Value) (d14 : Option Value) (d15 : Option Value) (d16 : Option Value) (b9 : BitVec 64) (x10 : Int) (x11 : Int) (h17 : XH), HT h17 → HX h h17 → rg x10 → rg x11 → m18 b9 x10 x11 h17 < n → I18 b9 x10 x11 h17 → RR sc goal fs 444 60 [some (rv 57), d8, some (.long (G b9)), none, some (.int (J x10)), some (.int (J x11)), d12, d13, d14, d15, d16] [] h17 := by
    intro n
    induction n with
    | zero => intro d8 d12 d13 d14 d15 d16 b9 x10 x11 h17 t17 s17 rx10 rx11 q18 _; exact absurd q18 (Nat.not_lt_zero _)
    | succ n ih18 =>
      intro d8 d12 d13 d14 d15 d16 b9 x10 x11 h17 t17 s17 rx10 rx11 q18 z18
      have w := y18 b9 x10 x11 h17 t17 s17 rx10 rx11 z18
      refine r_n (pc1 := 62) [.int (J x11)] _ rfl rfl ?_
      refine r_iz (t := 203) (pc1 := 65) rfl rfl rfl rx11 (fun c50 => ?_) (fun c50 => ?_)
      · have w := w.1 c50
        refine r_aldn (pc1 := 204) rfl rfl rfl ?_
        refine r_n (pc1 := 205) [.long (G b9), rv 57] _ rfl rfl ?_
        refine r_iv rfl rfl rfl rfl rfl rfl t17 (lyk t17 rfl) rfl (xe_of (xa_r (xa_l xa_0)) rfl rfl) (r_d0 hd rfl) (a_X7_weigh b9 (r_d1 hd rfl)  w t17 (fun h19 t19 u19 w => ?_))
        refine r_fV (pc1 := 208) rfl ?_
        have s19 := HX_trans s17 u19
        have w := w t19 u19
        exact r_retV rfl rfl rfl (k _ t19 s19 w)
      · have w := w.2 c50
        refine r_n (pc1 := 66) [.long (G (1#64))] _ rfl rfl ?_
        refine r_aldn (pc1 := 67) rfl rfl rfl ?_
        refine r_gfC (pc1 := 70) (q := 63) rfl rfl rfl t17 (lyk t17 rfl) rfl rfl (lyR t17 rfl rfl) ?_
        refine r_n (pc1 := 72) [.int (J x11), rv 63, .long (G (1#64))] _ rfl rfl ?_
        obtain ⟨c20, w⟩ := w
        refine r_ial (pc1 := 73) rfl rfl t17 (lyk t17 rfl) rx11 c20.1 (lt_len (lyn t17 rfl) c20.2) ?_
        refine r_n (pc1 := 75) [.int (J 64), .int (J (hI h17 63 x11.toNat)), .long (G (1#64))] _ rfl rfl ?_
        refine r_irem (pc1 := 76) rfl rfl (rgk rfl) (by decide) ?_
        refine r_lshl (pc1 := 77) rfl rfl ?_
        refine r_vL (fun b21 eb21 => ?_)
        have w := w b21 eb21
        refine r_lst (pc1 := 79) (ls1 := [some (rv 57), d8, some (.long (G b9)), none, some (.int (J x10)), some (.int (J x11)), some (.long (G b21)), none, d14, d15, d16]) rfl rfl rfl rfl ?_
        refine r_aldn (pc1 := 80) rfl rfl rfl ?_
        refine r_gfC (pc1 := 83) (q := 64) rfl rfl rfl t17 (lyk t17 rfl) rfl rfl (lyR t17 rfl rfl) ?_
        refine r_aldn (pc1 := 84) rfl rfl rfl ?_
        refine r_gfC (pc1 := 87) (q := 63) rfl rfl rfl t17 (lyk t17 rfl) rfl rfl (lyR t17 rfl rfl) ?_
        refine r_n (pc1 := 89) [.int (J x11), rv 63, rv 64] _ rfl rfl ?_
        refine r_ial (pc1 := 90) rfl rfl t17 (lyk t17 rfl) rx11 c20.1 (lt_len (lyn t17 rfl) c20.2) ?_
        refine r_n (pc1 := 92) [.int (J 64), .int (J (hI h17 63 x11.toNat)), rv 64] _ rfl rfl ?_
        refine r_irem (pc1 := 93) rfl rfl (rgk rfl) (by decide) ?_
        refine r_vI (rgt _) (fun x22 ex22 rx22 => ?_)
        have w := w x22 ex22 rx22
        obtain ⟨c23, w⟩ := w
        refine r_ial (pc1 := 94) rfl rfl t17 (lyk t17 rfl) rx22 c23.1 (lt_len (lyn t17 rfl) c23.2) ?_
        refine r_vI (rgh _ _ _) (fun x24 ex24 rx24 => ?_)
        have w := w x24 ex24 rx24
        refine r_ist (pc1 := 96) (ls1 := [some (rv 57), d8, some (.long (G b9)), none, some (.int (J x10)), some (.int (J x11)), some (.long (G b21)), none, some (.int (J x24)), d15, d16]) rfl rfl rfl rfl ?_
        refine r_aldn (pc1 := 97) rfl rfl rfl ?_
        refine r_gfC (pc1 := 100) (q := 60) rfl rfl rfl t17 (lyk t17 rfl) rfl rfl (lyR t17 rfl rfl) ?_
        refine r_n (pc1 := 103) [.int (J 3925), rv 60] _ rfl rfl ?_
        refine r_lal (pc1 := 104) rfl rfl t17 (lyk t17 rfl) (rgk rfl) (by decide) (lt_len (lyn t17 rfl) (by decide)) ?_
        refine r_aldn (pc1 := 105) rfl rfl rfl ?_
        refine r_gfC (pc1 := 108) (q := 61) rfl rfl rfl t17 (lyk t17 rfl) rfl rfl (lyR t17 rfl rfl) ?_
        refine r_n (pc1 := 111) [.int (J 3925), rv 61, .long (G (hL h17 60 3925))] _ rfl rfl ?_
        refine r_lal (pc1 := 112) rfl rfl t17 (lyk t17 rfl) (rgk rfl) (by decide) (lt_len (lyn t17 rfl) (by decide)) ?_
        refine r_lor (pc1 := 113) rfl rfl ?_
        refine r_vL (fun b25 eb25 => ?_)
        have w := w b25 eb25
        refine r_lst (pc1 := 115) (ls1 := [some (rv 57), d8, some (.long (G b9)), none, some (.int (J x10)), some (.int (J x11)), some (.long (G b21)), none, some (.int (J x24)), some (.long (G b25)), none]) rfl rfl rfl rfl ?_
        refine r_n (pc1 := 117) [.int (J x10)] _ rfl rfl ?_
        obtain ⟨J27, j27, w⟩ := w
        have Q27 : ∀ (x26 : Int), rg x26 → J27 x26 → RR sc goal fs 444 152 [some (rv 57), d8, some (.long (G b9)), none, some (.int (J x10)), some (.int (J x11)), some (.long (G b21)), none, some (.int (J x24)), some (.long (G b25)), none] [.int (J x26)] h17 := by
          intro x26 rx26 z27
          have w := j27 x26 rx26 z27
          refine r_ist (pc1 := 154) (ls1 := [some (rv 57), d8, some (.long (G b9)), none, some (.int (J x26)), some (.int (J x11)), some (.long (G b21)), none, some (.int (J x24)), some (.long (G b25)), none]) rfl rfl rfl rfl ?_
          refine r_n (pc1 := 156) [.int (J x24)] _ rfl rfl ?_
          refine r_n (pc1 := 157) [.int (J (-1)), .int (J x24)] _ rfl rfl ?_
          obtain ⟨J31, j31, w⟩ := w
          have Q31 : ∀ (d28 : Option Value) (b29 : BitVec 64) (h30 : XH), HT h30 → HX h h30 → J31 b29 h30 → RR sc goal fs 444 197 [some (rv 57), d28, some (.long (G b29)), none, some (.int (J x26)), some (.int (J x11)), some (.long (G b21)), none, some (.int (J x24)), some (.long (G b25)), none] [] h30 := by
            intro d28 b29 h30 t30 s30 z31
            have w := j31 b29 h30 t30 s30 z31
            refine r_inc (pc1 := 200) (g := fun zz => [some (rv 57), d28, some (.long (G b29)), none, some (.int (J x26)), some (.int (J zz)), some (.long (G b21)), none, some (.int (J x24)), some (.long (G b25)), none]) rfl rfl rfl rfl (fun _ => rfl) (fun x32 ex32 rx32 => ?_)
            have w := w x32 ex32 rx32
            refine r_goto (t := 60) rfl rfl ?_
            exact ih18 _ _ _ _ _ _ b29 x26 x32 h30 t30 s30 rx26 rx32 (Nat.lt_of_lt_of_le w.2 (Nat.le_of_lt_succ q18)) w.1
          refine r_ic (t := 197) (pc1 := 160) rfl rfl rfl rx24 (rgk rfl) (fun c41 => ?_) (fun c41 => ?_)
          · have w := w.1 c41
            exact Q31 _ b9 h17 t17 s17  w
          · have w := w.2 c41
            refine r_n (pc1 := 162) [.long (G b25)] _ rfl rfl ?_
            refine r_n (pc1 := 164) [.long (G b21), .long (G b25)] _ rfl rfl ?_
            refine r_land (pc1 := 165) rfl rfl ?_
            refine r_n (pc1 := 166) [.long (G (0#64)), .long (G (b25 &&& b21))] _ rfl rfl ?_
            refine r_lc (pc2 := 167) (t := 197) (pc1 := 170) rfl rfl rfl rfl rfl (fun c40 => ?_) (fun c40 => ?_)
            · have w := w.1 c40
              exact Q31 _ b9 h17 t17 s17  w
            · have w := w.2 c40
              refine r_n (pc1 := 172) [.int (J x26)] _ rfl rfl ?_
              obtain ⟨J33, j33, w⟩ := w
              have Q33 : J33 → RR sc goal fs 444 186 [some (rv 57), d8, some (.long (G b9)), none, some (.int (J x26)), some (.int (J x11)), some (.long (G b21)), none, some (.int (J x24)), some (.long (G b25)), none] [] h17 := by
                intro z33
                have w := j33 z33
                refine r_n (pc1 := 187) [.long (G b9)] _ rfl rfl ?_
                refine r_aldn (pc1 := 188) rfl rfl rfl ?_
                refine r_n (pc1 := 190) [.int (J x24), rv 57, .long (G b9)] _ rfl rfl ?_
                refine r_n (pc1 := 192) [.long (G b21), .int (J x24), rv 57, .long (G b9)] _ rfl rfl ?_
                refine r_iv rfl rfl rfl rfl rfl rfl t17 (lyk t17 rfl) rfl (xe_of (xa_r (xa_i (xa_l xa_0))) rfl rfl) (r_d0 hd rfl) (a_X7_join x24 b21 (r_d1 hd rfl) rx24 w t17 (fun b34 h35 t35 u35 w => ?_))
                refine r_fL (pc1 := 195) rfl ?_
                have s35 := HX_trans s17 u35
                have w := w t35 u35
                refine r_lor (pc1 := 196) rfl rfl ?_
                refine r_vL (fun b36 eb36 => ?_)
                have w := w b36 eb36
                refine r_lstn (pc1 := 197) (ls1 := [some (rv 57), (dcl d8), some (.long (G b36)), none, some (.int (J x26)), some (.int (J x11)), some (.long (G b21)), none, some (.int (J x24)), some (.long (G b25)), none]) rfl rfl rfl (xput2_d rfl rfl) ?_
                exact Q31 _ b36 h35 t35 s35  w
              refine r_iz (t := 186) (pc1 := 175) rfl rfl rfl rx26 (fun c39 => ?_) (fun c39 => ?_)
              · have w := w.1 c39
                exact Q33     w
              · have w := w.2 c39
                refine r_aldn (pc1 := 176) rfl rfl rfl ?_
                refine r_n (pc1 := 178) [.int (J x24), rv 57] _ rfl rfl ?_
                refine r_n (pc1 := 180) [.long (G b21), .int (J x24), rv 57] _ rfl rfl ?_
                refine r_iv rfl rfl rfl rfl rfl rfl t17 (lyk t17 rfl) rfl (xe_of (xa_r (xa_i (xa_l xa_0))) rfl rfl) (r_d0 hd rfl) (a_X7_isCovered x24 b21 (r_d1 hd rfl) rx24 w t17 (fun x37 rx37 vx37 w => ?_))
                refine r_fI (pc1 := 183) rfl ?_
                have w := w rx37 vx37
                refine r_iz (t := 197) (pc1 := 186) rfl rfl rfl rx37 (fun c38 => ?_) (fun c38 => ?_)
                · have w := w.1 c38
                  exact Q31 _ b9 h17 t17 s17  w
                · have w := w.2 c38
                  exact Q33     w
        obtain ⟨J42, j42, w⟩ := w
        have Q42 : J42 → RR sc goal fs 444 147 [some (rv 57), d8, some (.long (G b9)), none, some (.int (J x10)), some (.int (J x11)), some (.long (G b21)), none, some (.int (J x24)), some (.long (G b25)), none] [] h17 := by
          intro z42
          have w := j42 z42
          refine r_n (pc1 := 148) [.int (J 1)] _ rfl rfl ?_
          refine r_goto (t := 152) rfl rfl ?_
          exact Q27  1  (rgk rfl) w
        refine r_iz (t := 147) (pc1 := 120) rfl rfl rfl rx10 (fun c49 => ?_) (fun c49 => ?_)
        · have w := w.1 c49
          exact Q42     w
        · have w := w.2 c49
          refine r_aldn (pc1 := 121) rfl rfl rfl ?_
          refine r_gfI (pc1 := 124) rfl rfl rfl t17 (lyk t17 rfl) rfl rfl ?_
          refine r_n (pc1 := 125) [.int (J 1), .int (J (hI h17 57 11))] _ rfl rfl ?_
          obtain ⟨J43, j43, w⟩ := w
          have Q43 : J43 → RR sc goal fs 444 151 [some (rv 57), d8, some (.long (G b9)), none, some (.int (J x10)), some (.int (J x11)), some (.long (G b21)), none, some (.int (J x24)), some (.long (G b25)), none] [] h17 := by
            intro z43
            have w := j43 z43
            refine r_n (pc1 := 152) [.int (J 0)] _ rfl rfl ?_
            exact Q27  0  (rgk rfl) w
          refine r_ic (t := 151) (pc1 := 128) rfl rfl rfl (rgh _ _ _) (rgk rfl) (fun c48 => ?_) (fun c48 => ?_)
          · have w := w.1 c48
            exact Q43     w
          · have w := w.2 c48
            refine r_n (pc1 := 130) [.long (G b25)] _ rfl rfl ?_
            refine r_aldn (pc1 := 131) rfl rfl rfl ?_
            refine r_gfC (pc1 := 134) (q := 62) rfl rfl rfl t17 (lyk t17 rfl) rfl rfl (lyR t17 rfl rfl) ?_
            refine r_aldn (pc1 := 135) rfl rfl rfl ?_
            refine r_gfI (pc1 := 138) rfl rfl rfl t17 (lyk t17 rfl) rfl rfl ?_
            refine r_vI (rgh _ _ _) (fun x44 ex44 rx44 => ?_)
            have w := w x44 ex44 rx44
            obtain ⟨c45, w⟩ := w
            refine r_lal (pc1 := 139) rfl rfl t17 (lyk t17 rfl) rx44 c45.1 (lt_len (lyn t17 rfl) c45.2) ?_
            refine r_land (pc1 := 140) rfl rfl ?_
            refine r_iq rfl rfl rfl rfl rfl rfl (xe_of (xa_l xa_0) rfl rfl) (r_d0 hd rfl) (a_J13_bitCount_95d88 (b25 &&& (hL h17 62 x44.toNat)) (r_d1 hd rfl)  w t17 (fun x46 rx46 w => ?_))
            refine r_fI (pc1 := 143) rfl ?_
            have w := w rx46
            refine r_n (pc1 := 144) [.int (J 1), .int (J x46)] _ rfl rfl ?_
            refine r_ic (t := 151) (pc1 := 147) rfl rfl rfl rx46 (rgk rfl) (fun c47 => ?_) (fun c47 => ?_)
            · have w := w.1 c47
              exact Q43     w
            · have w := w.2 c47
              exact Q42     w
  exact Q18 _ _ _ _ _ _ _ b4 0 x7 h5 t5 s5 (rgk rfl) rx7 (Nat.lt_succ_self _) w
def w_X7_levelBelow  (K : Int → Prop) (h : XH) : Prop :=
  (∀ b1 : BitVec 64, b1 = (hL h 60 3925) ||| (hL h 61 3925) → ∀ x2 : Int, x2 = wr ((hI h 57 11) - 1) → rg x2 → (∃ (I4 : Int → Prop) (m4 : Int → Nat), I4 x2 ∧ ∀ (x3 : Int), rg x3 → I4 x3 → (∃ J5 : Prop, (J5 → (K x3)) ∧ ((x3 ≤ 0 → J5) ∧ (¬ (x3 ≤ 0) → ((0 ≤ x3 ∧ x3 < 66) ∧ ((¬ b1 &&& (hL h 62 x3.toNat) = (0#64) → J5) ∧ (¬ (¬ b1 &&& (hL h 62 x3.toNat) = (0#64)) → (∀ x7 : Int, x7 = wr (x3 + (-1)) → rg x7 → (I4 x7 ∧ m4 x7 < m4 x3))))))))))
set_option maxHeartbeats 4000000 in
theorem a_X7_levelBelow {sc : Nat × (Nat → Int32)} {goal : XO → XH → Prop} {fs : List XF} {h : XH}  {K : Int → Prop} (hd : fs.length + 0 ≤ 1000) (w : w_X7_levelBelow  K h) (t0 : HT h) (k : ∀ (r : Int), rg r → K r → XFin xP sc goal fs (.inl (some (.int (J r)))) h) : RR sc goal fs 436 0 [some (rv 57), none, none, none] [] h := by
  unfold w_X7_levelBelow at w
  refine r_aldn (pc1 := 1) rfl rfl rfl ?_
  refine r_gfC (pc1 := 4) (q := 60) rfl rfl rfl t0 (lyk t0 rfl) rfl rfl (lyR t0 rfl rfl) ?_
  refine r_n (pc1 := 7) [.int (J 3925), rv 60] _ rfl rfl ?_
  refine r_lal (pc1 := 8) rfl rfl t0 (lyk t0 rfl) (rgk rfl) (by decide) (lt_len (lyn t0 rfl) (by decide)) ?_
  refine r_aldn (pc1 := 9) rfl rfl rfl ?_
  refine r_gfC (pc1 := 12) (q := 61) rfl rfl rfl t0 (lyk t0 rfl) rfl rfl (lyR t0 rfl rfl) ?_
  refine r_n (pc1 := 15) [.int (J 3925), rv 61, .long (G (hL h 60 3925))] _ rfl rfl ?_
  refine r_lal (pc1 := 16) rfl rfl t0 (lyk t0 rfl) (rgk rfl) (by decide) (lt_len (lyn t0 rfl) (by decide)) ?_
  refine r_lor (pc1 := 17) rfl rfl ?_
  refine r_vL (fun b1 eb1 => ?_)
  have w := w b1 eb1
  refine r_lstn (pc1 := 18) (ls1 := [some (rv 57), some (.long (G b1)), none, none]) rfl rfl rfl rfl ?_
  refine r_aldn (pc1 := 19) rfl rfl rfl ?_
  refine r_gfI (pc1 := 22) rfl rfl rfl t0 (lyk t0 rfl) rfl rfl ?_
  refine r_n (pc1 := 23) [.int (J 1), .int (J (hI h 57 11))] _ rfl rfl ?_
  refine r_isub (pc1 := 24) rfl rfl ?_
  refine r_vI (rgw _) (fun x2 ex2 rx2 => ?_)
  have w := w x2 ex2 rx2
  refine r_istn (pc1 := 25) (ls1 := [some (rv 57), some (.long (G b1)), none, some (.int (J x2))]) rfl rfl rfl rfl ?_
  obtain ⟨I4, m4, w, y4⟩ := w
  have Q4 : ∀ (n : Nat)  (x3 : Int), rg x3 → m4 x3 < n → I4 x3 → RR sc goal fs 436 25 [some (rv 57), some (.long (G b1)), none, some (.int (J x3))] [] h := by
    intro n
    induction n with
    | zero => intro x3 rx3 q4 _; exact absurd q4 (Nat.not_lt_zero _)
    | succ n ih4 =>
      intro x3 rx3 q4 z4
      have w := y4 x3 rx3 z4
      refine r_n (pc1 := 26) [.int (J x3)] _ rfl rfl ?_
      obtain ⟨J5, j5, w⟩ := w
      have Q5 : J5 → RR sc goal fs 436 48 [some (rv 57), some (.long (G b1)), none, some (.int (J x3))] [] h := by
        intro z5
        have w := j5 z5
        refine r_n (pc1 := 49) [.int (J x3)] _ rfl rfl ?_
        exact r_retI rfl rfl rfl (k _ rx3 w)
      refine r_iz (t := 48) (pc1 := 29) rfl rfl rfl rx3 (fun c9 => ?_) (fun c9 => ?_)
      · have w := w.1 c9
        exact Q5     w
      · have w := w.2 c9
        refine r_n (pc1 := 30) [.long (G b1)] _ rfl rfl ?_
        refine r_aldn (pc1 := 31) rfl rfl rfl ?_
        refine r_gfC (pc1 := 34) (q := 62) rfl rfl rfl t0 (lyk t0 rfl) rfl rfl (lyR t0 rfl rfl) ?_
        refine r_n (pc1 := 35) [.int (J x3), rv 62, .long (G b1)] _ rfl rfl ?_
        obtain ⟨c6, w⟩ := w
        refine r_lal (pc1 := 36) rfl rfl t0 (lyk t0 rfl) rx3 c6.1 (lt_len (lyn t0 rfl) c6.2) ?_
        refine r_land (pc1 := 37) rfl rfl ?_
        refine r_n (pc1 := 38) [.long (G (0#64)), .long (G (b1 &&& (hL h 62 x3.toNat)))] _ rfl rfl ?_
        refine r_lc (pc2 := 39) (t := 48) (pc1 := 42) rfl rfl rfl rfl rfl (fun c8 => ?_) (fun c8 => ?_)
        · have w := w.1 c8
          exact Q5     w
        · have w := w.2 c8
          refine r_inc (pc1 := 45) (g := fun zz => [some (rv 57), some (.long (G b1)), none, some (.int (J zz))]) rfl rfl rfl rfl (fun _ => rfl) (fun x7 ex7 rx7 => ?_)
          have w := w x7 ex7 rx7
          refine r_goto (t := 25) rfl rfl ?_
          exact ih4  x7  rx7 (Nat.lt_of_lt_of_le w.2 (Nat.le_of_lt_succ q4)) w.1
  exact Q4 _  x2  rx2 (Nat.lt_succ_self _) w
def w_X7_forget  (K : XH → Prop) (h : XH) : Prop :=
  (∀ x1 : Int, x1 = idiv (wr ((hI h 57 7) + (hI h 57 8))) 2 → rg x1 → ∀ x2 : Int, x2 = hI h 57 7 → rg x2 → ∀ x3 : Int, x3 = hI h 57 7 → rg x3 → (∃ (I10 : Int → Int → XH → Prop) (m10 : Int → Int → XH → Nat), I10 x2 x3 h ∧ ∀ (x4 : Int) (x5 : Int) (h9 : XH), HT h9 → HX h h9 → rg x4 → rg x5 → I10 x4 x5 h9 → (((hI h9 57 8 ≤ x5 → (∀ h11 : XH, h11 = sI h9 57 8 x4 → HT h11 → HX h9 h11 → K h11)) ∧ (¬ (hI h9 57 8 ≤ x5) → (∃ J13 : Int → Prop, (∀ (x12 : Int), rg x12 → J13 x12 → ((∃ (I18 : Int → Int → XH → Prop) (m18 : Int → Int → XH → Nat), I18 x12 0 h9 ∧ ∀ (x14 : Int) (x15 : Int) (h17 : XH), HT h17 → HX h h17 → rg x14 → rg x15 → I18 x14 x15 h17 → (w_J13_bitCount_95d88 ((hL h17 57 9) ||| (hL h17 57 10)) (fun x19 => rg x19 → (((x19 ≤ x15 → (∃ J22 : Int → XH → Prop, (∀ (x20 : Int) (h21 : XH), HT h21 → HX h h21 → rg x20 → J22 x20 h21 → (∀ x23 : Int, x23 = wr (x5 + 1) → rg x23 → (I10 x20 x23 h21 ∧ m10 x20 x23 h21 < m10 x4 x5 h9))) ∧ ((x14 = 0 → J22 x4 h17) ∧ (¬ (x14 = 0) → ((0 ≤ x5 ∧ x5 < 3926) ∧ (0 ≤ x4 ∧ x4 < 3926) ∧ ∀ h26 : XH, h26 = sL h17 60 x4.toNat (hL h17 60 x5.toNat) → HT h26 → HX h17 h26 → ∀ h27 : XH, h27 = sL h26 61 x4.toNat (hL h26 61 x5.toNat) → HT h27 → HX h26 h27 → ∀ x28 : Int, x28 = wr (x4 + 1) → rg x28 → J22 x28 h27))))) ∧ (¬ (x19 ≤ x15) → ((0 ≤ x15 ∧ x15 < 64) ∧ ∀ x31 : Int, x31 = irem (hI h17 63 x15.toNat) 64 → rg x31 → (0 ≤ x31 ∧ x31 < 64) ∧ ∃ J35 : Int → XH → Prop, (∀ (x33 : Int) (h34 : XH), HT h34 → HX h h34 → rg x33 → J35 x33 h34 → (∀ x36 : Int, x36 = wr (x15 + 1) → rg x36 → (I18 x33 x36 h34 ∧ m18 x33 x36 h34 < m18 x14 x15 h17))) ∧ ((¬ hI h17 64 x31.toNat = x5 → J35 x14 h17) ∧ (¬ (¬ hI h17 64 x31.toNat = x5) → (∀ h37 : XH, h37 = sI h17 64 x31.toNat x4 → HT h37 → HX h17 h37 → J35 1 h37)))))))) h17)))) ∧ ((x5 < x1 → (J13 0)) ∧ (¬ (x5 < x1) → (J13 1)))))))))
set_option maxHeartbeats 4000000 in
theorem a_X7_forget {sc : Nat × (Nat → Int32)} {goal : XO → XH → Prop} {fs : List XF} {h : XH}  {K : XH → Prop} (hd : fs.length + 1 ≤ 1000) (w : w_X7_forget  K h) (t0 : HT h) (k : ∀ (h1 : XH), HT h1 → HX h h1 → K h1 → XFin xP sc goal fs (.inl none) h1) : RR sc goal fs 427 0 [some (rv 57), none, none, none, none, none, none] [] h := by
  unfold w_X7_forget at w
  refine r_aldn (pc1 := 1) rfl rfl rfl ?_
  refine r_gfI (pc1 := 4) rfl rfl rfl t0 (lyk t0 rfl) rfl rfl ?_
  refine r_aldn (pc1 := 5) rfl rfl rfl ?_
  refine r_gfI (pc1 := 8) rfl rfl rfl t0 (lyk t0 rfl) rfl rfl ?_
  refine r_iadd (pc1 := 9) rfl rfl ?_
  refine r_n (pc1 := 10) [.int (J 2), .int (J (wr ((hI h 57 7) + (hI h 57 8))))] _ rfl rfl ?_
  refine r_idiv (pc1 := 11) rfl rfl (rgk rfl) (by decide) ?_
  refine r_vI (rgt _) (fun x1 ex1 rx1 => ?_)
  have w := w x1 ex1 rx1
  refine r_istn (pc1 := 12) (ls1 := [some (rv 57), some (.int (J x1)), none, none, none, none, none]) rfl rfl rfl rfl ?_
  refine r_aldn (pc1 := 13) rfl rfl rfl ?_
  refine r_gfI (pc1 := 16) rfl rfl rfl t0 (lyk t0 rfl) rfl rfl ?_
  refine r_vI (rgh _ _ _) (fun x2 ex2 rx2 => ?_)
  have w := w x2 ex2 rx2
  refine r_istn (pc1 := 17) (ls1 := [some (rv 57), some (.int (J x1)), some (.int (J x2)), none, none, none, none]) rfl rfl rfl rfl ?_
  refine r_aldn (pc1 := 18) rfl rfl rfl ?_
  refine r_gfI (pc1 := 21) rfl rfl rfl t0 (lyk t0 rfl) rfl rfl ?_
  refine r_vI (rgh _ _ _) (fun x3 ex3 rx3 => ?_)
  have w := w x3 ex3 rx3
  refine r_istn (pc1 := 22) (ls1 := [some (rv 57), some (.int (J x1)), some (.int (J x2)), some (.int (J x3)), none, none, none]) rfl rfl rfl rfl ?_
  obtain ⟨I10, m10, w, y10⟩ := w
  have Q10 : ∀ (n : Nat) (d6 : Option Value) (d7 : Option Value) (d8 : Option Value) (x4 : Int) (x5 : Int) (h9 : XH), HT h9 → HX h h9 → rg x4 → rg x5 → m10 x4 x5 h9 < n → I10 x4 x5 h9 → RR sc goal fs 427 22 [some (rv 57), some (.int (J x1)), some (.int (J x4)), some (.int (J x5)), d6, d7, d8] [] h9 := by
    intro n
    induction n with
    | zero => intro d6 d7 d8 x4 x5 h9 t9 s9 rx4 rx5 q10 _; exact absurd q10 (Nat.not_lt_zero _)
    | succ n ih10 =>
      intro d6 d7 d8 x4 x5 h9 t9 s9 rx4 rx5 q10 z10
      have w := y10 x4 x5 h9 t9 s9 rx4 rx5 z10
      refine r_n (pc1 := 23) [.int (J x5)] _ rfl rfl ?_
      refine r_aldn (pc1 := 24) rfl rfl rfl ?_
      refine r_gfI (pc1 := 27) rfl rfl rfl t9 (lyk t9 rfl) rfl rfl ?_
      refine r_ic (t := 140) (pc1 := 30) rfl rfl rfl rx5 (rgh _ _ _) (fun c41 => ?_) (fun c41 => ?_)
      · have w := w.1 c41
        refine r_aldn (pc1 := 141) rfl rfl rfl ?_
        refine r_n (pc1 := 142) [.int (J x4), rv 57] _ rfl rfl ?_
        refine r_pfI (pc1 := 145) rfl rfl rfl t9 (lyk t9 rfl) rfl rfl rfl (fun h11 eh11 t11 u11 => ?_)
        have w := w h11 eh11 t11 u11
        have s11 := HX_trans s9 u11
        exact r_retV rfl rfl rfl (k _ t11 s11 w)
      · have w := w.2 c41
        refine r_n (pc1 := 31) [.int (J x5)] _ rfl rfl ?_
        refine r_n (pc1 := 32) [.int (J x1), .int (J x5)] _ rfl rfl ?_
        obtain ⟨J13, j13, w⟩ := w
        have Q13 : ∀ (x12 : Int), rg x12 → J13 x12 → RR sc goal fs 427 40 [some (rv 57), some (.int (J x1)), some (.int (J x4)), some (.int (J x5)), d6, d7, d8] [.int (J x12)] h9 := by
          intro x12 rx12 z13
          have w := j13 x12 rx12 z13
          refine r_ist (pc1 := 42) (ls1 := [some (rv 57), some (.int (J x1)), some (.int (J x4)), some (.int (J x5)), some (.int (J x12)), d7, d8]) rfl rfl rfl rfl ?_
          refine r_n (pc1 := 43) [.int (J 0)] _ rfl rfl ?_
          refine r_ist (pc1 := 45) (ls1 := [some (rv 57), some (.int (J x1)), some (.int (J x4)), some (.int (J x5)), some (.int (J x12)), some (.int (J 0)), d8]) rfl rfl rfl rfl ?_
          obtain ⟨I18, m18, w, y18⟩ := w
          have Q18 : ∀ (n : Nat) (d16 : Option Value) (x14 : Int) (x15 : Int) (h17 : XH), HT h17 → HX h h17 → rg x14 → rg x15 → m18 x14 x15 h17 < n → I18 x14 x15 h17 → RR sc goal fs 427 45 [some (rv 57), some (.int (J x1)), some (.int (J x4)), some (.int (J x5)), some (.int (J x14)), some (.int (J x15)), d16] [] h17 := by
            intro n
            induction n with
            | zero => intro d16 x14 x15 h17 t17 s17 rx14 rx15 q18 _; exact absurd q18 (Nat.not_lt_zero _)
            | succ n ih18 =>
              intro d16 x14 x15 h17 t17 s17 rx14 rx15 q18 z18
              have w := y18 x14 x15 h17 t17 s17 rx14 rx15 z18
              refine r_n (pc1 := 47) [.int (J x15)] _ rfl rfl ?_
              refine r_aldn (pc1 := 48) rfl rfl rfl ?_
              refine r_gfL (pc1 := 51) rfl rfl rfl t17 (lyk t17 rfl) rfl rfl ?_
              refine r_aldn (pc1 := 52) rfl rfl rfl ?_
              refine r_gfL (pc1 := 55) rfl rfl rfl t17 (lyk t17 rfl) rfl rfl ?_
              refine r_lor (pc1 := 56) rfl rfl ?_
              refine r_iq rfl rfl rfl rfl rfl rfl (xe_of (xa_l xa_0) rfl rfl) (r_d0 hd rfl) (a_J13_bitCount_95d88 ((hL h17 57 9) ||| (hL h17 57 10)) (r_d1 hd rfl)  w t17 (fun x19 rx19 w => ?_))
              refine r_fI (pc1 := 59) rfl ?_
              have w := w rx19
              refine r_ic (t := 102) (pc1 := 62) rfl rfl rfl rx15 rx19 (fun c39 => ?_) (fun c39 => ?_)
              · have w := w.1 c39
                refine r_n (pc1 := 104) [.int (J x14)] _ rfl rfl ?_
                obtain ⟨J22, j22, w⟩ := w
                have Q22 : ∀ (x20 : Int) (h21 : XH), HT h21 → HX h h21 → rg x20 → J22 x20 h21 → RR sc goal fs 427 134 [some (rv 57), some (.int (J x1)), some (.int (J x20)), some (.int (J x5)), some (.int (J x14)), some (.int (J x15)), d16] [] h21 := by
                  intro x20 h21 t21 s21 rx20 z22
                  have w := j22 x20 h21 t21 s21 rx20 z22
                  refine r_inc (pc1 := 137) (g := fun zz => [some (rv 57), some (.int (J x1)), some (.int (J x20)), some (.int (J zz)), some (.int (J x14)), some (.int (J x15)), d16]) rfl rfl rfl rfl (fun _ => rfl) (fun x23 ex23 rx23 => ?_)
                  have w := w x23 ex23 rx23
                  refine r_goto (t := 22) rfl rfl ?_
                  exact ih10 _ _ _ x20 x23 h21 t21 s21 rx20 rx23 (Nat.lt_of_lt_of_le w.2 (Nat.le_of_lt_succ q10)) w.1
                refine r_iz (t := 134) (pc1 := 107) rfl rfl rfl rx14 (fun c29 => ?_) (fun c29 => ?_)
                · have w := w.1 c29
                  exact Q22  x4 h17 t17 s17 rx4 w
                · have w := w.2 c29
                  refine r_aldn (pc1 := 108) rfl rfl rfl ?_
                  refine r_gfC (pc1 := 111) (q := 60) rfl rfl rfl t17 (lyk t17 rfl) rfl rfl (lyR t17 rfl rfl) ?_
                  refine r_n (pc1 := 112) [.int (J x4), rv 60] _ rfl rfl ?_
                  refine r_aldn (pc1 := 113) rfl rfl rfl ?_
                  refine r_gfC (pc1 := 116) (q := 60) rfl rfl rfl t17 (lyk t17 rfl) rfl rfl (lyR t17 rfl rfl) ?_
                  refine r_n (pc1 := 117) [.int (J x5), rv 60, .int (J x4), rv 60] _ rfl rfl ?_
                  obtain ⟨c24, w⟩ := w
                  refine r_lal (pc1 := 118) rfl rfl t17 (lyk t17 rfl) rx5 c24.1 (lt_len (lyn t17 rfl) c24.2) ?_
                  obtain ⟨c25, w⟩ := w
                  refine r_last (pc1 := 119) rfl rfl t17 (lyk t17 rfl) rx4 c25.1 (lt_len (lyn t17 rfl) c25.2) (fun h26 eh26 t26 u26 => ?_)
                  have w := w h26 eh26 t26 u26
                  have s26 := HX_trans s17 u26
                  refine r_aldn (pc1 := 120) rfl rfl rfl ?_
                  refine r_gfC (pc1 := 123) (q := 61) rfl rfl rfl t26 (lyk t26 rfl) rfl rfl (lyR t26 rfl rfl) ?_
                  refine r_n (pc1 := 124) [.int (J x4), rv 61] _ rfl rfl ?_
                  refine r_aldn (pc1 := 125) rfl rfl rfl ?_
                  refine r_gfC (pc1 := 128) (q := 61) rfl rfl rfl t26 (lyk t26 rfl) rfl rfl (lyR t26 rfl rfl) ?_
                  refine r_n (pc1 := 129) [.int (J x5), rv 61, .int (J x4), rv 61] _ rfl rfl ?_
                  refine r_lal (pc1 := 130) rfl rfl t26 (lyk t26 rfl) rx5 c24.1 (lt_len (lyn t26 rfl) c24.2) ?_
                  refine r_last (pc1 := 131) rfl rfl t26 (lyk t26 rfl) rx4 c25.1 (lt_len (lyn t26 rfl) c25.2) (fun h27 eh27 t27 u27 => ?_)
                  have w := w h27 eh27 t27 u27
                  have s27 := HX_trans s26 u27
                  refine r_inc (pc1 := 134) (g := fun zz => [some (rv 57), some (.int (J x1)), some (.int (J zz)), some (.int (J x5)), some (.int (J x14)), some (.int (J x15)), d16]) rfl rfl rfl rfl (fun _ => rfl) (fun x28 ex28 rx28 => ?_)
                  have w := w x28 ex28 rx28
                  exact Q22  x28 h27 t27 s27 rx28 w
              · have w := w.2 c39
                refine r_aldn (pc1 := 63) rfl rfl rfl ?_
                refine r_gfC (pc1 := 66) (q := 63) rfl rfl rfl t17 (lyk t17 rfl) rfl rfl (lyR t17 rfl rfl) ?_
                refine r_n (pc1 := 68) [.int (J x15), rv 63] _ rfl rfl ?_
                obtain ⟨c30, w⟩ := w
                refine r_ial (pc1 := 69) rfl rfl t17 (lyk t17 rfl) rx15 c30.1 (lt_len (lyn t17 rfl) c30.2) ?_
                refine r_n (pc1 := 71) [.int (J 64), .int (J (hI h17 63 x15.toNat))] _ rfl rfl ?_
                refine r_irem (pc1 := 72) rfl rfl (rgk rfl) (by decide) ?_
                refine r_vI (rgt _) (fun x31 ex31 rx31 => ?_)
                have w := w x31 ex31 rx31
                refine r_ist (pc1 := 74) (ls1 := [some (rv 57), some (.int (J x1)), some (.int (J x4)), some (.int (J x5)), some (.int (J x14)), some (.int (J x15)), some (.int (J x31))]) rfl rfl rfl rfl ?_
                refine r_aldn (pc1 := 75) rfl rfl rfl ?_
                refine r_gfC (pc1 := 78) (q := 64) rfl rfl rfl t17 (lyk t17 rfl) rfl rfl (lyR t17 rfl rfl) ?_
                refine r_n (pc1 := 80) [.int (J x31), rv 64] _ rfl rfl ?_
                obtain ⟨c32, w⟩ := w
                refine r_ial (pc1 := 81) rfl rfl t17 (lyk t17 rfl) rx31 c32.1 (lt_len (lyn t17 rfl) c32.2) ?_
                refine r_n (pc1 := 82) [.int (J x5), .int (J (hI h17 64 x31.toNat))] _ rfl rfl ?_
                obtain ⟨J35, j35, w⟩ := w
                have Q35 : ∀ (x33 : Int) (h34 : XH), HT h34 → HX h h34 → rg x33 → J35 x33 h34 → RR sc goal fs 427 96 [some (rv 57), some (.int (J x1)), some (.int (J x4)), some (.int (J x5)), some (.int (J x33)), some (.int (J x15)), some (.int (J x31))] [] h34 := by
                  intro x33 h34 t34 s34 rx33 z35
                  have w := j35 x33 h34 t34 s34 rx33 z35
                  refine r_inc (pc1 := 99) (g := fun zz => [some (rv 57), some (.int (J x1)), some (.int (J x4)), some (.int (J x5)), some (.int (J x33)), some (.int (J zz)), some (.int (J x31))]) rfl rfl rfl rfl (fun _ => rfl) (fun x36 ex36 rx36 => ?_)
                  have w := w x36 ex36 rx36
                  refine r_goto (t := 45) rfl rfl ?_
                  exact ih18 _ x33 x36 h34 t34 s34 rx33 rx36 (Nat.lt_of_lt_of_le w.2 (Nat.le_of_lt_succ q18)) w.1
                refine r_ic (t := 96) (pc1 := 85) rfl rfl rfl (rgh _ _ _) rx5 (fun c38 => ?_) (fun c38 => ?_)
                · have w := w.1 c38
                  exact Q35  x14 h17 t17 s17 rx14 w
                · have w := w.2 c38
                  refine r_aldn (pc1 := 86) rfl rfl rfl ?_
                  refine r_gfC (pc1 := 89) (q := 64) rfl rfl rfl t17 (lyk t17 rfl) rfl rfl (lyR t17 rfl rfl) ?_
                  refine r_n (pc1 := 91) [.int (J x31), rv 64] _ rfl rfl ?_
                  refine r_n (pc1 := 92) [.int (J x4), .int (J x31), rv 64] _ rfl rfl ?_
                  refine r_iast (pc1 := 93) rfl rfl t17 (lyk t17 rfl) rx31 c32.1 (lt_len (lyn t17 rfl) c32.2) (fun h37 eh37 t37 u37 => ?_)
                  have w := w h37 eh37 t37 u37
                  have s37 := HX_trans s17 u37
                  refine r_n (pc1 := 94) [.int (J 1)] _ rfl rfl ?_
                  refine r_ist (pc1 := 96) (ls1 := [some (rv 57), some (.int (J x1)), some (.int (J x4)), some (.int (J x5)), some (.int (J 1)), some (.int (J x15)), some (.int (J x31))]) rfl rfl rfl rfl ?_
                  exact Q35  1 h37 t37 s37 (rgk rfl) w
          exact Q18 _ _ x12 0 h9 t9 s9 rx12 (rgk rfl) (Nat.lt_succ_self _) w
        refine r_ic (t := 39) (pc1 := 35) rfl rfl rfl rx5 rx1 (fun c40 => ?_) (fun c40 => ?_)
        · have w := w.1 c40
          refine r_n (pc1 := 40) [.int (J 0)] _ rfl rfl ?_
          exact Q13  0  (rgk rfl) w
        · have w := w.2 c40
          refine r_n (pc1 := 36) [.int (J 1)] _ rfl rfl ?_
          refine r_goto (t := 40) rfl rfl ?_
          exact Q13  1  (rgk rfl) w
  exact Q10 _ _ _ _ x2 x3 h t0 (HX_refl h) rx2 rx3 (Nat.lt_succ_self _) w
def w_X7_keep  (K : XH → Prop) (h : XH) : Prop :=
  (∀ x1 : Int, x1 = hI h 57 8 → rg x1 → ∀ h2 : XH, h2 = sI h 57 8 (wr ((hI h 57 8) + 1)) → HT h2 → HX h h2 → (0 ≤ x1 ∧ x1 < 3926) ∧ ∀ h4 : XH, h4 = sL h2 60 x1.toNat (hL h2 60 3925) → HT h4 → HX h2 h4 → ∀ h5 : XH, h5 = sL h4 61 x1.toNat (hL h4 61 3925) → HT h5 → HX h4 h5 → w_X7_watch x1 (fun h6 => HT h6 → HX h5 h6 → (∃ J8 : XH → Prop, (∀ (h7 : XH), HT h7 → HX h h7 → J8 h7 → (K h7)) ∧ ((¬ ((hL h6 60 x1.toNat) &&& (hL h6 57 9)) ||| ((hL h6 61 x1.toNat) &&& (hL h6 57 10)) = (0#64) → J8 h6) ∧ (¬ (¬ ((hL h6 60 x1.toNat) &&& (hL h6 57 9)) ||| ((hL h6 61 x1.toNat) &&& (hL h6 57 10)) = (0#64)) → (w_X7_pick ((hL h6 60 x1.toNat) &&& ((hL h6 57 10) ^^^ (18446744073709551615#64))) ((hL h6 61 x1.toNat) &&& ((hL h6 57 9) ^^^ (18446744073709551615#64))) (-1) (fun x9 => rg x9 → (w_X7_put x9 x1 (fun h10 => HT h10 → HX h6 h10 → J8 h10) h6)) h6))))) h5)
set_option maxHeartbeats 4000000 in
theorem a_X7_keep {sc : Nat × (Nat → Int32)} {goal : XO → XH → Prop} {fs : List XF} {h : XH}  {K : XH → Prop} (hd : fs.length + 3 ≤ 1000) (w : w_X7_keep  K h) (t0 : HT h) (k : ∀ (h1 : XH), HT h1 → HX h h1 → K h1 → XFin xP sc goal fs (.inl none) h1) : RR sc goal fs 435 0 [some (rv 57), none] [] h := by
  unfold w_X7_keep at w
  refine r_aldn (pc1 := 1) rfl rfl rfl ?_
  refine r_gfI (pc1 := 4) rfl rfl rfl t0 (lyk t0 rfl) rfl rfl ?_
  refine r_vI (rgh _ _ _) (fun x1 ex1 rx1 => ?_)
  have w := w x1 ex1 rx1
  refine r_istn (pc1 := 5) (ls1 := [some (rv 57), some (.int (J x1))]) rfl rfl rfl rfl ?_
  refine r_aldn (pc1 := 6) rfl rfl rfl ?_
  refine r_dupR (pc1 := 7) rfl rfl ?_
  refine r_gfI (pc1 := 10) rfl rfl rfl t0 (lyk t0 rfl) rfl rfl ?_
  refine r_n (pc1 := 11) [.int (J 1), .int (J (hI h 57 8)), rv 57] _ rfl rfl ?_
  refine r_iadd (pc1 := 12) rfl rfl ?_
  refine r_pfI (pc1 := 15) rfl rfl rfl t0 (lyk t0 rfl) rfl rfl rfl (fun h2 eh2 t2 u2 => ?_)
  have w := w h2 eh2 t2 u2
  have s2 := HX_trans (HX_refl h) u2
  refine r_aldn (pc1 := 16) rfl rfl rfl ?_
  refine r_gfC (pc1 := 19) (q := 60) rfl rfl rfl t2 (lyk t2 rfl) rfl rfl (lyR t2 rfl rfl) ?_
  refine r_n (pc1 := 20) [.int (J x1), rv 60] _ rfl rfl ?_
  refine r_aldn (pc1 := 21) rfl rfl rfl ?_
  refine r_gfC (pc1 := 24) (q := 60) rfl rfl rfl t2 (lyk t2 rfl) rfl rfl (lyR t2 rfl rfl) ?_
  refine r_n (pc1 := 27) [.int (J 3925), rv 60, .int (J x1), rv 60] _ rfl rfl ?_
  refine r_lal (pc1 := 28) rfl rfl t2 (lyk t2 rfl) (rgk rfl) (by decide) (lt_len (lyn t2 rfl) (by decide)) ?_
  obtain ⟨c3, w⟩ := w
  refine r_last (pc1 := 29) rfl rfl t2 (lyk t2 rfl) rx1 c3.1 (lt_len (lyn t2 rfl) c3.2) (fun h4 eh4 t4 u4 => ?_)
  have w := w h4 eh4 t4 u4
  have s4 := HX_trans s2 u4
  refine r_aldn (pc1 := 30) rfl rfl rfl ?_
  refine r_gfC (pc1 := 33) (q := 61) rfl rfl rfl t4 (lyk t4 rfl) rfl rfl (lyR t4 rfl rfl) ?_
  refine r_n (pc1 := 34) [.int (J x1), rv 61] _ rfl rfl ?_
  refine r_aldn (pc1 := 35) rfl rfl rfl ?_
  refine r_gfC (pc1 := 38) (q := 61) rfl rfl rfl t4 (lyk t4 rfl) rfl rfl (lyR t4 rfl rfl) ?_
  refine r_n (pc1 := 41) [.int (J 3925), rv 61, .int (J x1), rv 61] _ rfl rfl ?_
  refine r_lal (pc1 := 42) rfl rfl t4 (lyk t4 rfl) (rgk rfl) (by decide) (lt_len (lyn t4 rfl) (by decide)) ?_
  refine r_last (pc1 := 43) rfl rfl t4 (lyk t4 rfl) rx1 c3.1 (lt_len (lyn t4 rfl) c3.2) (fun h5 eh5 t5 u5 => ?_)
  have w := w h5 eh5 t5 u5
  have s5 := HX_trans s4 u5
  refine r_aldn (pc1 := 44) rfl rfl rfl ?_
  refine r_n (pc1 := 45) [.int (J x1), rv 57] _ rfl rfl ?_
  refine r_iv rfl rfl rfl rfl rfl rfl t5 (lyk t5 rfl) rfl (xe_of (xa_r (xa_i xa_0)) rfl rfl) (r_d0 hd rfl) (a_X7_watch x1 (r_d1 hd rfl) rx1 w t5 (fun h6 t6 u6 w => ?_))
  refine r_fV (pc1 := 48) rfl ?_
  have s6 := HX_trans s5 u6
  have w := w t6 u6
  refine r_aldn (pc1 := 49) rfl rfl rfl ?_
  refine r_gfC (pc1 := 52) (q := 60) rfl rfl rfl t6 (lyk t6 rfl) rfl rfl (lyR t6 rfl rfl) ?_
  refine r_n (pc1 := 53) [.int (J x1), rv 60] _ rfl rfl ?_
  refine r_lal (pc1 := 54) rfl rfl t6 (lyk t6 rfl) rx1 c3.1 (lt_len (lyn t6 rfl) c3.2) ?_
  refine r_aldn (pc1 := 55) rfl rfl rfl ?_
  refine r_gfL (pc1 := 58) rfl rfl rfl t6 (lyk t6 rfl) rfl rfl ?_
  refine r_land (pc1 := 59) rfl rfl ?_
  refine r_aldn (pc1 := 60) rfl rfl rfl ?_
  refine r_gfC (pc1 := 63) (q := 61) rfl rfl rfl t6 (lyk t6 rfl) rfl rfl (lyR t6 rfl rfl) ?_
  refine r_n (pc1 := 64) [.int (J x1), rv 61, .long (G ((hL h6 60 x1.toNat) &&& (hL h6 57 9)))] _ rfl rfl ?_
  refine r_lal (pc1 := 65) rfl rfl t6 (lyk t6 rfl) rx1 c3.1 (lt_len (lyn t6 rfl) c3.2) ?_
  refine r_aldn (pc1 := 66) rfl rfl rfl ?_
  refine r_gfL (pc1 := 69) rfl rfl rfl t6 (lyk t6 rfl) rfl rfl ?_
  refine r_land (pc1 := 70) rfl rfl ?_
  refine r_lor (pc1 := 71) rfl rfl ?_
  refine r_n (pc1 := 72) [.long (G (0#64)), .long (G (((hL h6 60 x1.toNat) &&& (hL h6 57 9)) ||| ((hL h6 61 x1.toNat) &&& (hL h6 57 10))))] _ rfl rfl ?_
  obtain ⟨J8, j8, w⟩ := w
  have Q8 : ∀ (h7 : XH), HT h7 → HX h h7 → J8 h7 → RR sc goal fs 435 115 [some (rv 57), some (.int (J x1))] [] h7 := by
    intro h7 t7 s7 z8
    have w := j8 h7 t7 s7 z8
    exact r_retV rfl rfl rfl (k _ t7 s7 w)
  refine r_lc (pc2 := 73) (t := 115) (pc1 := 76) rfl rfl rfl rfl rfl (fun c11 => ?_) (fun c11 => ?_)
  · have w := w.1 c11
    exact Q8   h6 t6 s6  w
  · have w := w.2 c11
    refine r_aldn (pc1 := 77) rfl rfl rfl ?_
    refine r_aldn (pc1 := 78) rfl rfl rfl ?_
    refine r_gfC (pc1 := 81) (q := 60) rfl rfl rfl t6 (lyk t6 rfl) rfl rfl (lyR t6 rfl rfl) ?_
    refine r_n (pc1 := 82) [.int (J x1), rv 60, rv 57] _ rfl rfl ?_
    refine r_lal (pc1 := 83) rfl rfl t6 (lyk t6 rfl) rx1 c3.1 (lt_len (lyn t6 rfl) c3.2) ?_
    refine r_aldn (pc1 := 84) rfl rfl rfl ?_
    refine r_gfL (pc1 := 87) rfl rfl rfl t6 (lyk t6 rfl) rfl rfl ?_
    refine r_n (pc1 := 90) [.long (G (18446744073709551615#64)), .long (G (hL h6 57 10)), .long (G (hL h6 60 x1.toNat)), rv 57] _ rfl rfl ?_
    refine r_lxor (pc1 := 91) rfl rfl ?_
    refine r_land (pc1 := 92) rfl rfl ?_
    refine r_aldn (pc1 := 93) rfl rfl rfl ?_
    refine r_gfC (pc1 := 96) (q := 61) rfl rfl rfl t6 (lyk t6 rfl) rfl rfl (lyR t6 rfl rfl) ?_
    refine r_n (pc1 := 97) [.int (J x1), rv 61, .long (G ((hL h6 60 x1.toNat) &&& ((hL h6 57 10) ^^^ (18446744073709551615#64)))), rv 57] _ rfl rfl ?_
    refine r_lal (pc1 := 98) rfl rfl t6 (lyk t6 rfl) rx1 c3.1 (lt_len (lyn t6 rfl) c3.2) ?_
    refine r_aldn (pc1 := 99) rfl rfl rfl ?_
    refine r_gfL (pc1 := 102) rfl rfl rfl t6 (lyk t6 rfl) rfl rfl ?_
    refine r_n (pc1 := 105) [.long (G (18446744073709551615#64)), .long (G (hL h6 57 9)), .long (G (hL h6 61 x1.toNat)), .long (G ((hL h6 60 x1.toNat) &&& ((hL h6 57 10) ^^^ (18446744073709551615#64)))), rv 57] _ rfl rfl ?_
    refine r_lxor (pc1 := 106) rfl rfl ?_
    refine r_land (pc1 := 107) rfl rfl ?_
    refine r_n (pc1 := 108) [.int (J (-1)), .long (G ((hL h6 61 x1.toNat) &&& ((hL h6 57 9) ^^^ (18446744073709551615#64)))), .long (G ((hL h6 60 x1.toNat) &&& ((hL h6 57 10) ^^^ (18446744073709551615#64)))), rv 57] _ rfl rfl ?_
    refine r_iq rfl rfl rfl rfl rfl rfl (xe_of (xa_l (xa_l (xa_i xa_0))) rfl rfl) (r_d0 hd rfl) (a_X7_pick ((hL h6 60 x1.toNat) &&& ((hL h6 57 10) ^^^ (18446744073709551615#64))) ((hL h6 61 x1.toNat) &&& ((hL h6 57 9) ^^^ (18446744073709551615#64))) (-1) (r_d1 hd rfl) (rgk rfl) w t6 (fun x9 rx9 w => ?_))
    refine r_fI (pc1 := 111) rfl ?_
    have w := w rx9
    refine r_n (pc1 := 112) [.int (J x1), .int (J x9), rv 57] _ rfl rfl ?_
    refine r_iv rfl rfl rfl rfl rfl rfl t6 (lyk t6 rfl) rfl (xe_of (xa_r (xa_i (xa_i xa_0))) rfl rfl) (r_d0 hd rfl) (a_X7_put x9 x1 (r_d1 hd rfl) rx9 rx1 w t6 (fun h10 t10 u10 w => ?_))
    refine r_fV (pc1 := 115) rfl ?_
    have s10 := HX_trans s6 u10
    have w := w t10 u10
    exact Q8   h10 t10 s10  w
def w_X7_deepen  (K : XH → Prop) (h : XH) : Prop :=
  (∃ J2 : Int → Prop, (∀ (x1 : Int), rg x1 → J2 x1 → (∀ h3 : XH, h3 = sI h 57 11 (wr ((hI h 57 11) + x1)) → HT h3 → HX h h3 → (0 ≤ hI h3 57 11 ∧ hI h3 57 11 < 66) ∧ ∀ h5 : XH, h5 = sL h3 62 (hI h3 57 11).toNat (0#64) → HT h5 → HX h3 h5 → K h5)) ∧ ((64 < hI h 57 11 → (J2 0)) ∧ (¬ (64 < hI h 57 11) → (J2 1))))
set_option maxHeartbeats 4000000 in
theorem a_X7_deepen {sc : Nat × (Nat → Int32)} {goal : XO → XH → Prop} {fs : List XF} {h : XH}  {K : XH → Prop} (hd : fs.length + 0 ≤ 1000) (w : w_X7_deepen  K h) (t0 : HT h) (k : ∀ (h1 : XH), HT h1 → HX h h1 → K h1 → XFin xP sc goal fs (.inl none) h1) : RR sc goal fs 425 0 [some (rv 57)] [] h := by
  unfold w_X7_deepen at w
  refine r_aldn (pc1 := 1) rfl rfl rfl ?_
  refine r_dupR (pc1 := 2) rfl rfl ?_
  refine r_gfI (pc1 := 5) rfl rfl rfl t0 (lyk t0 rfl) rfl rfl ?_
  refine r_aldn (pc1 := 6) rfl rfl rfl ?_
  refine r_gfI (pc1 := 9) rfl rfl rfl t0 (lyk t0 rfl) rfl rfl ?_
  refine r_n (pc1 := 11) [.int (J 64), .int (J (hI h 57 11)), .int (J (hI h 57 11)), rv 57] _ rfl rfl ?_
  obtain ⟨J2, j2, w⟩ := w
  have Q2 : ∀ (x1 : Int), rg x1 → J2 x1 → RR sc goal fs 425 19 [some (rv 57)] [.int (J x1), .int (J (hI h 57 11)), rv 57] h := by
    intro x1 rx1 z2
    have w := j2 x1 rx1 z2
    refine r_iadd (pc1 := 20) rfl rfl ?_
    refine r_pfI (pc1 := 23) rfl rfl rfl t0 (lyk t0 rfl) rfl rfl rfl (fun h3 eh3 t3 u3 => ?_)
    have w := w h3 eh3 t3 u3
    have s3 := HX_trans (HX_refl h) u3
    refine r_aldn (pc1 := 24) rfl rfl rfl ?_
    refine r_gfC (pc1 := 27) (q := 62) rfl rfl rfl t3 (lyk t3 rfl) rfl rfl (lyR t3 rfl rfl) ?_
    refine r_aldn (pc1 := 28) rfl rfl rfl ?_
    refine r_gfI (pc1 := 31) rfl rfl rfl t3 (lyk t3 rfl) rfl rfl ?_
    refine r_n (pc1 := 32) [.long (G (0#64)), .int (J (hI h3 57 11)), rv 62] _ rfl rfl ?_
    obtain ⟨c4, w⟩ := w
    refine r_last (pc1 := 33) rfl rfl t3 (lyk t3 rfl) (rgh _ _ _) c4.1 (lt_len (lyn t3 rfl) c4.2) (fun h5 eh5 t5 u5 => ?_)
    have w := w h5 eh5 t5 u5
    have s5 := HX_trans s3 u5
    exact r_retV rfl rfl rfl (k _ t5 s5 w)
  refine r_ic (t := 18) (pc1 := 14) rfl rfl rfl (rgh _ _ _) (rgk rfl) (fun c6 => ?_) (fun c6 => ?_)
  · have w := w.1 c6
    refine r_n (pc1 := 19) [.int (J 0), .int (J (hI h 57 11)), rv 57] _ rfl rfl ?_
    exact Q2  0  (rgk rfl) w
  · have w := w.2 c6
    refine r_n (pc1 := 15) [.int (J 1), .int (J (hI h 57 11)), rv 57] _ rfl rfl ?_
    refine r_goto (t := 19) rfl rfl ?_
    exact Q2  1  (rgk rfl) w
def w_X7_putAll (p0 : BitVec 64) (p1 : BitVec 64) (K : XH → Prop) (h : XH) : Prop :=
  ((∃ (I3 : Int → XH → Prop) (m3 : Int → XH → Nat), I3 0 h ∧ ∀ (x1 : Int) (h2 : XH), HT h2 → HX h h2 → rg x1 → I3 x1 h2 → (((52 ≤ x1 → (K h2)) ∧ (¬ (52 ≤ x1) → (∃ J5 : XH → Prop, (∀ (h4 : XH), HT h4 → HX h h4 → J5 h4 → (∀ x6 : Int, x6 = wr (x1 + 1) → rg x6 → (I3 x6 h4 ∧ m3 x6 h4 < m3 x1 h2))) ∧ (((lshr (p0 ||| p1) x1) &&& (1#64) = (0#64) → J5 h2) ∧ (¬ ((lshr (p0 ||| p1) x1) &&& (1#64) = (0#64)) → (∃ J8 : Int → Prop, (∀ (x7 : Int), rg x7 → J8 x7 → (w_X7_put x7 (-1) (fun h9 => HT h9 → HX h2 h9 → J5 h9) h2)) ∧ (((lshr p0 x1) &&& (1#64) = (0#64) → (J8 (wr (64 + x1)))) ∧ (¬ ((lshr p0 x1) &&& (1#64) = (0#64)) → (J8 x1))))))))))))
set_option maxHeartbeats 4000000 in
theorem a_X7_putAll {sc : Nat × (Nat → Int32)} {goal : XO → XH → Prop} {fs : List XF} {h : XH} (p0 : BitVec 64) (p1 : BitVec 64) {K : XH → Prop} (hd : fs.length + 2 ≤ 1000) (w : w_X7_putAll p0 p1 K h) (t0 : HT h) (k : ∀ (h1 : XH), HT h1 → HX h h1 → K h1 → XFin xP sc goal fs (.inl none) h1) : RR sc goal fs 441 0 [some (rv 57), some (.long (G p0)), none, some (.long (G p1)), none, none] [] h := by
  unfold w_X7_putAll at w
  refine r_n (pc1 := 1) [.int (J 0)] _ rfl rfl ?_
  refine r_ist (pc1 := 3) (ls1 := [some (rv 57), some (.long (G p0)), none, some (.long (G p1)), none, some (.int (J 0))]) rfl rfl rfl rfl ?_
  obtain ⟨I3, m3, w, y3⟩ := w
  have Q3 : ∀ (n : Nat)  (x1 : Int) (h2 : XH), HT h2 → HX h h2 → rg x1 → m3 x1 h2 < n → I3 x1 h2 → RR sc goal fs 441 3 [some (rv 57), some (.long (G p0)), none, some (.long (G p1)), none, some (.int (J x1))] [] h2 := by
    intro n
    induction n with
    | zero => intro x1 h2 t2 s2 rx1 q3 _; exact absurd q3 (Nat.not_lt_zero _)
    | succ n ih3 =>
      intro x1 h2 t2 s2 rx1 q3 z3
      have w := y3 x1 h2 t2 s2 rx1 z3
      refine r_n (pc1 := 5) [.int (J x1)] _ rfl rfl ?_
      refine r_n (pc1 := 7) [.int (J 52), .int (J x1)] _ rfl rfl ?_
      refine r_ic (t := 55) (pc1 := 10) rfl rfl rfl rx1 (rgk rfl) (fun c12 => ?_) (fun c12 => ?_)
      · have w := w.1 c12
        exact r_retV rfl rfl rfl (k _ t2 s2 w)
      · have w := w.2 c12
        refine r_n (pc1 := 11) [.long (G p0)] _ rfl rfl ?_
        refine r_n (pc1 := 12) [.long (G p1), .long (G p0)] _ rfl rfl ?_
        refine r_lor (pc1 := 13) rfl rfl ?_
        refine r_n (pc1 := 15) [.int (J x1), .long (G (p0 ||| p1))] _ rfl rfl ?_
        refine r_lshr (pc1 := 16) rfl rfl ?_
        refine r_n (pc1 := 17) [.long (G (1#64)), .long (G (lshr (p0 ||| p1) x1))] _ rfl rfl ?_
        refine r_land (pc1 := 18) rfl rfl ?_
        refine r_n (pc1 := 19) [.long (G (0#64)), .long (G ((lshr (p0 ||| p1) x1) &&& (1#64)))] _ rfl rfl ?_
        obtain ⟨J5, j5, w⟩ := w
        have Q5 : ∀ (h4 : XH), HT h4 → HX h h4 → J5 h4 → RR sc goal fs 441 49 [some (rv 57), some (.long (G p0)), none, some (.long (G p1)), none, some (.int (J x1))] [] h4 := by
          intro h4 t4 s4 z5
          have w := j5 h4 t4 s4 z5
          refine r_inc (pc1 := 52) (g := fun zz => [some (rv 57), some (.long (G p0)), none, some (.long (G p1)), none, some (.int (J zz))]) rfl rfl rfl rfl (fun _ => rfl) (fun x6 ex6 rx6 => ?_)
          have w := w x6 ex6 rx6
          refine r_goto (t := 3) rfl rfl ?_
          exact ih3  x6 h4 t4 s4 rx6 (Nat.lt_of_lt_of_le w.2 (Nat.le_of_lt_succ q3)) w.1
        refine r_lc (pc2 := 20) (t := 49) (pc1 := 23) rfl rfl rfl rfl rfl (fun c11 => ?_) (fun c11 => ?_)
        · have w := w.1 c11
          exact Q5   h2 t2 s2  w
        · have w := w.2 c11
          refine r_aldn (pc1 := 24) rfl rfl rfl ?_
          refine r_n (pc1 := 25) [.long (G p0), rv 57] _ rfl rfl ?_
          refine r_n (pc1 := 27) [.int (J x1), .long (G p0), rv 57] _ rfl rfl ?_
          refine r_lshr (pc1 := 28) rfl rfl ?_
          refine r_n (pc1 := 29) [.long (G (1#64)), .long (G (lshr p0 x1)), rv 57] _ rfl rfl ?_
          refine r_land (pc1 := 30) rfl rfl ?_
          refine r_n (pc1 := 31) [.long (G (0#64)), .long (G ((lshr p0 x1) &&& (1#64))), rv 57] _ rfl rfl ?_
          obtain ⟨J8, j8, w⟩ := w
          have Q8 : ∀ (x7 : Int), rg x7 → J8 x7 → RR sc goal fs 441 45 [some (rv 57), some (.long (G p0)), none, some (.long (G p1)), none, some (.int (J x1))] [.int (J x7), rv 57] h2 := by
            intro x7 rx7 z8
            have w := j8 x7 rx7 z8
            refine r_n (pc1 := 46) [.int (J (-1)), .int (J x7), rv 57] _ rfl rfl ?_
            refine r_iv rfl rfl rfl rfl rfl rfl t2 (lyk t2 rfl) rfl (xe_of (xa_r (xa_i (xa_i xa_0))) rfl rfl) (r_d0 hd rfl) (a_X7_put x7 (-1) (r_d1 hd rfl) rx7 (rgk rfl) w t2 (fun h9 t9 u9 w => ?_))
            refine r_fV (pc1 := 49) rfl ?_
            have s9 := HX_trans s2 u9
            have w := w t9 u9
            exact Q5   h9 t9 s9  w
          refine r_lc (pc2 := 32) (t := 40) (pc1 := 35) rfl rfl rfl rfl rfl (fun c10 => ?_) (fun c10 => ?_)
          · have w := w.1 c10
            refine r_n (pc1 := 42) [.int (J 64), rv 57] _ rfl rfl ?_
            refine r_n (pc1 := 44) [.int (J x1), .int (J 64), rv 57] _ rfl rfl ?_
            refine r_iadd (pc1 := 45) rfl rfl ?_
            exact Q8  (wr (64 + x1))  (rgw _) w
          · have w := w.2 c10
            refine r_n (pc1 := 37) [.int (J x1), rv 57] _ rfl rfl ?_
            refine r_goto (t := 45) rfl rfl ?_
            exact Q8  x1  rx1 w
  exact Q3 _  0 h t0 (HX_refl h) (rgk rfl) (Nat.lt_succ_self _) w
def w_X7_heaviest (p0 : BitVec 64) (p1 : BitVec 64) (K : Int → Prop) (h : XH) : Prop :=
  ((∃ (I4 : Int → Int → Int → Prop) (m4 : Int → Int → Int → Nat), I4 (-1) (-1) 0 ∧ ∀ (x1 : Int) (x2 : Int) (x3 : Int), rg x1 → rg x2 → rg x3 → I4 x1 x2 x3 → (((64 ≤ x3 → (K x1)) ∧ (¬ (64 ≤ x3) → (∃ J7 : Int → Int → Prop, (∀ (x5 : Int) (x6 : Int), rg x5 → rg x6 → J7 x5 x6 → (∀ x8 : Int, x8 = wr (x3 + 1) → rg x8 → (I4 x5 x6 x8 ∧ m4 x5 x6 x8 < m4 x1 x2 x3))) ∧ (((lshr (p0 ||| p1) x3) &&& (1#64) = (0#64) → J7 x1 x2) ∧ (¬ ((lshr (p0 ||| p1) x3) &&& (1#64) = (0#64)) → ((0 ≤ x3 ∧ x3 < 64) ∧ ((hI h 67 x3.toNat ≤ x2 → J7 x1 x2) ∧ (¬ (hI h 67 x3.toNat ≤ x2) → (∀ x10 : Int, x10 = hI h 67 x3.toNat → rg x10 → ∃ J12 : Int → Prop, (∀ (x11 : Int), rg x11 → J12 x11 → (J7 x11 x10)) ∧ (((lshr p0 x3) &&& (1#64) = (0#64) → (J12 (wr (64 + x3)))) ∧ (¬ ((lshr p0 x3) &&& (1#64) = (0#64)) → (J12 x3)))))))))))))))
set_option maxHeartbeats 4000000 in
theorem a_X7_heaviest {sc : Nat × (Nat → Int32)} {goal : XO → XH → Prop} {fs : List XF} {h : XH} (p0 : BitVec 64) (p1 : BitVec 64) {K : Int → Prop} (hd : fs.length + 0 ≤ 1000) (w : w_X7_heaviest p0 p1 K h) (t0 : HT h) (k : ∀ (r : Int), rg r → K r → XFin xP sc goal fs (.inl (some (.int (J r)))) h) : RR sc goal fs 430 0 [some (rv 57), some (.long (G p0)), none, some (.long (G p1)), none, none, none, none] [] h := by
  unfold w_X7_heaviest at w
  refine r_n (pc1 := 1) [.int (J (-1))] _ rfl rfl ?_
  refine r_ist (pc1 := 3) (ls1 := [some (rv 57), some (.long (G p0)), none, some (.long (G p1)), none, some (.int (J (-1))), none, none]) rfl rfl rfl rfl ?_
  refine r_n (pc1 := 4) [.int (J (-1))] _ rfl rfl ?_
  refine r_ist (pc1 := 6) (ls1 := [some (rv 57), some (.long (G p0)), none, some (.long (G p1)), none, some (.int (J (-1))), some (.int (J (-1))), none]) rfl rfl rfl rfl ?_
  refine r_n (pc1 := 7) [.int (J 0)] _ rfl rfl ?_
  refine r_ist (pc1 := 9) (ls1 := [some (rv 57), some (.long (G p0)), none, some (.long (G p1)), none, some (.int (J (-1))), some (.int (J (-1))), some (.int (J 0))]) rfl rfl rfl rfl ?_
  obtain ⟨I4, m4, w, y4⟩ := w
  have Q4 : ∀ (n : Nat)  (x1 : Int) (x2 : Int) (x3 : Int), rg x1 → rg x2 → rg x3 → m4 x1 x2 x3 < n → I4 x1 x2 x3 → RR sc goal fs 430 9 [some (rv 57), some (.long (G p0)), none, some (.long (G p1)), none, some (.int (J x1)), some (.int (J x2)), some (.int (J x3))] [] h := by
    intro n
    induction n with
    | zero => intro x1 x2 x3 rx1 rx2 rx3 q4 _; exact absurd q4 (Nat.not_lt_zero _)
    | succ n ih4 =>
      intro x1 x2 x3 rx1 rx2 rx3 q4 z4
      have w := y4 x1 x2 x3 rx1 rx2 rx3 z4
      refine r_n (pc1 := 11) [.int (J x3)] _ rfl rfl ?_
      refine r_n (pc1 := 13) [.int (J 64), .int (J x3)] _ rfl rfl ?_
      refine r_ic (t := 79) (pc1 := 16) rfl rfl rfl rx3 (rgk rfl) (fun c16 => ?_) (fun c16 => ?_)
      · have w := w.1 c16
        refine r_n (pc1 := 81) [.int (J x1)] _ rfl rfl ?_
        exact r_retI rfl rfl rfl (k _ rx1 w)
      · have w := w.2 c16
        refine r_n (pc1 := 17) [.long (G p0)] _ rfl rfl ?_
        refine r_n (pc1 := 18) [.long (G p1), .long (G p0)] _ rfl rfl ?_
        refine r_lor (pc1 := 19) rfl rfl ?_
        refine r_n (pc1 := 21) [.int (J x3), .long (G (p0 ||| p1))] _ rfl rfl ?_
        refine r_lshr (pc1 := 22) rfl rfl ?_
        refine r_n (pc1 := 23) [.long (G (1#64)), .long (G (lshr (p0 ||| p1) x3))] _ rfl rfl ?_
        refine r_land (pc1 := 24) rfl rfl ?_
        refine r_n (pc1 := 25) [.long (G (0#64)), .long (G ((lshr (p0 ||| p1) x3) &&& (1#64)))] _ rfl rfl ?_
        obtain ⟨J7, j7, w⟩ := w
        have Q7 : ∀ (x5 : Int) (x6 : Int), rg x5 → rg x6 → J7 x5 x6 → RR sc goal fs 430 73 [some (rv 57), some (.long (G p0)), none, some (.long (G p1)), none, some (.int (J x5)), some (.int (J x6)), some (.int (J x3))] [] h := by
          intro x5 x6 rx5 rx6 z7
          have w := j7 x5 x6 rx5 rx6 z7
          refine r_inc (pc1 := 76) (g := fun zz => [some (rv 57), some (.long (G p0)), none, some (.long (G p1)), none, some (.int (J x5)), some (.int (J x6)), some (.int (J zz))]) rfl rfl rfl rfl (fun _ => rfl) (fun x8 ex8 rx8 => ?_)
          have w := w x8 ex8 rx8
          refine r_goto (t := 9) rfl rfl ?_
          exact ih4  x5 x6 x8  rx5 rx6 rx8 (Nat.lt_of_lt_of_le w.2 (Nat.le_of_lt_succ q4)) w.1
        refine r_lc (pc2 := 26) (t := 73) (pc1 := 29) rfl rfl rfl rfl rfl (fun c15 => ?_) (fun c15 => ?_)
        · have w := w.1 c15
          exact Q7  x1 x2  rx1 rx2 w
        · have w := w.2 c15
          refine r_aldn (pc1 := 30) rfl rfl rfl ?_
          refine r_gfC (pc1 := 33) (q := 67) rfl rfl rfl t0 (lyk t0 rfl) rfl rfl (lyR t0 rfl rfl) ?_
          refine r_n (pc1 := 35) [.int (J x3), rv 67] _ rfl rfl ?_
          obtain ⟨c9, w⟩ := w
          refine r_ial (pc1 := 36) rfl rfl t0 (lyk t0 rfl) rx3 c9.1 (lt_len (lyn t0 rfl) c9.2) ?_
          refine r_n (pc1 := 38) [.int (J x2), .int (J (hI h 67 x3.toNat))] _ rfl rfl ?_
          refine r_ic (t := 73) (pc1 := 41) rfl rfl rfl (rgh _ _ _) rx2 (fun c14 => ?_) (fun c14 => ?_)
          · have w := w.1 c14
            exact Q7  x1 x2  rx1 rx2 w
          · have w := w.2 c14
            refine r_aldn (pc1 := 42) rfl rfl rfl ?_
            refine r_gfC (pc1 := 45) (q := 67) rfl rfl rfl t0 (lyk t0 rfl) rfl rfl (lyR t0 rfl rfl) ?_
            refine r_n (pc1 := 47) [.int (J x3), rv 67] _ rfl rfl ?_
            refine r_ial (pc1 := 48) rfl rfl t0 (lyk t0 rfl) rx3 c9.1 (lt_len (lyn t0 rfl) c9.2) ?_
            refine r_vI (rgh _ _ _) (fun x10 ex10 rx10 => ?_)
            have w := w x10 ex10 rx10
            refine r_ist (pc1 := 50) (ls1 := [some (rv 57), some (.long (G p0)), none, some (.long (G p1)), none, some (.int (J x1)), some (.int (J x10)), some (.int (J x3))]) rfl rfl rfl rfl ?_
            refine r_n (pc1 := 51) [.long (G p0)] _ rfl rfl ?_
            refine r_n (pc1 := 53) [.int (J x3), .long (G p0)] _ rfl rfl ?_
            refine r_lshr (pc1 := 54) rfl rfl ?_
            refine r_n (pc1 := 55) [.long (G (1#64)), .long (G (lshr p0 x3))] _ rfl rfl ?_
            refine r_land (pc1 := 56) rfl rfl ?_
            refine r_n (pc1 := 57) [.long (G (0#64)), .long (G ((lshr p0 x3) &&& (1#64)))] _ rfl rfl ?_
            obtain ⟨J12, j12, w⟩ := w
            have Q12 : ∀ (x11 : Int), rg x11 → J12 x11 → RR sc goal fs 430 71 [some (rv 57), some (.long (G p0)), none, some (.long (G p1)), none, some (.int (J x1)), some (.int (J x10)), some (.int (J x3))] [.int (J x11)] h := by
              intro x11 rx11 z12
              have w := j12 x11 rx11 z12
              refine r_ist (pc1 := 73) (ls1 := [some (rv 57), some (.long (G p0)), none, some (.long (G p1)), none, some (.int (J x11)), some (.int (J x10)), some (.int (J x3))]) rfl rfl rfl rfl ?_
              exact Q7  x11 x10  rx11 rx10 w
            refine r_lc (pc2 := 58) (t := 66) (pc1 := 61) rfl rfl rfl rfl rfl (fun c13 => ?_) (fun c13 => ?_)
            · have w := w.1 c13
              refine r_n (pc1 := 68) [.int (J 64)] _ rfl rfl ?_
              refine r_n (pc1 := 70) [.int (J x3), .int (J 64)] _ rfl rfl ?_
              refine r_iadd (pc1 := 71) rfl rfl ?_
              exact Q12  (wr (64 + x3))  (rgw _) w
            · have w := w.2 c13
              refine r_n (pc1 := 63) [.int (J x3)] _ rfl rfl ?_
              refine r_goto (t := 71) rfl rfl ?_
              exact Q12  x3  rx3 w
  exact Q4 _  (-1) (-1) 0  (rgk rfl) (rgk rfl) (rgk rfl) (Nat.lt_succ_self _) w
def w_X7_choose  (K : Int → Prop) (h : XH) : Prop :=
  (∀ b1 : BitVec 64, b1 = (hL h 57 9) ||| ((hL h 57 3) &&& ((hL h 57 10) ^^^ (18446744073709551615#64))) → (∃ (I12 : Int → BitVec 64 → BitVec 64 → Int → Prop) (m12 : Int → BitVec 64 → BitVec 64 → Int → Nat), I12 128 (0#64) (0#64) 0 ∧ ∀ (x2 : Int) (b3 : BitVec 64) (b4 : BitVec 64) (x5 : Int), rg x2 → rg x5 → I12 x2 b3 b4 x5 → (((hI h 57 7 ≤ x5 → (w_X7_heaviest b3 b4 (fun x13 => rg x13 → (K x13)) h)) ∧ (¬ (hI h 57 7 ≤ x5) → ((0 ≤ x5 ∧ x5 < 3926) ∧ ∃ J24 : Int → BitVec 64 → BitVec 64 → Prop, (∀ (x15 : Int) (b16 : BitVec 64) (b17 : BitVec 64), rg x15 → J24 x15 b16 b17 → (∀ x25 : Int, x25 = wr (x5 + 1) → rg x25 → (I12 x15 b16 b17 x25 ∧ m12 x15 b16 b17 x25 < m12 x2 b3 b4 x5))) ∧ ((¬ (hL h 60 x5.toNat) &&& b1 = (0#64) → J24 x2 b3 b4) ∧ (¬ (¬ (hL h 60 x5.toNat) &&& b1 = (0#64)) → (((¬ (hL h 61 x5.toNat) &&& (b1 ^^^ (18446744073709551615#64)) = (0#64) → J24 x2 b3 b4) ∧ (¬ (¬ (hL h 61 x5.toNat) &&& (b1 ^^^ (18446744073709551615#64)) = (0#64)) → (w_X7_isTaken x5 (fun x26 => rg x26 → (x26 = 0 ∨ x26 = 1) → (((x26 = 0 → J24 x2 b3 b4) ∧ (¬ (x26 = 0) → (∀ b27 : BitVec 64, b27 = (hL h 60 x5.toNat) &&& ((hL h 57 10) ^^^ (18446744073709551615#64)) → ∀ b28 : BitVec 64, b28 = (hL h 61 x5.toNat) &&& ((hL h 57 9) ^^^ (18446744073709551615#64)) → w_J13_bitCount_95d88 b27 (fun x29 => rg x29 → (w_J13_bitCount_95d88 b28 (fun x30 => rg x30 → (∀ x31 : Int, x31 = wr (x29 + x30) → rg x31 → ∃ J33 : Int → Prop, (∀ (x32 : Int), rg x32 → J33 x32 → (∃ J35 : BitVec 64 → Prop, (∀ (b34 : BitVec 64), J35 b34 → (∃ J37 : BitVec 64 → Prop, (∀ (b36 : BitVec 64), J37 b36 → (w_J9_min_7cf53 x31 x2 (fun x38 => rg x38 → (J24 x38 b34 b36)) h)) ∧ ((x32 = 0 → (((¬ x31 = x2 → (J37 b4)) ∧ (¬ (¬ x31 = x2) → (J37 (b4 ||| b28)))))) ∧ (¬ (x32 = 0) → (J37 b28))))) ∧ ((x32 = 0 → (((¬ x31 = x2 → (J35 b3)) ∧ (¬ (¬ x31 = x2) → (J35 (b3 ||| b27)))))) ∧ (¬ (x32 = 0) → (J35 b27))))) ∧ ((x2 ≤ x31 → (J33 0)) ∧ (¬ (x2 ≤ x31) → (J33 1))))) h)) h))))) h))))))))))))
set_option maxHeartbeats 4000000 in
theorem a_X7_choose {sc : Nat × (Nat → Int32)} {goal : XO → XH → Prop} {fs : List XF} {h : XH}  {K : Int → Prop} (hd : fs.length + 1 ≤ 1000) (w : w_X7_choose  K h) (t0 : HT h) (k : ∀ (r : Int), rg r → K r → XFin xP sc goal fs (.inl (some (.int (J r)))) h) : RR sc goal fs 424 0 [some (rv 57), none, none, none, none, none, none, none, none, none, none, none, none, none, none] [] h := by
  unfold w_X7_choose at w
  refine r_aldn (pc1 := 1) rfl rfl rfl ?_
  refine r_gfL (pc1 := 4) rfl rfl rfl t0 (lyk t0 rfl) rfl rfl ?_
  refine r_aldn (pc1 := 5) rfl rfl rfl ?_
  refine r_gfL (pc1 := 8) rfl rfl rfl t0 (lyk t0 rfl) rfl rfl ?_
  refine r_aldn (pc1 := 9) rfl rfl rfl ?_
  refine r_gfL (pc1 := 12) rfl rfl rfl t0 (lyk t0 rfl) rfl rfl ?_
  refine r_n (pc1 := 15) [.long (G (18446744073709551615#64)), .long (G (hL h 57 10)), .long (G (hL h 57 3)), .long (G (hL h 57 9))] _ rfl rfl ?_
  refine r_lxor (pc1 := 16) rfl rfl ?_
  refine r_land (pc1 := 17) rfl rfl ?_
  refine r_lor (pc1 := 18) rfl rfl ?_
  refine r_vL (fun b1 eb1 => ?_)
  have w := w b1 eb1
  refine r_lstn (pc1 := 19) (ls1 := [some (rv 57), some (.long (G b1)), none, none, none, none, none, none, none, none, none, none, none, none, none]) rfl rfl rfl rfl ?_
  refine r_n (pc1 := 22) [.int (J 128)] _ rfl rfl ?_
  refine r_istn (pc1 := 23) (ls1 := [some (rv 57), some (.long (G b1)), none, some (.int (J 128)), none, none, none, none, none, none, none, none, none, none, none]) rfl rfl rfl rfl ?_
  refine r_n (pc1 := 24) [.long (G (0#64))] _ rfl rfl ?_
  refine r_lst (pc1 := 26) (ls1 := [some (rv 57), some (.long (G b1)), none, some (.int (J 128)), some (.long (G (0#64))), none, none, none, none, none, none, none, none, none, none]) rfl rfl rfl rfl ?_
  refine r_n (pc1 := 27) [.long (G (0#64))] _ rfl rfl ?_
  refine r_lst (pc1 := 29) (ls1 := [some (rv 57), some (.long (G b1)), none, some (.int (J 128)), some (.long (G (0#64))), none, some (.long (G (0#64))), none, none, none, none, none, none, none, none]) rfl rfl rfl rfl ?_
  refine r_n (pc1 := 30) [.int (J 0)] _ rfl rfl ?_
  refine r_ist (pc1 := 32) (ls1 := [some (rv 57), some (.long (G b1)), none, some (.int (J 128)), some (.long (G (0#64))), none, some (.long (G (0#64))), none, some (.int (J 0)), none, none, none, none, none, none]) rfl rfl rfl rfl ?_
  obtain ⟨I12, m12, w, y12⟩ := w
  have Q12 : ∀ (n : Nat) (d6 : Option Value) (d7 : Option Value) (d8 : Option Value) (d9 : Option Value) (d10 : Option Value) (d11 : Option Value) (x2 : Int) (b3 : BitVec 64) (b4 : BitVec 64) (x5 : Int), rg x2 → rg x5 → m12 x2 b3 b4 x5 < n → I12 x2 b3 b4 x5 → RR sc goal fs 424 32 [some (rv 57), some (.long (G b1)), none, some (.int (J x2)), some (.long (G b3)), none, some (.long (G b4)), none, some (.int (J x5)), d6, d7, d8, d9, d10, d11] [] h := by
    intro n
    induction n with
    | zero => intro d6 d7 d8 d9 d10 d11 x2 b3 b4 x5 rx2 rx5 q12 _; exact absurd q12 (Nat.not_lt_zero _)
    | succ n ih12 =>
      intro d6 d7 d8 d9 d10 d11 x2 b3 b4 x5 rx2 rx5 q12 z12
      have w := y12 x2 b3 b4 x5 rx2 rx5 z12
      refine r_n (pc1 := 34) [.int (J x5)] _ rfl rfl ?_
      refine r_aldn (pc1 := 35) rfl rfl rfl ?_
      refine r_gfI (pc1 := 38) rfl rfl rfl t0 (lyk t0 rfl) rfl rfl ?_
      refine r_ic (t := 213) (pc1 := 41) rfl rfl rfl rx5 (rgh _ _ _) (fun c47 => ?_) (fun c47 => ?_)
      · have w := w.1 c47
        refine r_aldn (pc1 := 214) rfl rfl rfl ?_
        refine r_n (pc1 := 216) [.long (G b3), rv 57] _ rfl rfl ?_
        refine r_n (pc1 := 218) [.long (G b4), .long (G b3), rv 57] _ rfl rfl ?_
        refine r_iv rfl rfl rfl rfl rfl rfl t0 (lyk t0 rfl) rfl (xe_of (xa_r (xa_l (xa_l xa_0))) rfl rfl) (r_d0 hd rfl) (a_X7_heaviest b3 b4 (r_d1 hd rfl)  w t0 (fun x13 rx13 w => ?_))
        refine r_fI (pc1 := 221) rfl ?_
        have w := w rx13
        exact r_retI rfl rfl rfl (k _ rx13 w)
      · have w := w.2 c47
        refine r_aldn (pc1 := 42) rfl rfl rfl ?_
        refine r_gfC (pc1 := 45) (q := 60) rfl rfl rfl t0 (lyk t0 rfl) rfl rfl (lyR t0 rfl rfl) ?_
        refine r_n (pc1 := 47) [.int (J x5), rv 60] _ rfl rfl ?_
        obtain ⟨c14, w⟩ := w
        refine r_lal (pc1 := 48) rfl rfl t0 (lyk t0 rfl) rx5 c14.1 (lt_len (lyn t0 rfl) c14.2) ?_
        refine r_n (pc1 := 49) [.long (G b1), .long (G (hL h 60 x5.toNat))] _ rfl rfl ?_
        refine r_land (pc1 := 50) rfl rfl ?_
        refine r_n (pc1 := 51) [.long (G (0#64)), .long (G ((hL h 60 x5.toNat) &&& b1))] _ rfl rfl ?_
        obtain ⟨J24, j24, w⟩ := w
        have Q24 : ∀ (d18 : Option Value) (d19 : Option Value) (d20 : Option Value) (d21 : Option Value) (d22 : Option Value) (d23 : Option Value) (x15 : Int) (b16 : BitVec 64) (b17 : BitVec 64), rg x15 → J24 x15 b16 b17 → RR sc goal fs 424 207 [some (rv 57), some (.long (G b1)), none, some (.int (J x15)), some (.long (G b16)), none, some (.long (G b17)), none, some (.int (J x5)), d18, d19, d20, d21, d22, d23] [] h := by
          intro d18 d19 d20 d21 d22 d23 x15 b16 b17 rx15 z24
          have w := j24 x15 b16 b17 rx15 z24
          refine r_inc (pc1 := 210) (g := fun zz => [some (rv 57), some (.long (G b1)), none, some (.int (J x15)), some (.long (G b16)), none, some (.long (G b17)), none, some (.int (J zz)), d18, d19, d20, d21, d22, d23]) rfl rfl rfl rfl (fun _ => rfl) (fun x25 ex25 rx25 => ?_)
          have w := w x25 ex25 rx25
          refine r_goto (t := 32) rfl rfl ?_
          exact ih12 _ _ _ _ _ _ x15 b16 b17 x25  rx15 rx25 (Nat.lt_of_lt_of_le w.2 (Nat.le_of_lt_succ q12)) w.1
        refine r_lc (pc2 := 52) (t := 207) (pc1 := 55) rfl rfl rfl rfl rfl (fun c46 => ?_) (fun c46 => ?_)
        · have w := w.1 c46
          exact Q24 _ _ _ _ _ _ x2 b3 b4  rx2 w
        · have w := w.2 c46
          refine r_aldn (pc1 := 56) rfl rfl rfl ?_
          refine r_gfC (pc1 := 59) (q := 61) rfl rfl rfl t0 (lyk t0 rfl) rfl rfl (lyR t0 rfl rfl) ?_
          refine r_n (pc1 := 61) [.int (J x5), rv 61] _ rfl rfl ?_
          refine r_lal (pc1 := 62) rfl rfl t0 (lyk t0 rfl) rx5 c14.1 (lt_len (lyn t0 rfl) c14.2) ?_
          refine r_n (pc1 := 63) [.long (G b1), .long (G (hL h 61 x5.toNat))] _ rfl rfl ?_
          refine r_n (pc1 := 66) [.long (G (18446744073709551615#64)), .long (G b1), .long (G (hL h 61 x5.toNat))] _ rfl rfl ?_
          refine r_lxor (pc1 := 67) rfl rfl ?_
          refine r_land (pc1 := 68) rfl rfl ?_
          refine r_n (pc1 := 69) [.long (G (0#64)), .long (G ((hL h 61 x5.toNat) &&& (b1 ^^^ (18446744073709551615#64))))] _ rfl rfl ?_
          refine r_lc (pc2 := 70) (t := 207) (pc1 := 73) rfl rfl rfl rfl rfl (fun c45 => ?_) (fun c45 => ?_)
          · have w := w.1 c45
            exact Q24 _ _ _ _ _ _ x2 b3 b4  rx2 w
          · have w := w.2 c45
            refine r_aldn (pc1 := 74) rfl rfl rfl ?_
            refine r_n (pc1 := 76) [.int (J x5), rv 57] _ rfl rfl ?_
            refine r_iv rfl rfl rfl rfl rfl rfl t0 (lyk t0 rfl) rfl (xe_of (xa_r (xa_i xa_0)) rfl rfl) (r_d0 hd rfl) (a_X7_isTaken x5 (r_d1 hd rfl) rx5 w t0 (fun x26 rx26 vx26 w => ?_))
            refine r_fI (pc1 := 79) rfl ?_
            have w := w rx26 vx26
            refine r_iz (t := 207) (pc1 := 82) rfl rfl rfl rx26 (fun c44 => ?_) (fun c44 => ?_)
            · have w := w.1 c44
              exact Q24 _ _ _ _ _ _ x2 b3 b4  rx2 w
            · have w := w.2 c44
              refine r_aldn (pc1 := 83) rfl rfl rfl ?_
              refine r_gfC (pc1 := 86) (q := 60) rfl rfl rfl t0 (lyk t0 rfl) rfl rfl (lyR t0 rfl rfl) ?_
              refine r_n (pc1 := 88) [.int (J x5), rv 60] _ rfl rfl ?_
              refine r_lal (pc1 := 89) rfl rfl t0 (lyk t0 rfl) rx5 c14.1 (lt_len (lyn t0 rfl) c14.2) ?_
              refine r_aldn (pc1 := 90) rfl rfl rfl ?_
              refine r_gfL (pc1 := 93) rfl rfl rfl t0 (lyk t0 rfl) rfl rfl ?_
              refine r_n (pc1 := 96) [.long (G (18446744073709551615#64)), .long (G (hL h 57 10)), .long (G (hL h 60 x5.toNat))] _ rfl rfl ?_
              refine r_lxor (pc1 := 97) rfl rfl ?_
              refine r_land (pc1 := 98) rfl rfl ?_
              refine r_vL (fun b27 eb27 => ?_)
              have w := w b27 eb27
              refine r_lst (pc1 := 100) (ls1 := [some (rv 57), some (.long (G b1)), none, some (.int (J x2)), some (.long (G b3)), none, some (.long (G b4)), none, some (.int (J x5)), some (.long (G b27)), none, d8, d9, d10, d11]) rfl rfl rfl rfl ?_
              refine r_aldn (pc1 := 101) rfl rfl rfl ?_
              refine r_gfC (pc1 := 104) (q := 61) rfl rfl rfl t0 (lyk t0 rfl) rfl rfl (lyR t0 rfl rfl) ?_
              refine r_n (pc1 := 106) [.int (J x5), rv 61] _ rfl rfl ?_
              refine r_lal (pc1 := 107) rfl rfl t0 (lyk t0 rfl) rx5 c14.1 (lt_len (lyn t0 rfl) c14.2) ?_
              refine r_aldn (pc1 := 108) rfl rfl rfl ?_
              refine r_gfL (pc1 := 111) rfl rfl rfl t0 (lyk t0 rfl) rfl rfl ?_
              refine r_n (pc1 := 114) [.long (G (18446744073709551615#64)), .long (G (hL h 57 9)), .long (G (hL h 61 x5.toNat))] _ rfl rfl ?_
              refine r_lxor (pc1 := 115) rfl rfl ?_
              refine r_land (pc1 := 116) rfl rfl ?_
              refine r_vL (fun b28 eb28 => ?_)
              have w := w b28 eb28
              refine r_lst (pc1 := 118) (ls1 := [some (rv 57), some (.long (G b1)), none, some (.int (J x2)), some (.long (G b3)), none, some (.long (G b4)), none, some (.int (J x5)), some (.long (G b27)), none, some (.long (G b28)), none, d10, d11]) rfl rfl rfl rfl ?_
              refine r_n (pc1 := 120) [.long (G b27)] _ rfl rfl ?_
              refine r_iq rfl rfl rfl rfl rfl rfl (xe_of (xa_l xa_0) rfl rfl) (r_d0 hd rfl) (a_J13_bitCount_95d88 b27 (r_d1 hd rfl)  w t0 (fun x29 rx29 w => ?_))
              refine r_fI (pc1 := 123) rfl ?_
              have w := w rx29
              refine r_n (pc1 := 125) [.long (G b28), .int (J x29)] _ rfl rfl ?_
              refine r_iq rfl rfl rfl rfl rfl rfl (xe_of (xa_l xa_0) rfl rfl) (r_d0 hd rfl) (a_J13_bitCount_95d88 b28 (r_d1 hd rfl)  w t0 (fun x30 rx30 w => ?_))
              refine r_fI (pc1 := 128) rfl ?_
              have w := w rx30
              refine r_iadd (pc1 := 129) rfl rfl ?_
              refine r_vI (rgw _) (fun x31 ex31 rx31 => ?_)
              have w := w x31 ex31 rx31
              refine r_ist (pc1 := 131) (ls1 := [some (rv 57), some (.long (G b1)), none, some (.int (J x2)), some (.long (G b3)), none, some (.long (G b4)), none, some (.int (J x5)), some (.long (G b27)), none, some (.long (G b28)), none, some (.int (J x31)), d11]) rfl rfl rfl rfl ?_
              refine r_n (pc1 := 133) [.int (J x31)] _ rfl rfl ?_
              refine r_n (pc1 := 134) [.int (J x2), .int (J x31)] _ rfl rfl ?_
              obtain ⟨J33, j33, w⟩ := w
              have Q33 : ∀ (x32 : Int), rg x32 → J33 x32 → RR sc goal fs 424 142 [some (rv 57), some (.long (G b1)), none, some (.int (J x2)), some (.long (G b3)), none, some (.long (G b4)), none, some (.int (J x5)), some (.long (G b27)), none, some (.long (G b28)), none, some (.int (J x31)), d11] [.int (J x32)] h := by
                intro x32 rx32 z33
                have w := j33 x32 rx32 z33
                refine r_ist (pc1 := 144) (ls1 := [some (rv 57), some (.long (G b1)), none, some (.int (J x2)), some (.long (G b3)), none, some (.long (G b4)), none, some (.int (J x5)), some (.long (G b27)), none, some (.long (G b28)), none, some (.int (J x31)), some (.int (J x32))]) rfl rfl rfl rfl ?_
                refine r_n (pc1 := 146) [.int (J x32)] _ rfl rfl ?_
                obtain ⟨J35, j35, w⟩ := w
                have Q35 : ∀ (b34 : BitVec 64), J35 b34 → RR sc goal fs 424 170 [some (rv 57), some (.long (G b1)), none, some (.int (J x2)), some (.long (G b3)), none, some (.long (G b4)), none, some (.int (J x5)), some (.long (G b27)), none, some (.long (G b28)), none, some (.int (J x31)), some (.int (J x32))] [.long (G b34)] h := by
                  intro b34 z35
                  have w := j35 b34 z35
                  refine r_lst (pc1 := 172) (ls1 := [some (rv 57), some (.long (G b1)), none, some (.int (J x2)), some (.long (G b34)), none, some (.long (G b4)), none, some (.int (J x5)), some (.long (G b27)), none, some (.long (G b28)), none, some (.int (J x31)), some (.int (J x32))]) rfl rfl rfl rfl ?_
                  refine r_n (pc1 := 174) [.int (J x32)] _ rfl rfl ?_
                  obtain ⟨J37, j37, w⟩ := w
                  have Q37 : ∀ (b36 : BitVec 64), J37 b36 → RR sc goal fs 424 198 [some (rv 57), some (.long (G b1)), none, some (.int (J x2)), some (.long (G b34)), none, some (.long (G b4)), none, some (.int (J x5)), some (.long (G b27)), none, some (.long (G b28)), none, some (.int (J x31)), some (.int (J x32))] [.long (G b36)] h := by
                    intro b36 z37
                    have w := j37 b36 z37
                    refine r_lst (pc1 := 200) (ls1 := [some (rv 57), some (.long (G b1)), none, some (.int (J x2)), some (.long (G b34)), none, some (.long (G b36)), none, some (.int (J x5)), some (.long (G b27)), none, some (.long (G b28)), none, some (.int (J x31)), some (.int (J x32))]) rfl rfl rfl rfl ?_
                    refine r_n (pc1 := 202) [.int (J x31)] _ rfl rfl ?_
                    refine r_n (pc1 := 203) [.int (J x2), .int (J x31)] _ rfl rfl ?_
                    refine r_iq rfl rfl rfl rfl rfl rfl (xe_of (xa_i (xa_i xa_0)) rfl rfl) (r_d0 hd rfl) (a_J9_min_7cf53 x31 x2 (r_d1 hd rfl) rx31 rx2 w t0 (fun x38 rx38 w => ?_))
                    refine r_fI (pc1 := 206) rfl ?_
                    have w := w rx38
                    refine r_istn (pc1 := 207) (ls1 := [some (rv 57), some (.long (G b1)), none, some (.int (J x38)), some (.long (G b34)), none, some (.long (G b36)), none, some (.int (J x5)), some (.long (G b27)), none, some (.long (G b28)), none, some (.int (J x31)), some (.int (J x32))]) rfl rfl rfl rfl ?_
                    exact Q24 _ _ _ _ _ _ x38 b34 b36  rx38 w
                  refine r_iz (t := 182) (pc1 := 177) rfl rfl rfl rx32 (fun c40 => ?_) (fun c40 => ?_)
                  · have w := w.1 c40
                    refine r_n (pc1 := 184) [.int (J x31)] _ rfl rfl ?_
                    refine r_n (pc1 := 185) [.int (J x2), .int (J x31)] _ rfl rfl ?_
                    refine r_ic (t := 196) (pc1 := 188) rfl rfl rfl rx31 rx2 (fun c39 => ?_) (fun c39 => ?_)
                    · have w := w.1 c39
                      refine r_n (pc1 := 198) [.long (G b4)] _ rfl rfl ?_
                      exact Q37  b4   w
                    · have w := w.2 c39
                      refine r_n (pc1 := 190) [.long (G b4)] _ rfl rfl ?_
                      refine r_n (pc1 := 192) [.long (G b28), .long (G b4)] _ rfl rfl ?_
                      refine r_lor (pc1 := 193) rfl rfl ?_
                      refine r_goto (t := 198) rfl rfl ?_
                      exact Q37  (b4 ||| b28)   w
                  · have w := w.2 c40
                    refine r_n (pc1 := 179) [.long (G b28)] _ rfl rfl ?_
                    refine r_goto (t := 198) rfl rfl ?_
                    exact Q37  b28   w
                refine r_iz (t := 154) (pc1 := 149) rfl rfl rfl rx32 (fun c42 => ?_) (fun c42 => ?_)
                · have w := w.1 c42
                  refine r_n (pc1 := 156) [.int (J x31)] _ rfl rfl ?_
                  refine r_n (pc1 := 157) [.int (J x2), .int (J x31)] _ rfl rfl ?_
                  refine r_ic (t := 168) (pc1 := 160) rfl rfl rfl rx31 rx2 (fun c41 => ?_) (fun c41 => ?_)
                  · have w := w.1 c41
                    refine r_n (pc1 := 170) [.long (G b3)] _ rfl rfl ?_
                    exact Q35  b3   w
                  · have w := w.2 c41
                    refine r_n (pc1 := 162) [.long (G b3)] _ rfl rfl ?_
                    refine r_n (pc1 := 164) [.long (G b27), .long (G b3)] _ rfl rfl ?_
                    refine r_lor (pc1 := 165) rfl rfl ?_
                    refine r_goto (t := 170) rfl rfl ?_
                    exact Q35  (b3 ||| b27)   w
                · have w := w.2 c42
                  refine r_n (pc1 := 151) [.long (G b27)] _ rfl rfl ?_
                  refine r_goto (t := 170) rfl rfl ?_
                  exact Q35  b27   w
              refine r_ic (t := 141) (pc1 := 137) rfl rfl rfl rx31 rx2 (fun c43 => ?_) (fun c43 => ?_)
              · have w := w.1 c43
                refine r_n (pc1 := 142) [.int (J 0)] _ rfl rfl ?_
                exact Q33  0  (rgk rfl) w
              · have w := w.2 c43
                refine r_n (pc1 := 138) [.int (J 1)] _ rfl rfl ?_
                refine r_goto (t := 142) rfl rfl ?_
                exact Q33  1  (rgk rfl) w
  exact Q12 _ _ _ _ _ _ _ 128 (0#64) (0#64) 0  (rgk rfl) (rgk rfl) (Nat.lt_succ_self _) w
def w_X7_canHold (p0 : BitVec 64) (p1 : BitVec 64) (K : Int → XH → Prop) (h : XH) : Prop :=
  (w_X7_back 0 (fun h1 => HT h1 → HX h h1 → (∀ h2 : XH, h2 = sI h1 57 14 0 → HT h2 → HX h1 h2 → ∃ J4 : XH → Prop, (∀ (h3 : XH), HT h3 → HX h h3 → J4 h3 → (K 0 h3)) ∧ ((¬ p0 &&& p1 = (0#64) → J4 h2) ∧ (¬ (¬ p0 &&& p1 = (0#64)) → (w_X7_hasEmpty (fun x5 h6 => HT h6 → HX h2 h6 → rg x5 → (x5 = 0 ∨ x5 = 1) → (((x5 = 0 → ((∃ (I11 : BitVec 64 → XH → Prop) (m11 : BitVec 64 → XH → Nat), I11 (0#64) h6 ∧ ∀ (b7 : BitVec 64) (h10 : XH), HT h10 → HX h h10 → I11 b7 h10 → ((((1152921504606846976#64).toInt ≤ b7.toInt → (K 0 h10)) ∧ (¬ ((1152921504606846976#64).toInt ≤ b7.toInt) → (w_X7_draw (fun x12 h13 => HT h13 → HX h10 h13 → rg x12 → (∃ J17 : XH → Prop, (∀ (h16 : XH), HT h16 → HX h h16 → J17 h16 → (∀ b18 : BitVec 64, b18 = b7 + (1#64) → (I11 b18 h16 ∧ m11 b18 h16 < m11 b7 h10))) ∧ ((x12 = (-1) → (((¬ hI h13 57 11 = 0 → (w_X7_choose (fun x19 => rg x19 → (((¬ x19 = (-1) → (w_X7_deepen (fun h20 => HT h20 → HX h13 h20 → (w_X7_put x19 (-1) (fun h21 => HT h21 → HX h20 h21 → J17 h21) h20)) h13)) ∧ (¬ (¬ x19 = (-1)) → (K 1 h13))))) h13)) ∧ (¬ (¬ hI h13 57 11 = 0) → ((((p0 &&& (hL h13 57 10)) ||| (p1 &&& (hL h13 57 9)) = (0#64) → (w_X7_deepen (fun h23 => HT h23 → HX h13 h23 → (w_X7_putAll (p0 &&& ((hL h23 57 9) ^^^ (18446744073709551615#64))) (p1 &&& ((hL h23 57 10) ^^^ (18446744073709551615#64))) (fun h24 => HT h24 → HX h23 h24 → (J17 h24)) h23)) h13)) ∧ (¬ ((p0 &&& (hL h13 57 10)) ||| (p1 &&& (hL h13 57 9)) = (0#64)) → (K 0 h13)))))))) ∧ (¬ (x12 = (-1)) → (w_X7_trace x12 (fun h27 => HT h27 → HX h13 h27 → (((2 ≤ hI h27 57 11 → (w_X7_levelBelow (fun x28 => rg x28 → (w_X7_back x28 (fun h29 => HT h29 → HX h27 h29 → (∃ J31 : XH → Prop, (∀ (h30 : XH), HT h30 → HX h h30 → J31 h30 → (w_X7_keep (fun h32 => HT h32 → HX h30 h32 → (J17 h32)) h30)) ∧ ((hI h29 57 8 < wr ((hI h29 57 7) + 160) → J31 h29) ∧ (¬ (hI h29 57 8 < wr ((hI h29 57 7) + 160)) → (w_X7_forget (fun h33 => HT h33 → HX h29 h33 → (w_X7_watchAll (fun h34 => HT h34 → HX h33 h34 → J31 h34) h33)) h29))))) h27)) h27)) ∧ (¬ (2 ≤ hI h27 57 11) → (K 0 h27))))) h13))))) h10))))))) ∧ (¬ (x5 = 0) → J4 h6)))) h2))))) h)
set_option maxHeartbeats 4000000 in
theorem a_X7_canHold {sc : Nat × (Nat → Int32)} {goal : XO → XH → Prop} {fs : List XF} {h : XH} (p0 : BitVec 64) (p1 : BitVec 64) {K : Int → XH → Prop} (hd : fs.length + 4 ≤ 1000) (w : w_X7_canHold p0 p1 K h) (t0 : HT h) (k : ∀ (r : Int) (h1 : XH), HT h1 → HX h h1 → rg r → (r = 0 ∨ r = 1) → K r h1 → XFin xP sc goal fs (.inl (some (.int (J r)))) h1) : RR sc goal fs 423 0 [some (rv 57), some (.long (G p0)), none, some (.long (G p1)), none, none, none, none, none] [] h := by
  unfold w_X7_canHold at w
  refine r_aldn (pc1 := 1) rfl rfl rfl ?_
  refine r_n (pc1 := 2) [.int (J 0), rv 57] _ rfl rfl ?_
  refine r_iv rfl rfl rfl rfl rfl rfl t0 (lyk t0 rfl) rfl (xe_of (xa_r (xa_i xa_0)) rfl rfl) (r_d0 hd rfl) (a_X7_back 0 (r_d1 hd rfl) (rgk rfl) w t0 (fun h1 t1 u1 w => ?_))
  refine r_fV (pc1 := 5) rfl ?_
  have s1 := HX_trans (HX_refl h) u1
  have w := w t1 u1
  refine r_aldn (pc1 := 6) rfl rfl rfl ?_
  refine r_n (pc1 := 7) [.int (J 0), rv 57] _ rfl rfl ?_
  refine r_pfI (pc1 := 10) rfl rfl rfl t1 (lyk t1 rfl) rfl rfl rfl (fun h2 eh2 t2 u2 => ?_)
  have w := w h2 eh2 t2 u2
  have s2 := HX_trans s1 u2
  refine r_n (pc1 := 11) [.long (G p0)] _ rfl rfl ?_
  refine r_n (pc1 := 12) [.long (G p1), .long (G p0)] _ rfl rfl ?_
  refine r_land (pc1 := 13) rfl rfl ?_
  refine r_n (pc1 := 14) [.long (G (0#64)), .long (G (p0 &&& p1))] _ rfl rfl ?_
  obtain ⟨J4, j4, w⟩ := w
  have Q4 : ∀ (h3 : XH), HT h3 → HX h h3 → J4 h3 → RR sc goal fs 423 25 [some (rv 57), some (.long (G p0)), none, some (.long (G p1)), none, none, none, none, none] [] h3 := by
    intro h3 t3 s3 z4
    have w := j4 h3 t3 s3 z4
    refine r_n (pc1 := 26) [.int (J 0)] _ rfl rfl ?_
    exact r_retB rfl rfl rfl (.inl rfl) (k _ _ t3 s3 (rgk rfl) (.inl rfl) w)
  refine r_lc (pc2 := 15) (t := 25) (pc1 := 18) rfl rfl rfl rfl rfl (fun c40 => ?_) (fun c40 => ?_)
  · have w := w.1 c40
    exact Q4   h2 t2 s2  w
  · have w := w.2 c40
    refine r_aldn (pc1 := 19) rfl rfl rfl ?_
    refine r_iv rfl rfl rfl rfl rfl rfl t2 (lyk t2 rfl) rfl (xe_of (xa_r xa_0) rfl rfl) (r_d0 hd rfl) (a_X7_hasEmpty  (r_d1 hd rfl)  w t2 (fun x5 h6 t6 u6 rx5 vx5 w => ?_))
    refine r_fI (pc1 := 22) rfl ?_
    have s6 := HX_trans s2 u6
    have w := w t6 u6
    have w := w rx5 vx5
    refine r_iz (t := 27) (pc1 := 25) rfl rfl rfl rx5 (fun c39 => ?_) (fun c39 => ?_)
    · have w := w.1 c39
      refine r_n (pc1 := 28) [.long (G (0#64))] _ rfl rfl ?_
      refine r_lst (pc1 := 30) (ls1 := [some (rv 57), some (.long (G p0)), none, some (.long (G p1)), none, some (.long (G (0#64))), none, none, none]) rfl rfl rfl rfl ?_
      obtain ⟨I11, m11, w, y11⟩ := w
      have Q11 : ∀ (n : Nat) (d8 : Option Value) (d9 : Option Value) (b7 : BitVec 64) (h10 : XH), HT h10 → HX h h10 → m11 b7 h10 < n → I11 b7 h10 → RR sc goal fs 423 30 [some (rv 57), some (.long (G p0)), none, some (.long (G p1)), none, some (.long (G b7)), none, d8, d9] [] h10 := by
        intro n
        induction n with
        | zero => intro d8 d9 b7 h10 t10 s10 q11 _; exact absurd q11 (Nat.not_lt_zero _)
        | succ n ih11 =>
          intro d8 d9 b7 h10 t10 s10 q11 z11
          have w := y11 b7 h10 t10 s10 z11
          refine r_n (pc1 := 32) [.long (G b7)] _ rfl rfl ?_
          refine r_n (pc1 := 35) [.long (G (1152921504606846976#64)), .long (G b7)] _ rfl rfl ?_
          refine r_lc (pc2 := 36) (t := 197) (pc1 := 39) rfl rfl rfl rfl rfl (fun c38 => ?_) (fun c38 => ?_)
          · have w := w.1 c38
            refine r_n (pc1 := 198) [.int (J 0)] _ rfl rfl ?_
            exact r_retB rfl rfl rfl (.inl rfl) (k _ _ t10 s10 (rgk rfl) (.inl rfl) w)
          · have w := w.2 c38
            refine r_aldn (pc1 := 40) rfl rfl rfl ?_
            refine r_iv rfl rfl rfl rfl rfl rfl t10 (lyk t10 rfl) rfl (xe_of (xa_r xa_0) rfl rfl) (r_d0 hd rfl) (a_X7_draw  (r_d1 hd rfl)  w t10 (fun x12 h13 t13 u13 rx12 w => ?_))
            refine r_fI (pc1 := 43) rfl ?_
            have s13 := HX_trans s10 u13
            have w := w t13 u13
            have w := w rx12
            refine r_ist (pc1 := 45) (ls1 := [some (rv 57), some (.long (G p0)), none, some (.long (G p1)), none, some (.long (G b7)), none, some (.int (J x12)), d9]) rfl rfl rfl rfl ?_
            refine r_n (pc1 := 47) [.int (J x12)] _ rfl rfl ?_
            refine r_n (pc1 := 48) [.int (J (-1)), .int (J x12)] _ rfl rfl ?_
            obtain ⟨J17, j17, w⟩ := w
            have Q17 : ∀ (d14 : Option Value) (d15 : Option Value) (h16 : XH), HT h16 → HX h h16 → J17 h16 → RR sc goal fs 423 188 [some (rv 57), some (.long (G p0)), none, some (.long (G p1)), none, some (.long (G b7)), none, d14, d15] [] h16 := by
              intro d14 d15 h16 t16 s16 z17
              have w := j17 h16 t16 s16 z17
              refine r_n (pc1 := 190) [.long (G b7)] _ rfl rfl ?_
              refine r_n (pc1 := 191) [.long (G (1#64)), .long (G b7)] _ rfl rfl ?_
              refine r_ladd (pc1 := 192) rfl rfl ?_
              refine r_vL (fun b18 eb18 => ?_)
              have w := w b18 eb18
              refine r_lst (pc1 := 194) (ls1 := [some (rv 57), some (.long (G p0)), none, some (.long (G p1)), none, some (.long (G b18)), none, d14, d15]) rfl rfl rfl rfl ?_
              refine r_goto (t := 30) rfl rfl ?_
              exact ih11 _ _ b18 h16 t16 s16  (Nat.lt_of_lt_of_le w.2 (Nat.le_of_lt_succ q11)) w.1
            refine r_ic (t := 105) (pc1 := 51) rfl rfl rfl rx12 (rgk rfl) (fun c37 => ?_) (fun c37 => ?_)
            · have w := w.1 c37
              refine r_aldn (pc1 := 106) rfl rfl rfl ?_
              refine r_gfI (pc1 := 109) rfl rfl rfl t13 (lyk t13 rfl) rfl rfl ?_
              refine r_iz (t := 163) (pc1 := 112) rfl rfl rfl (rgh _ _ _) (fun c26 => ?_) (fun c26 => ?_)
              · have w := w.1 c26
                refine r_aldn (pc1 := 164) rfl rfl rfl ?_
                refine r_iv rfl rfl rfl rfl rfl rfl t13 (lyk t13 rfl) rfl (xe_of (xa_r xa_0) rfl rfl) (r_d0 hd rfl) (a_X7_choose  (r_d1 hd rfl)  w t13 (fun x19 rx19 w => ?_))
                refine r_fI (pc1 := 167) rfl ?_
                have w := w rx19
                refine r_ist (pc1 := 169) (ls1 := [some (rv 57), some (.long (G p0)), none, some (.long (G p1)), none, some (.long (G b7)), none, some (.int (J x12)), some (.int (J x19))]) rfl rfl rfl rfl ?_
                refine r_n (pc1 := 171) [.int (J x19)] _ rfl rfl ?_
                refine r_n (pc1 := 172) [.int (J (-1)), .int (J x19)] _ rfl rfl ?_
                refine r_ic (t := 177) (pc1 := 175) rfl rfl rfl rx19 (rgk rfl) (fun c22 => ?_) (fun c22 => ?_)
                · have w := w.1 c22
                  refine r_aldn (pc1 := 178) rfl rfl rfl ?_
                  refine r_iv rfl rfl rfl rfl rfl rfl t13 (lyk t13 rfl) rfl (xe_of (xa_r xa_0) rfl rfl) (r_d0 hd rfl) (a_X7_deepen  (r_d1 hd rfl)  w t13 (fun h20 t20 u20 w => ?_))
                  refine r_fV (pc1 := 181) rfl ?_
                  have s20 := HX_trans s13 u20
                  have w := w t20 u20
                  refine r_aldn (pc1 := 182) rfl rfl rfl ?_
                  refine r_n (pc1 := 184) [.int (J x19), rv 57] _ rfl rfl ?_
                  refine r_n (pc1 := 185) [.int (J (-1)), .int (J x19), rv 57] _ rfl rfl ?_
                  refine r_iv rfl rfl rfl rfl rfl rfl t20 (lyk t20 rfl) rfl (xe_of (xa_r (xa_i (xa_i xa_0))) rfl rfl) (r_d0 hd rfl) (a_X7_put x19 (-1) (r_d1 hd rfl) rx19 (rgk rfl) w t20 (fun h21 t21 u21 w => ?_))
                  refine r_fV (pc1 := 188) rfl ?_
                  have s21 := HX_trans s20 u21
                  have w := w t21 u21
                  exact Q17 _ _  h21 t21 s21  w
                · have w := w.2 c22
                  refine r_n (pc1 := 176) [.int (J 1)] _ rfl rfl ?_
                  exact r_retB rfl rfl rfl (.inr rfl) (k _ _ t13 s13 (rgk rfl) (.inr rfl) w)
              · have w := w.2 c26
                refine r_n (pc1 := 113) [.long (G p0)] _ rfl rfl ?_
                refine r_aldn (pc1 := 114) rfl rfl rfl ?_
                refine r_gfL (pc1 := 117) rfl rfl rfl t13 (lyk t13 rfl) rfl rfl ?_
                refine r_land (pc1 := 118) rfl rfl ?_
                refine r_n (pc1 := 119) [.long (G p1), .long (G (p0 &&& (hL h13 57 10)))] _ rfl rfl ?_
                refine r_aldn (pc1 := 120) rfl rfl rfl ?_
                refine r_gfL (pc1 := 123) rfl rfl rfl t13 (lyk t13 rfl) rfl rfl ?_
                refine r_land (pc1 := 124) rfl rfl ?_
                refine r_lor (pc1 := 125) rfl rfl ?_
                refine r_n (pc1 := 126) [.long (G (0#64)), .long (G ((p0 &&& (hL h13 57 10)) ||| (p1 &&& (hL h13 57 9))))] _ rfl rfl ?_
                refine r_lc (pc2 := 127) (t := 132) (pc1 := 130) rfl rfl rfl rfl rfl (fun c25 => ?_) (fun c25 => ?_)
                · have w := w.1 c25
                  refine r_aldn (pc1 := 133) rfl rfl rfl ?_
                  refine r_iv rfl rfl rfl rfl rfl rfl t13 (lyk t13 rfl) rfl (xe_of (xa_r xa_0) rfl rfl) (r_d0 hd rfl) (a_X7_deepen  (r_d1 hd rfl)  w t13 (fun h23 t23 u23 w => ?_))
                  refine r_fV (pc1 := 136) rfl ?_
                  have s23 := HX_trans s13 u23
                  have w := w t23 u23
                  refine r_aldn (pc1 := 137) rfl rfl rfl ?_
                  refine r_n (pc1 := 138) [.long (G p0), rv 57] _ rfl rfl ?_
                  refine r_aldn (pc1 := 139) rfl rfl rfl ?_
                  refine r_gfL (pc1 := 142) rfl rfl rfl t23 (lyk t23 rfl) rfl rfl ?_
                  refine r_n (pc1 := 145) [.long (G (18446744073709551615#64)), .long (G (hL h23 57 9)), .long (G p0), rv 57] _ rfl rfl ?_
                  refine r_lxor (pc1 := 146) rfl rfl ?_
                  refine r_land (pc1 := 147) rfl rfl ?_
                  refine r_n (pc1 := 148) [.long (G p1), .long (G (p0 &&& ((hL h23 57 9) ^^^ (18446744073709551615#64)))), rv 57] _ rfl rfl ?_
                  refine r_aldn (pc1 := 149) rfl rfl rfl ?_
                  refine r_gfL (pc1 := 152) rfl rfl rfl t23 (lyk t23 rfl) rfl rfl ?_
                  refine r_n (pc1 := 155) [.long (G (18446744073709551615#64)), .long (G (hL h23 57 10)), .long (G p1), .long (G (p0 &&& ((hL h23 57 9) ^^^ (18446744073709551615#64)))), rv 57] _ rfl rfl ?_
                  refine r_lxor (pc1 := 156) rfl rfl ?_
                  refine r_land (pc1 := 157) rfl rfl ?_
                  refine r_iv rfl rfl rfl rfl rfl rfl t23 (lyk t23 rfl) rfl (xe_of (xa_r (xa_l (xa_l xa_0))) rfl rfl) (r_d0 hd rfl) (a_X7_putAll (p0 &&& ((hL h23 57 9) ^^^ (18446744073709551615#64))) (p1 &&& ((hL h23 57 10) ^^^ (18446744073709551615#64))) (r_d1 hd rfl)  w t23 (fun h24 t24 u24 w => ?_))
                  refine r_fV (pc1 := 160) rfl ?_
                  have s24 := HX_trans s23 u24
                  have w := w t24 u24
                  refine r_goto (t := 188) rfl rfl ?_
                  exact Q17 _ _  h24 t24 s24  w
                · have w := w.2 c25
                  refine r_n (pc1 := 131) [.int (J 0)] _ rfl rfl ?_
                  exact r_retB rfl rfl rfl (.inl rfl) (k _ _ t13 s13 (rgk rfl) (.inl rfl) w)
            · have w := w.2 c37
              refine r_aldn (pc1 := 52) rfl rfl rfl ?_
              refine r_n (pc1 := 54) [.int (J x12), rv 57] _ rfl rfl ?_
              refine r_iv rfl rfl rfl rfl rfl rfl t13 (lyk t13 rfl) rfl (xe_of (xa_r (xa_i xa_0)) rfl rfl) (r_d0 hd rfl) (a_X7_trace x12 (r_d1 hd rfl) rx12 w t13 (fun h27 t27 u27 w => ?_))
              refine r_fV (pc1 := 57) rfl ?_
              have s27 := HX_trans s13 u27
              have w := w t27 u27
              refine r_aldn (pc1 := 58) rfl rfl rfl ?_
              refine r_gfI (pc1 := 61) rfl rfl rfl t27 (lyk t27 rfl) rfl rfl ?_
              refine r_n (pc1 := 62) [.int (J 2), .int (J (hI h27 57 11))] _ rfl rfl ?_
              refine r_ic (t := 67) (pc1 := 65) rfl rfl rfl (rgh _ _ _) (rgk rfl) (fun c36 => ?_) (fun c36 => ?_)
              · have w := w.1 c36
                refine r_aldn (pc1 := 68) rfl rfl rfl ?_
                refine r_aldn (pc1 := 69) rfl rfl rfl ?_
                refine r_iv rfl rfl rfl rfl rfl rfl t27 (lyk t27 rfl) rfl (xe_of (xa_r xa_0) rfl rfl) (r_d0 hd rfl) (a_X7_levelBelow  (r_d1 hd rfl)  w t27 (fun x28 rx28 w => ?_))
                refine r_fI (pc1 := 72) rfl ?_
                have w := w rx28
                refine r_iv rfl rfl rfl rfl rfl rfl t27 (lyk t27 rfl) rfl (xe_of (xa_r (xa_i xa_0)) rfl rfl) (r_d0 hd rfl) (a_X7_back x28 (r_d1 hd rfl) rx28 w t27 (fun h29 t29 u29 w => ?_))
                refine r_fV (pc1 := 75) rfl ?_
                have s29 := HX_trans s27 u29
                have w := w t29 u29
                refine r_aldn (pc1 := 76) rfl rfl rfl ?_
                refine r_gfI (pc1 := 79) rfl rfl rfl t29 (lyk t29 rfl) rfl rfl ?_
                refine r_aldn (pc1 := 80) rfl rfl rfl ?_
                refine r_gfI (pc1 := 83) rfl rfl rfl t29 (lyk t29 rfl) rfl rfl ?_
                refine r_n (pc1 := 86) [.int (J 160), .int (J (hI h29 57 7)), .int (J (hI h29 57 8))] _ rfl rfl ?_
                refine r_iadd (pc1 := 87) rfl rfl ?_
                obtain ⟨J31, j31, w⟩ := w
                have Q31 : ∀ (h30 : XH), HT h30 → HX h h30 → J31 h30 → RR sc goal fs 423 98 [some (rv 57), some (.long (G p0)), none, some (.long (G p1)), none, some (.long (G b7)), none, some (.int (J x12)), d9] [] h30 := by
                  intro h30 t30 s30 z31
                  have w := j31 h30 t30 s30 z31
                  refine r_aldn (pc1 := 99) rfl rfl rfl ?_
                  refine r_iv rfl rfl rfl rfl rfl rfl t30 (lyk t30 rfl) rfl (xe_of (xa_r xa_0) rfl rfl) (r_d0 hd rfl) (a_X7_keep  (r_d1 hd rfl)  w t30 (fun h32 t32 u32 w => ?_))
                  refine r_fV (pc1 := 102) rfl ?_
                  have s32 := HX_trans s30 u32
                  have w := w t32 u32
                  refine r_goto (t := 188) rfl rfl ?_
                  exact Q17 _ _  h32 t32 s32  w
                refine r_ic (t := 98) (pc1 := 90) rfl rfl rfl (rgh _ _ _) (rgw _) (fun c35 => ?_) (fun c35 => ?_)
                · have w := w.1 c35
                  exact Q31   h29 t29 s29  w
                · have w := w.2 c35
                  refine r_aldn (pc1 := 91) rfl rfl rfl ?_
                  refine r_iv rfl rfl rfl rfl rfl rfl t29 (lyk t29 rfl) rfl (xe_of (xa_r xa_0) rfl rfl) (r_d0 hd rfl) (a_X7_forget  (r_d1 hd rfl)  w t29 (fun h33 t33 u33 w => ?_))
                  refine r_fV (pc1 := 94) rfl ?_
                  have s33 := HX_trans s29 u33
                  have w := w t33 u33
                  refine r_aldn (pc1 := 95) rfl rfl rfl ?_
                  refine r_iv rfl rfl rfl rfl rfl rfl t33 (lyk t33 rfl) rfl (xe_of (xa_r xa_0) rfl rfl) (r_d0 hd rfl) (a_X7_watchAll  (r_d1 hd rfl)  w t33 (fun h34 t34 u34 w => ?_))
                  refine r_fV (pc1 := 98) rfl ?_
                  have s34 := HX_trans s33 u34
                  have w := w t34 u34
                  exact Q31   h34 t34 s34  w
              · have w := w.2 c36
                refine r_n (pc1 := 66) [.int (J 0)] _ rfl rfl ?_
                exact r_retB rfl rfl rfl (.inl rfl) (k _ _ t27 s27 (rgk rfl) (.inl rfl) w)
      exact Q11 _ _ _ (0#64) h6 t6 s6  (Nat.lt_succ_self _) w
    · have w := w.2 c39
      exact Q4   h6 t6 s6  w
def w_X4_isRefuted  (K : Int → XH → Prop) (h : XH) : Prop :=
  ((∃ (I3 : Int → XH → Prop) (m3 : Int → XH → Nat), I3 0 h ∧ ∀ (x1 : Int) (h2 : XH), HT h2 → HX h h2 → rg x1 → I3 x1 h2 → (((hI h2 51 3 ≤ x1 → (w_X7_load (0#64) 12 (fun h4 => HT h4 → HX h2 h4 → (w_X7_canHold (0#64) (0#64) (fun x5 h6 => HT h6 → HX h4 h6 → rg x5 → (x5 = 0 ∨ x5 = 1) → ((∃ (I9 : Int → XH → Prop) (m9 : Int → XH → Nat), I9 0 h6 ∧ ∀ (x7 : Int) (h8 : XH), HT h8 → HX h h8 → rg x7 → I9 x7 h8 → (∃ J10 : Prop, (J10 → (∃ J12 : Int → Prop, (∀ (x11 : Int), rg x11 → J12 x11 → ((x11 = 0 ∨ x11 = 1) ∧ K x11 h8)) ∧ ((¬ x5 = 0 → (J12 0)) ∧ (¬ (¬ x5 = 0) → (J12 1))))) ∧ ((hI h8 51 3 ≤ x7 → J10) ∧ (¬ (hI h8 51 3 ≤ x7) → (((¬ x5 = 0 → J10) ∧ (¬ (¬ x5 = 0) → ((0 ≤ x7 ∧ x7 < 3712) ∧ ∀ h16 : XH, h16 = sI h8 72 x7.toNat (hI h8 59 x7.toNat) → HT h16 → HX h8 h16 → ∀ x17 : Int, x17 = wr (x7 + 1) → rg x17 → (I9 x17 h16 ∧ m9 x17 h16 < m9 x7 h8))))))))))) h4)) h2)) ∧ (¬ (hI h2 51 3 ≤ x1) → ((0 ≤ x1 ∧ x1 < 3712) ∧ ∀ h21 : XH, h21 = sI h2 59 x1.toNat 0 → HT h21 → HX h2 h21 → ∀ x22 : Int, x22 = wr (x1 + 1) → rg x22 → (I3 x22 h21 ∧ m3 x22 h21 < m3 x1 h2)))))))
set_option maxHeartbeats 4000000 in
theorem a_X4_isRefuted {sc : Nat × (Nat → Int32)} {goal : XO → XH → Prop} {fs : List XF} {h : XH}  {K : Int → XH → Prop} (hd : fs.length + 5 ≤ 1000) (w : w_X4_isRefuted  K h) (t0 : HT h) (k : ∀ (r : Int) (h1 : XH), HT h1 → HX h h1 → rg r → (r = 0 ∨ r = 1) → K r h1 → XFin xP sc goal fs (.inl (some (.int (J r)))) h1) : RR sc goal fs 383 0 [some (rv 70), none, none] [] h := by
  unfold w_X4_isRefuted at w
  refine r_n (pc1 := 1) [.int (J 0)] _ rfl rfl ?_
  refine r_istn (pc1 := 2) (ls1 := [some (rv 70), some (.int (J 0)), none]) rfl rfl rfl rfl ?_
  obtain ⟨I3, m3, w, y3⟩ := w
  have Q3 : ∀ (n : Nat)  (x1 : Int) (h2 : XH), HT h2 → HX h h2 → rg x1 → m3 x1 h2 < n → I3 x1 h2 → RR sc goal fs 383 2 [some (rv 70), some (.int (J x1)), none] [] h2 := by
    intro n
    induction n with
    | zero => intro x1 h2 t2 s2 rx1 q3 _; exact absurd q3 (Nat.not_lt_zero _)
    | succ n ih3 =>
      intro x1 h2 t2 s2 rx1 q3 z3
      have w := y3 x1 h2 t2 s2 rx1 z3
      refine r_n (pc1 := 3) [.int (J x1)] _ rfl rfl ?_
      refine r_aldn (pc1 := 4) rfl rfl rfl ?_
      refine r_gfC (pc1 := 7) (q := 51) rfl rfl rfl t2 (lyk t2 rfl) rfl rfl (lyR t2 rfl rfl) ?_
      refine r_gfI (pc1 := 10) rfl rfl rfl t2 (lyk t2 rfl) rfl rfl ?_
      refine r_ic (t := 29) (pc1 := 13) rfl rfl rfl rx1 (rgh _ _ _) (fun c23 => ?_) (fun c23 => ?_)
      · have w := w.1 c23
        refine r_aldn (pc1 := 30) rfl rfl rfl ?_
        refine r_gfC (pc1 := 33) (q := 57) rfl rfl rfl t2 (lyk t2 rfl) rfl rfl (lyR t2 rfl rfl) ?_
        refine r_n (pc1 := 34) [.long (G (0#64)), rv 57] _ rfl rfl ?_
        refine r_n (pc1 := 36) [.int (J 12), .long (G (0#64)), rv 57] _ rfl rfl ?_
        refine r_iv rfl rfl rfl rfl rfl rfl t2 (lyk t2 rfl) rfl (xe_of (xa_r (xa_l (xa_i xa_0))) rfl rfl) (r_d0 hd rfl) (a_X7_load (0#64) 12 (r_d1 hd rfl) (rgk rfl) w t2 (fun h4 t4 u4 w => ?_))
        refine r_fV (pc1 := 39) rfl ?_
        have s4 := HX_trans s2 u4
        have w := w t4 u4
        refine r_aldn (pc1 := 40) rfl rfl rfl ?_
        refine r_gfC (pc1 := 43) (q := 57) rfl rfl rfl t4 (lyk t4 rfl) rfl rfl (lyR t4 rfl rfl) ?_
        refine r_n (pc1 := 44) [.long (G (0#64)), rv 57] _ rfl rfl ?_
        refine r_n (pc1 := 45) [.long (G (0#64)), .long (G (0#64)), rv 57] _ rfl rfl ?_
        refine r_iv rfl rfl rfl rfl rfl rfl t4 (lyk t4 rfl) rfl (xe_of (xa_r (xa_l (xa_l xa_0))) rfl rfl) (r_d0 hd rfl) (a_X7_canHold (0#64) (0#64) (r_d1 hd rfl)  w t4 (fun x5 h6 t6 u6 rx5 vx5 w => ?_))
        refine r_fI (pc1 := 48) rfl ?_
        have s6 := HX_trans s4 u6
        have w := w t6 u6
        have w := w rx5 vx5
        refine r_istn (pc1 := 49) (ls1 := [some (rv 70), some (.int (J x5)), none]) rfl rfl rfl rfl ?_
        refine r_n (pc1 := 50) [.int (J 0)] _ rfl rfl ?_
        refine r_istn (pc1 := 51) (ls1 := [some (rv 70), some (.int (J x5)), some (.int (J 0))]) rfl rfl rfl rfl ?_
        obtain ⟨I9, m9, w, y9⟩ := w
        have Q9 : ∀ (n : Nat)  (x7 : Int) (h8 : XH), HT h8 → HX h h8 → rg x7 → m9 x7 h8 < n → I9 x7 h8 → RR sc goal fs 383 51 [some (rv 70), some (.int (J x5)), some (.int (J x7))] [] h8 := by
          intro n
          induction n with
          | zero => intro x7 h8 t8 s8 rx7 q9 _; exact absurd q9 (Nat.not_lt_zero _)
          | succ n ih9 =>
            intro x7 h8 t8 s8 rx7 q9 z9
            have w := y9 x7 h8 t8 s8 rx7 z9
            refine r_n (pc1 := 52) [.int (J x7)] _ rfl rfl ?_
            refine r_aldn (pc1 := 53) rfl rfl rfl ?_
            refine r_gfC (pc1 := 56) (q := 51) rfl rfl rfl t8 (lyk t8 rfl) rfl rfl (lyR t8 rfl rfl) ?_
            refine r_gfI (pc1 := 59) rfl rfl rfl t8 (lyk t8 rfl) rfl rfl ?_
            obtain ⟨J10, j10, w⟩ := w
            have Q10 : J10 → RR sc goal fs 383 87 [some (rv 70), some (.int (J x5)), some (.int (J x7))] [] h8 := by
              intro z10
              have w := j10 z10
              refine r_n (pc1 := 88) [.int (J x5)] _ rfl rfl ?_
              obtain ⟨J12, j12, w⟩ := w
              have Q12 : ∀ (x11 : Int), rg x11 → J12 x11 → RR sc goal fs 383 96 [some (rv 70), some (.int (J x5)), some (.int (J x7))] [.int (J x11)] h8 := by
                intro x11 rx11 z12
                have w := j12 x11 rx11 z12
                obtain ⟨c13, w⟩ := w
                exact r_retB rfl rfl rfl c13 (k _ _ t8 s8 rx11 c13 w)
              refine r_iz (t := 95) (pc1 := 91) rfl rfl rfl rx5 (fun c14 => ?_) (fun c14 => ?_)
              · have w := w.1 c14
                refine r_n (pc1 := 96) [.int (J 0)] _ rfl rfl ?_
                exact Q12  0  (rgk rfl) w
              · have w := w.2 c14
                refine r_n (pc1 := 92) [.int (J 1)] _ rfl rfl ?_
                refine r_goto (t := 96) rfl rfl ?_
                exact Q12  1  (rgk rfl) w
            refine r_ic (t := 87) (pc1 := 62) rfl rfl rfl rx7 (rgh _ _ _) (fun c19 => ?_) (fun c19 => ?_)
            · have w := w.1 c19
              exact Q10     w
            · have w := w.2 c19
              refine r_n (pc1 := 63) [.int (J x5)] _ rfl rfl ?_
              refine r_iz (t := 87) (pc1 := 66) rfl rfl rfl rx5 (fun c18 => ?_) (fun c18 => ?_)
              · have w := w.1 c18
                exact Q10     w
              · have w := w.2 c18
                refine r_aldn (pc1 := 67) rfl rfl rfl ?_
                refine r_gfC (pc1 := 70) (q := 72) rfl rfl rfl t8 (lyk t8 rfl) rfl rfl (lyR t8 rfl rfl) ?_
                refine r_n (pc1 := 71) [.int (J x7), rv 72] _ rfl rfl ?_
                refine r_aldn (pc1 := 72) rfl rfl rfl ?_
                refine r_gfC (pc1 := 75) (q := 57) rfl rfl rfl t8 (lyk t8 rfl) rfl rfl (lyR t8 rfl rfl) ?_
                refine r_gfC (pc1 := 78) (q := 59) rfl rfl rfl t8 (lyk t8 rfl) rfl rfl (lyR t8 rfl rfl) ?_
                refine r_n (pc1 := 79) [.int (J x7), rv 59, .int (J x7), rv 72] _ rfl rfl ?_
                obtain ⟨c15, w⟩ := w
                refine r_bal (pc1 := 80) rfl rfl t8 (lyk t8 rfl) rx7 c15.1 (lt_len (lyn t8 rfl) c15.2) ?_
                refine r_bast (pc1 := 81) rfl rfl t8 (lyk t8 rfl) (te2 t8 (lyk t8 rfl)) rx7 c15.1 (lt_len (lyn t8 rfl) c15.2) (fun h16 eh16 t16 u16 => ?_)
                have w := w h16 eh16 t16 u16
                have s16 := HX_trans s8 u16
                refine r_inc (pc1 := 84) (g := fun zz => [some (rv 70), some (.int (J x5)), some (.int (J zz))]) rfl rfl rfl rfl (fun _ => rfl) (fun x17 ex17 rx17 => ?_)
                have w := w x17 ex17 rx17
                refine r_goto (t := 51) rfl rfl ?_
                exact ih9  x17 h16 t16 s16 rx17 (Nat.lt_of_lt_of_le w.2 (Nat.le_of_lt_succ q9)) w.1
        exact Q9 _  0 h6 t6 s6 (rgk rfl) (Nat.lt_succ_self _) w
      · have w := w.2 c23
        refine r_aldn (pc1 := 14) rfl rfl rfl ?_
        refine r_gfC (pc1 := 17) (q := 57) rfl rfl rfl t2 (lyk t2 rfl) rfl rfl (lyR t2 rfl rfl) ?_
        refine r_gfC (pc1 := 20) (q := 59) rfl rfl rfl t2 (lyk t2 rfl) rfl rfl (lyR t2 rfl rfl) ?_
        refine r_n (pc1 := 21) [.int (J x1), rv 59] _ rfl rfl ?_
        refine r_n (pc1 := 22) [.int (J 0), .int (J x1), rv 59] _ rfl rfl ?_
        obtain ⟨c20, w⟩ := w
        refine r_bast (pc1 := 23) rfl rfl t2 (lyk t2 rfl) (.inl rfl) rx1 c20.1 (lt_len (lyn t2 rfl) c20.2) (fun h21 eh21 t21 u21 => ?_)
        have w := w h21 eh21 t21 u21
        have s21 := HX_trans s2 u21
        refine r_inc (pc1 := 26) (g := fun zz => [some (rv 70), some (.int (J zz)), none]) rfl rfl rfl rfl (fun _ => rfl) (fun x22 ex22 rx22 => ?_)
        have w := w x22 ex22 rx22
        refine r_goto (t := 2) rfl rfl ?_
        exact ih3  x22 h21 t21 s21 rx22 (Nat.lt_of_lt_of_le w.2 (Nat.le_of_lt_succ q3)) w.1
  exact Q3 _  0 h t0 (HX_refl h) (rgk rfl) (Nat.lt_succ_self _) w
