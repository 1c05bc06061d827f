/-! printed by dec.py: what each method wants, and that the machine keeps it -/ 
def w_X4_findCore  (K : XH → Prop) (h : XH) : Prop :=
  (∀ h1 : XH, h1 = sI h 70 2 0 → HT h1 → HX h h1 → w_X4_takeAll (fun h2 => HT h2 → HX h1 h2 → (w_X4_isRefuted (fun x3 h4 => HT h4 → HX h2 h4 → rg x3 → (x3 = 0 ∨ x3 = 1) → (∃ J6 : Int → Prop, (∀ (x5 : Int), rg x5 → J6 x5 → (∀ x7 : Int, x7 = wr ((hI h4 51 3) - 1) → rg x7 → (∃ (I10 : Int → XH → Prop) (m10 : Int → XH → Nat), I10 x7 h4 ∧ ∀ (x8 : Int) (h9 : XH), HT h9 → HX h h9 → rg x8 → I10 x8 h9 → (∃ J11 : Prop, (J11 → ((∃ (I14 : Int → XH → Prop) (m14 : Int → XH → Nat), I14 0 h9 ∧ ∀ (x12 : Int) (h13 : XH), HT h13 → HX h h13 → rg x12 → I14 x12 h13 → (∃ J15 : Prop, (J15 → (w_X4_takeAll (fun h16 => HT h16 → HX h13 h16 → (K h16)) h13)) ∧ ((hI h13 51 3 ≤ x12 → J15) ∧ (¬ (hI h13 51 3 ≤ x12) → (((¬ x5 = 0 → J15) ∧ (¬ (¬ x5 = 0) → ((0 ≤ x12 ∧ x12 < 3712) ∧ ∃ J19 : XH → Prop, (∀ (h18 : XH), HT h18 → HX h h18 → J19 h18 → (∀ x20 : Int, x20 = wr (x12 + 1) → rg x20 → (I14 x20 h18 ∧ m14 x20 h18 < m14 x12 h13))) ∧ ((¬ hI h13 58 x12.toNat = 0 → J19 h13) ∧ (¬ (¬ hI h13 58 x12.toNat = 0) → ((0 ≤ hI h13 70 2 ∧ hI h13 70 2 < 3712) ∧ ∀ h22 : XH, h22 = sI h13 71 (hI h13 70 2).toNat x12 → HT h22 → HX h13 h22 → ∀ h23 : XH, h23 = sI h22 70 2 (wr ((hI h22 70 2) + 1)) → HT h23 → HX h22 h23 → J19 h23))))))))))))) ∧ ((x8 < 0 → J11) ∧ (¬ (x8 < 0) → (((¬ x5 = 0 → J11) ∧ (¬ (¬ x5 = 0) → ((0 ≤ x8 ∧ x8 < 3712) ∧ ∀ h28 : XH, h28 = sI h9 58 x8.toNat 1 → HT h28 → HX h9 h28 → ∃ J30 : XH → Prop, (∀ (h29 : XH), HT h29 → HX h h29 → J30 h29 → (∀ x31 : Int, x31 = wr (x8 + (-1)) → rg x31 → (I10 x31 h29 ∧ m10 x31 h29 < m10 x8 h9))) ∧ ((hI h28 72 x8.toNat = 0 → J30 h28) ∧ (¬ (hI h28 72 x8.toNat = 0) → (w_X4_isRefuted (fun x32 h33 => HT h33 → HX h28 h33 → rg x32 → (x32 = 0 ∨ x32 = 1) → (((¬ x32 = 0 → J30 h33) ∧ (¬ (¬ x32 = 0) → (∀ h34 : XH, h34 = sI h33 58 x8.toNat 0 → HT h34 → HX h33 h34 → J30 h34))))) h28))))))))))))) ∧ ((¬ x3 = 0 → (J6 0)) ∧ (¬ (¬ x3 = 0) → (J6 1))))) h2)) h1)
set_option maxHeartbeats 4000000 in
theorem a_X4_findCore {sc : Nat × (Nat → Int32)} {goal : XO → XH → Prop} {fs : List XF} {h : XH}  {K : XH → Prop} (hd : fs.length + 6 ≤ 1000) (w : w_X4_findCore  K h) (t0 : HT h) (k : ∀ (h1 : XH), HT h1 → HX h h1 → K h1 → XFin xP sc goal fs (.inl none) h1) : RR sc goal fs 376 0 [some (rv 70), none, none] [] h := by
  unfold w_X4_findCore at w
  refine r_aldn (pc1 := 1) rfl rfl rfl ?_
  refine r_n (pc1 := 2) [.int (J 0), rv 70] _ rfl rfl ?_
  refine r_pfI (pc1 := 5) rfl rfl rfl t0 (lyk t0 rfl) rfl rfl rfl (fun h1 eh1 t1 u1 => ?_)
  have w := w h1 eh1 t1 u1
  have s1 := HX_trans (HX_refl h) u1
  refine r_aldn (pc1 := 6) rfl rfl rfl ?_
  refine r_iv rfl rfl rfl rfl rfl rfl t1 (lyk t1 rfl) rfl (xe_of (xa_r xa_0) rfl rfl) (r_d0 hd rfl) (a_X4_takeAll  (r_d1 hd rfl)  w t1 (fun h2 t2 u2 w => ?_))
  refine r_fV (pc1 := 9) rfl ?_
  have s2 := HX_trans s1 u2
  have w := w t2 u2
  refine r_aldn (pc1 := 10) rfl rfl rfl ?_
  refine r_iv rfl rfl rfl rfl rfl rfl t2 (lyk t2 rfl) rfl (xe_of (xa_r xa_0) rfl rfl) (r_d0 hd rfl) (a_X4_isRefuted  (r_d1 hd rfl)  w t2 (fun x3 h4 t4 u4 rx3 vx3 w => ?_))
  refine r_fI (pc1 := 13) rfl ?_
  have s4 := HX_trans s2 u4
  have w := w t4 u4
  have w := w rx3 vx3
  obtain ⟨J6, j6, w⟩ := w
  have Q6 : ∀ (x5 : Int), rg x5 → J6 x5 → RR sc goal fs 376 21 [some (rv 70), none, none] [.int (J x5)] h4 := by
    intro x5 rx5 z6
    have w := j6 x5 rx5 z6
    refine r_istn (pc1 := 22) (ls1 := [some (rv 70), some (.int (J x5)), none]) rfl rfl rfl rfl ?_
    refine r_aldn (pc1 := 23) rfl rfl rfl ?_
    refine r_gfC (pc1 := 26) (q := 51) rfl rfl rfl t4 (lyk t4 rfl) rfl rfl (lyR t4 rfl rfl) ?_
    refine r_gfI (pc1 := 29) rfl rfl rfl t4 (lyk t4 rfl) rfl rfl ?_
    refine r_n (pc1 := 30) [.int (J 1), .int (J (hI h4 51 3))] _ rfl rfl ?_
    refine r_isub (pc1 := 31) rfl rfl ?_
    refine r_vI (rgw _) (fun x7 ex7 rx7 => ?_)
    have w := w x7 ex7 rx7
    refine r_istn (pc1 := 32) (ls1 := [some (rv 70), some (.int (J x5)), some (.int (J x7))]) rfl rfl rfl rfl ?_
    obtain ⟨I10, m10, w, y10⟩ := w
    have Q10 : ∀ (n : Nat)  (x8 : Int) (h9 : XH), HT h9 → HX h h9 → rg x8 → m10 x8 h9 < n → I10 x8 h9 → RR sc goal fs 376 32 [some (rv 70), some (.int (J x5)), some (.int (J x8))] [] h9 := by
      intro n
      induction n with
      | zero => intro x8 h9 t9 s9 rx8 q10 _; exact absurd q10 (Nat.not_lt_zero _)
      | succ n ih10 =>
        intro x8 h9 t9 s9 rx8 q10 z10
        have w := y10 x8 h9 t9 s9 rx8 z10
        refine r_n (pc1 := 33) [.int (J x8)] _ rfl rfl ?_
        obtain ⟨J11, j11, w⟩ := w
        have Q11 : J11 → RR sc goal fs 376 82 [some (rv 70), some (.int (J x5)), some (.int (J x8))] [] h9 := by
          intro z11
          have w := j11 z11
          refine r_n (pc1 := 83) [.int (J 0)] _ rfl rfl ?_
          refine r_istn (pc1 := 84) (ls1 := [some (rv 70), some (.int (J x5)), some (.int (J 0))]) rfl rfl rfl rfl ?_
          obtain ⟨I14, m14, w, y14⟩ := w
          have Q14 : ∀ (n : Nat)  (x12 : Int) (h13 : XH), HT h13 → HX h h13 → rg x12 → m14 x12 h13 < n → I14 x12 h13 → RR sc goal fs 376 84 [some (rv 70), some (.int (J x5)), some (.int (J x12))] [] h13 := by
            intro n
            induction n with
            | zero => intro x12 h13 t13 s13 rx12 q14 _; exact absurd q14 (Nat.not_lt_zero _)
            | succ n ih14 =>
              intro x12 h13 t13 s13 rx12 q14 z14
              have w := y14 x12 h13 t13 s13 rx12 z14
              refine r_n (pc1 := 85) [.int (J x12)] _ rfl rfl ?_
              refine r_aldn (pc1 := 86) rfl rfl rfl ?_
              refine r_gfC (pc1 := 89) (q := 51) rfl rfl rfl t13 (lyk t13 rfl) rfl rfl (lyR t13 rfl rfl) ?_
              refine r_gfI (pc1 := 92) rfl rfl rfl t13 (lyk t13 rfl) rfl rfl ?_
              obtain ⟨J15, j15, w⟩ := w
              have Q15 : J15 → RR sc goal fs 376 137 [some (rv 70), some (.int (J x5)), some (.int (J x12))] [] h13 := by
                intro z15
                have w := j15 z15
                refine r_aldn (pc1 := 138) rfl rfl rfl ?_
                refine r_iv rfl rfl rfl rfl rfl rfl t13 (lyk t13 rfl) rfl (xe_of (xa_r xa_0) rfl rfl) (r_d0 hd rfl) (a_X4_takeAll  (r_d1 hd rfl)  w t13 (fun h16 t16 u16 w => ?_))
                refine r_fV (pc1 := 141) rfl ?_
                have s16 := HX_trans s13 u16
                have w := w t16 u16
                exact r_retV rfl rfl rfl (k _ t16 s16 w)
              refine r_ic (t := 137) (pc1 := 95) rfl rfl rfl rx12 (rgh _ _ _) (fun c26 => ?_) (fun c26 => ?_)
              · have w := w.1 c26
                exact Q15     w
              · have w := w.2 c26
                refine r_n (pc1 := 96) [.int (J x5)] _ rfl rfl ?_
                refine r_iz (t := 137) (pc1 := 99) rfl rfl rfl rx5 (fun c25 => ?_) (fun c25 => ?_)
                · have w := w.1 c25
                  exact Q15     w
                · have w := w.2 c25
                  refine r_aldn (pc1 := 100) rfl rfl rfl ?_
                  refine r_gfC (pc1 := 103) (q := 57) rfl rfl rfl t13 (lyk t13 rfl) rfl rfl (lyR t13 rfl rfl) ?_
                  refine r_gfC (pc1 := 106) (q := 58) rfl rfl rfl t13 (lyk t13 rfl) rfl rfl (lyR t13 rfl rfl) ?_
                  refine r_n (pc1 := 107) [.int (J x12), rv 58] _ rfl rfl ?_
                  obtain ⟨c17, w⟩ := w
                  refine r_bal (pc1 := 108) rfl rfl t13 (lyk t13 rfl) rx12 c17.1 (lt_len (lyn t13 rfl) c17.2) ?_
                  obtain ⟨J19, j19, w⟩ := w
                  have Q19 : ∀ (h18 : XH), HT h18 → HX h h18 → J19 h18 → RR sc goal fs 376 131 [some (rv 70), some (.int (J x5)), some (.int (J x12))] [] h18 := by
                    intro h18 t18 s18 z19
                    have w := j19 h18 t18 s18 z19
                    refine r_inc (pc1 := 134) (g := fun zz => [some (rv 70), some (.int (J x5)), some (.int (J zz))]) rfl rfl rfl rfl (fun _ => rfl) (fun x20 ex20 rx20 => ?_)
                    have w := w x20 ex20 rx20
                    refine r_goto (t := 84) rfl rfl ?_
                    exact ih14  x20 h18 t18 s18 rx20 (Nat.lt_of_lt_of_le w.2 (Nat.le_of_lt_succ q14)) w.1
                  refine r_iz (t := 131) (pc1 := 111) rfl rfl rfl (rgh _ _ _) (fun c24 => ?_) (fun c24 => ?_)
                  · have w := w.1 c24
                    exact Q19   h13 t13 s13  w
                  · have w := w.2 c24
                    refine r_aldn (pc1 := 112) rfl rfl rfl ?_
                    refine r_gfC (pc1 := 115) (q := 71) rfl rfl rfl t13 (lyk t13 rfl) rfl rfl (lyR t13 rfl rfl) ?_
                    refine r_aldn (pc1 := 116) rfl rfl rfl ?_
                    refine r_gfI (pc1 := 119) rfl rfl rfl t13 (lyk t13 rfl) rfl rfl ?_
                    refine r_n (pc1 := 120) [.int (J x12), .int (J (hI h13 70 2)), rv 71] _ rfl rfl ?_
                    obtain ⟨c21, w⟩ := w
                    refine r_iast (pc1 := 121) rfl rfl t13 (lyk t13 rfl) (rgh _ _ _) c21.1 (lt_len (lyn t13 rfl) c21.2) (fun h22 eh22 t22 u22 => ?_)
                    have w := w h22 eh22 t22 u22
                    have s22 := HX_trans s13 u22
                    refine r_aldn (pc1 := 122) rfl rfl rfl ?_
                    refine r_dupR (pc1 := 123) rfl rfl ?_
                    refine r_gfI (pc1 := 126) rfl rfl rfl t22 (lyk t22 rfl) rfl rfl ?_
                    refine r_n (pc1 := 127) [.int (J 1), .int (J (hI h22 70 2)), rv 70] _ rfl rfl ?_
                    refine r_iadd (pc1 := 128) rfl rfl ?_
                    refine r_pfI (pc1 := 131) rfl rfl rfl t22 (lyk t22 rfl) rfl rfl rfl (fun h23 eh23 t23 u23 => ?_)
                    have w := w h23 eh23 t23 u23
                    have s23 := HX_trans s22 u23
                    exact Q19   h23 t23 s23  w
          exact Q14 _  0 h9 t9 s9 (rgk rfl) (Nat.lt_succ_self _) w
        refine r_iz (t := 82) (pc1 := 36) rfl rfl rfl rx8 (fun c38 => ?_) (fun c38 => ?_)
        · have w := w.1 c38
          exact Q11     w
        · have w := w.2 c38
          refine r_n (pc1 := 37) [.int (J x5)] _ rfl rfl ?_
          refine r_iz (t := 82) (pc1 := 40) rfl rfl rfl rx5 (fun c37 => ?_) (fun c37 => ?_)
          · have w := w.1 c37
            exact Q11     w
          · have w := w.2 c37
            refine r_aldn (pc1 := 41) rfl rfl rfl ?_
            refine r_gfC (pc1 := 44) (q := 57) rfl rfl rfl t9 (lyk t9 rfl) rfl rfl (lyR t9 rfl rfl) ?_
            refine r_gfC (pc1 := 47) (q := 58) rfl rfl rfl t9 (lyk t9 rfl) rfl rfl (lyR t9 rfl rfl) ?_
            refine r_n (pc1 := 48) [.int (J x8), rv 58] _ rfl rfl ?_
            refine r_n (pc1 := 49) [.int (J 1), .int (J x8), rv 58] _ rfl rfl ?_
            obtain ⟨c27, w⟩ := w
            refine r_bast (pc1 := 50) rfl rfl t9 (lyk t9 rfl) (.inr rfl) rx8 c27.1 (lt_len (lyn t9 rfl) c27.2) (fun h28 eh28 t28 u28 => ?_)
            have w := w h28 eh28 t28 u28
            have s28 := HX_trans s9 u28
            refine r_aldn (pc1 := 51) rfl rfl rfl ?_
            refine r_gfC (pc1 := 54) (q := 72) rfl rfl rfl t28 (lyk t28 rfl) rfl rfl (lyR t28 rfl rfl) ?_
            refine r_n (pc1 := 55) [.int (J x8), rv 72] _ rfl rfl ?_
            refine r_bal (pc1 := 56) rfl rfl t28 (lyk t28 rfl) rx8 c27.1 (lt_len (lyn t28 rfl) c27.2) ?_
            obtain ⟨J30, j30, w⟩ := w
            have Q30 : ∀ (h29 : XH), HT h29 → HX h h29 → J30 h29 → RR sc goal fs 376 76 [some (rv 70), some (.int (J x5)), some (.int (J x8))] [] h29 := by
              intro h29 t29 s29 z30
              have w := j30 h29 t29 s29 z30
              refine r_inc (pc1 := 79) (g := fun zz => [some (rv 70), some (.int (J x5)), some (.int (J zz))]) rfl rfl rfl rfl (fun _ => rfl) (fun x31 ex31 rx31 => ?_)
              have w := w x31 ex31 rx31
              refine r_goto (t := 32) rfl rfl ?_
              exact ih10  x31 h29 t29 s29 rx31 (Nat.lt_of_lt_of_le w.2 (Nat.le_of_lt_succ q10)) w.1
            refine r_iz (t := 76) (pc1 := 59) rfl rfl rfl (rgh _ _ _) (fun c36 => ?_) (fun c36 => ?_)
            · have w := w.1 c36
              exact Q30   h28 t28 s28  w
            · have w := w.2 c36
              refine r_aldn (pc1 := 60) rfl rfl rfl ?_
              refine r_iv rfl rfl rfl rfl rfl rfl t28 (lyk t28 rfl) rfl (xe_of (xa_r xa_0) rfl rfl) (r_d0 hd rfl) (a_X4_isRefuted  (r_d1 hd rfl)  w t28 (fun x32 h33 t33 u33 rx32 vx32 w => ?_))
              refine r_fI (pc1 := 63) rfl ?_
              have s33 := HX_trans s28 u33
              have w := w t33 u33
              have w := w rx32 vx32
              refine r_iz (t := 76) (pc1 := 66) rfl rfl rfl rx32 (fun c35 => ?_) (fun c35 => ?_)
              · have w := w.1 c35
                exact Q30   h33 t33 s33  w
              · have w := w.2 c35
                refine r_aldn (pc1 := 67) rfl rfl rfl ?_
                refine r_gfC (pc1 := 70) (q := 57) rfl rfl rfl t33 (lyk t33 rfl) rfl rfl (lyR t33 rfl rfl) ?_
                refine r_gfC (pc1 := 73) (q := 58) rfl rfl rfl t33 (lyk t33 rfl) rfl rfl (lyR t33 rfl rfl) ?_
                refine r_n (pc1 := 74) [.int (J x8), rv 58] _ rfl rfl ?_
                refine r_n (pc1 := 75) [.int (J 0), .int (J x8), rv 58] _ rfl rfl ?_
                refine r_bast (pc1 := 76) rfl rfl t33 (lyk t33 rfl) (.inl rfl) rx8 c27.1 (lt_len (lyn t33 rfl) c27.2) (fun h34 eh34 t34 u34 => ?_)
                have w := w h34 eh34 t34 u34
                have s34 := HX_trans s33 u34
                exact Q30   h34 t34 s34  w
    exact Q10 _  x7 h4 t4 s4 rx7 (Nat.lt_succ_self _) w
  refine r_iz (t := 20) (pc1 := 16) rfl rfl rfl rx3 (fun c39 => ?_) (fun c39 => ?_)
  · have w := w.1 c39
    refine r_n (pc1 := 21) [.int (J 0)] _ rfl rfl ?_
    exact Q6  0  (rgk rfl) w
  · have w := w.2 c39
    refine r_n (pc1 := 17) [.int (J 1)] _ rfl rfl ?_
    refine r_goto (t := 21) rfl rfl ?_
    exact Q6  1  (rgk rfl) w
def w_X4_literalsOf (p0 : Int) (K : Int → Prop) (h : XH) : Prop :=
  ((0 ≤ p0 ∧ p0 < 200) ∧ w_J13_bitCount_95d88 (hL h 73 p0.toNat) (fun x2 => rg x2 → (w_J13_bitCount_95d88 (hL h 74 p0.toNat) (fun x3 => rg x3 → (K (wr (x2 + x3)))) h)) h)
set_option maxHeartbeats 4000000 in
theorem a_X4_literalsOf {sc : Nat × (Nat → Int32)} {goal : XO → XH → Prop} {fs : List XF} {h : XH} (p0 : Int) {K : Int → Prop} (hd : fs.length + 1 ≤ 1000) (rp0 : rg p0) (w : w_X4_literalsOf p0 K h) (t0 : HT h) (k : ∀ (r : Int), rg r → K r → XFin xP sc goal fs (.inl (some (.int (J r)))) h) : RR sc goal fs 386 0 [some (rv 70), some (.int (J p0))] [] h := by
  unfold w_X4_literalsOf at w
  refine r_aldn (pc1 := 1) rfl rfl rfl ?_
  refine r_gfC (pc1 := 4) (q := 73) rfl rfl rfl t0 (lyk t0 rfl) rfl rfl (lyR t0 rfl rfl) ?_
  refine r_n (pc1 := 5) [.int (J p0), rv 73] _ rfl rfl ?_
  obtain ⟨c1, w⟩ := w
  refine r_lal (pc1 := 6) rfl rfl t0 (lyk t0 rfl) rp0 c1.1 (lt_len (lyn t0 rfl) c1.2) ?_
  refine r_iq rfl rfl rfl rfl rfl rfl (xe_of (xa_l xa_0) rfl rfl) (r_d0 hd rfl) (a_J13_bitCount_95d88 (hL h 73 p0.toNat) (r_d1 hd rfl)  w t0 (fun x2 rx2 w => ?_))
  refine r_fI (pc1 := 9) rfl ?_
  have w := w rx2
  refine r_aldn (pc1 := 10) rfl rfl rfl ?_
  refine r_gfC (pc1 := 13) (q := 74) rfl rfl rfl t0 (lyk t0 rfl) rfl rfl (lyR t0 rfl rfl) ?_
  refine r_n (pc1 := 14) [.int (J p0), rv 74, .int (J x2)] _ rfl rfl ?_
  refine r_lal (pc1 := 15) rfl rfl t0 (lyk t0 rfl) rp0 c1.1 (lt_len (lyn t0 rfl) c1.2) ?_
  refine r_iq rfl rfl rfl rfl rfl rfl (xe_of (xa_l xa_0) rfl rfl) (r_d0 hd rfl) (a_J13_bitCount_95d88 (hL h 74 p0.toNat) (r_d1 hd rfl)  w t0 (fun x3 rx3 w => ?_))
  refine r_fI (pc1 := 18) rfl ?_
  have w := w rx3
  refine r_iadd (pc1 := 19) rfl rfl ?_
  exact r_retI rfl rfl rfl (k _ (rgw _) w)
def w_X4_isSpent (p0 : Int) (p1 : Int) (K : Int → Prop) (h : XH) : Prop :=
  (∀ x1 : Int, x1 = wr ((wr (p1 * 4)) + (ishr p0 6)) → rg x1 → (0 ≤ x1 ∧ x1 < 800) ∧ ∃ J4 : Int → Prop, (∀ (x3 : Int), rg x3 → J4 x3 → ((x3 = 0 ∨ x3 = 1) ∧ K x3)) ∧ (((lshr (hL h 78 x1.toNat) (iand p0 63)) &&& (1#64) = (0#64) → (J4 0)) ∧ (¬ ((lshr (hL h 78 x1.toNat) (iand p0 63)) &&& (1#64) = (0#64)) → (J4 1))))
set_option maxHeartbeats 4000000 in
theorem a_X4_isSpent {sc : Nat × (Nat → Int32)} {goal : XO → XH → Prop} {fs : List XF} {h : XH} (p0 : Int) (p1 : Int) {K : Int → Prop} (hd : fs.length + 0 ≤ 1000) (rp0 : rg p0) (rp1 : rg p1) (w : w_X4_isSpent p0 p1 K h) (t0 : HT h) (k : ∀ (r : Int), rg r → (r = 0 ∨ r = 1) → K r → XFin xP sc goal fs (.inl (some (.int (J r)))) h) : RR sc goal fs 384 0 [some (rv 70), some (.int (J p0)), some (.int (J p1))] [] h := by
  unfold w_X4_isSpent at w
  refine r_aldn (pc1 := 1) rfl rfl rfl ?_
  refine r_gfC (pc1 := 4) (q := 78) rfl rfl rfl t0 (lyk t0 rfl) rfl rfl (lyR t0 rfl rfl) ?_
  refine r_n (pc1 := 5) [.int (J p1), rv 78] _ rfl rfl ?_
  refine r_n (pc1 := 6) [.int (J 4), .int (J p1), rv 78] _ rfl rfl ?_
  refine r_imul (pc1 := 7) rfl rfl ?_
  refine r_n (pc1 := 8) [.int (J p0), .int (J (wr (p1 * 4))), rv 78] _ rfl rfl ?_
  refine r_n (pc1 := 10) [.int (J 6), .int (J p0), .int (J (wr (p1 * 4))), rv 78] _ rfl rfl ?_
  refine r_ishr (pc1 := 11) rfl rfl ?_
  refine r_iadd (pc1 := 12) rfl rfl ?_
  refine r_vI (rgw _) (fun x1 ex1 rx1 => ?_)
  have w := w x1 ex1 rx1
  obtain ⟨c2, w⟩ := w
  refine r_lal (pc1 := 13) rfl rfl t0 (lyk t0 rfl) rx1 c2.1 (lt_len (lyn t0 rfl) c2.2) ?_
  refine r_n (pc1 := 14) [.int (J p0), .long (G (hL h 78 x1.toNat))] _ rfl rfl ?_
  refine r_n (pc1 := 16) [.int (J 63), .int (J p0), .long (G (hL h 78 x1.toNat))] _ rfl rfl ?_
  refine r_iand (pc1 := 17) rfl rfl ?_
  refine r_lshr (pc1 := 18) rfl rfl ?_
  refine r_n (pc1 := 19) [.long (G (1#64)), .long (G (lshr (hL h 78 x1.toNat) (iand p0 63)))] _ rfl rfl ?_
  refine r_land (pc1 := 20) rfl rfl ?_
  refine r_n (pc1 := 21) [.long (G (0#64)), .long (G ((lshr (hL h 78 x1.toNat) (iand p0 63)) &&& (1#64)))] _ rfl rfl ?_
  obtain ⟨J4, j4, w⟩ := w
  have Q4 : ∀ (x3 : Int), rg x3 → J4 x3 → RR sc goal fs 384 30 [some (rv 70), some (.int (J p0)), some (.int (J p1))] [.int (J x3)] h := by
    intro x3 rx3 z4
    have w := j4 x3 rx3 z4
    obtain ⟨c5, w⟩ := w
    exact r_retB rfl rfl rfl c5 (k _ rx3 c5 w)
  refine r_lc (pc2 := 22) (t := 29) (pc1 := 25) rfl rfl rfl rfl rfl (fun c6 => ?_) (fun c6 => ?_)
  · have w := w.1 c6
    refine r_n (pc1 := 30) [.int (J 0)] _ rfl rfl ?_
    exact Q4  0  (rgk rfl) w
  · have w := w.2 c6
    refine r_n (pc1 := 26) [.int (J 1)] _ rfl rfl ?_
    refine r_goto (t := 30) rfl rfl ?_
    exact Q4  1  (rgk rfl) w
def w_X4_spend (p0 : Int) (p1 : Int) (K : XH → Prop) (h : XH) : Prop :=
  (∀ x1 : Int, x1 = wr ((wr (p1 * 4)) + (ishr p0 6)) → rg x1 → (0 ≤ x1 ∧ x1 < 800) ∧ ∀ h3 : XH, h3 = sL h 78 x1.toNat ((hL h 78 x1.toNat) ||| (lshl (1#64) (iand p0 63))) → HT h3 → HX h h3 → K h3)
set_option maxHeartbeats 4000000 in
theorem a_X4_spend {sc : Nat × (Nat → Int32)} {goal : XO → XH → Prop} {fs : List XF} {h : XH} (p0 : Int) (p1 : Int) {K : XH → Prop} (hd : fs.length + 0 ≤ 1000) (rp0 : rg p0) (rp1 : rg p1) (w : w_X4_spend p0 p1 K h) (t0 : HT h) (k : ∀ (h1 : XH), HT h1 → HX h h1 → K h1 → XFin xP sc goal fs (.inl none) h1) : RR sc goal fs 387 0 [some (rv 70), some (.int (J p0)), some (.int (J p1))] [] h := by
  unfold w_X4_spend at w
  refine r_aldn (pc1 := 1) rfl rfl rfl ?_
  refine r_gfC (pc1 := 4) (q := 78) rfl rfl rfl t0 (lyk t0 rfl) rfl rfl (lyR t0 rfl rfl) ?_
  refine r_n (pc1 := 5) [.int (J p1), rv 78] _ rfl rfl ?_
  refine r_n (pc1 := 6) [.int (J 4), .int (J p1), rv 78] _ rfl rfl ?_
  refine r_imul (pc1 := 7) rfl rfl ?_
  refine r_n (pc1 := 8) [.int (J p0), .int (J (wr (p1 * 4))), rv 78] _ rfl rfl ?_
  refine r_n (pc1 := 10) [.int (J 6), .int (J p0), .int (J (wr (p1 * 4))), rv 78] _ rfl rfl ?_
  refine r_ishr (pc1 := 11) rfl rfl ?_
  refine r_iadd (pc1 := 12) rfl rfl ?_
  refine r_vI (rgw _) (fun x1 ex1 rx1 => ?_)
  have w := w x1 ex1 rx1
  refine r_dup2 (pc1 := 13) rfl rfl ?_
  obtain ⟨c2, w⟩ := w
  refine r_lal (pc1 := 14) rfl rfl t0 (lyk t0 rfl) rx1 c2.1 (lt_len (lyn t0 rfl) c2.2) ?_
  refine r_n (pc1 := 15) [.long (G (1#64)), .long (G (hL h 78 x1.toNat)), .int (J x1), rv 78] _ rfl rfl ?_
  refine r_n (pc1 := 16) [.int (J p0), .long (G (1#64)), .long (G (hL h 78 x1.toNat)), .int (J x1), rv 78] _ rfl rfl ?_
  refine r_n (pc1 := 18) [.int (J 63), .int (J p0), .long (G (1#64)), .long (G (hL h 78 x1.toNat)), .int (J x1), rv 78] _ rfl rfl ?_
  refine r_iand (pc1 := 19) rfl rfl ?_
  refine r_lshl (pc1 := 20) rfl rfl ?_
  refine r_lor (pc1 := 21) rfl rfl ?_
  refine r_last (pc1 := 22) rfl rfl t0 (lyk t0 rfl) rx1 c2.1 (lt_len (lyn t0 rfl) c2.2) (fun h3 eh3 t3 u3 => ?_)
  have w := w h3 eh3 t3 u3
  have s3 := HX_trans (HX_refl h) u3
  exact r_retV rfl rfl rfl (k _ t3 s3 w)
def w_X4_isJoinable (p0 : Int) (p1 : Int) (K : Int → XH → Prop) (h : XH) : Prop :=
  ((0 ≤ p0 ∧ p0 < 200) ∧ (0 ≤ p1 ∧ p1 < 200) ∧ ∀ b3 : BitVec 64, b3 = ((hL h 73 p0.toNat) &&& (hL h 74 p1.toNat)) ||| ((hL h 74 p0.toNat) &&& (hL h 73 p1.toNat)) → w_J13_bitCount_95d88 b3 (fun x4 => rg x4 → (((x4 = 1 → (∀ h5 : XH, h5 = sL h 70 12 (((hL h 73 p0.toNat) ||| (hL h 73 p1.toNat)) &&& (b3 ^^^ (18446744073709551615#64))) → HT h5 → HX h h5 → ∀ h6 : XH, h6 = sL h5 70 13 (((hL h5 74 p0.toNat) ||| (hL h5 74 p1.toNat)) &&& (b3 ^^^ (18446744073709551615#64))) → HT h6 → HX h5 h6 → K 1 h6)) ∧ (¬ (x4 = 1) → (w_X4_spend p0 p1 (fun h7 => HT h7 → HX h h7 → (K 0 h7)) h))))) h)
set_option maxHeartbeats 4000000 in
theorem a_X4_isJoinable {sc : Nat × (Nat → Int32)} {goal : XO → XH → Prop} {fs : List XF} {h : XH} (p0 : Int) (p1 : Int) {K : Int → XH → Prop} (hd : fs.length + 1 ≤ 1000) (rp0 : rg p0) (rp1 : rg p1) (w : w_X4_isJoinable p0 p1 K h) (t0 : HT h) (k : ∀ (r : Int) (h1 : XH), HT h1 → HX h h1 → rg r → (r = 0 ∨ r = 1) → K r h1 → XFin xP sc goal fs (.inl (some (.int (J r)))) h1) : RR sc goal fs 381 0 [some (rv 70), some (.int (J p0)), some (.int (J p1)), none, none] [] h := by
  unfold w_X4_isJoinable at w
  refine r_aldn (pc1 := 1) rfl rfl rfl ?_
  refine r_gfC (pc1 := 4) (q := 73) rfl rfl rfl t0 (lyk t0 rfl) rfl rfl (lyR t0 rfl rfl) ?_
  refine r_n (pc1 := 5) [.int (J p0), rv 73] _ rfl rfl ?_
  obtain ⟨c1, w⟩ := w
  refine r_lal (pc1 := 6) rfl rfl t0 (lyk t0 rfl) rp0 c1.1 (lt_len (lyn t0 rfl) c1.2) ?_
  refine r_aldn (pc1 := 7) rfl rfl rfl ?_
  refine r_gfC (pc1 := 10) (q := 74) rfl rfl rfl t0 (lyk t0 rfl) rfl rfl (lyR t0 rfl rfl) ?_
  refine r_n (pc1 := 11) [.int (J p1), rv 74, .long (G (hL h 73 p0.toNat))] _ rfl rfl ?_
  obtain ⟨c2, w⟩ := w
  refine r_lal (pc1 := 12) rfl rfl t0 (lyk t0 rfl) rp1 c2.1 (lt_len (lyn t0 rfl) c2.2) ?_
  refine r_land (pc1 := 13) rfl rfl ?_
  refine r_aldn (pc1 := 14) rfl rfl rfl ?_
  refine r_gfC (pc1 := 17) (q := 74) rfl rfl rfl t0 (lyk t0 rfl) rfl rfl (lyR t0 rfl rfl) ?_
  refine r_n (pc1 := 18) [.int (J p0), rv 74, .long (G ((hL h 73 p0.toNat) &&& (hL h 74 p1.toNat)))] _ rfl rfl ?_
  refine r_lal (pc1 := 19) rfl rfl t0 (lyk t0 rfl) rp0 c1.1 (lt_len (lyn t0 rfl) c1.2) ?_
  refine r_aldn (pc1 := 20) rfl rfl rfl ?_
  refine r_gfC (pc1 := 23) (q := 73) rfl rfl rfl t0 (lyk t0 rfl) rfl rfl (lyR t0 rfl rfl) ?_
  refine r_n (pc1 := 24) [.int (J p1), rv 73, .long (G (hL h 74 p0.toNat)), .long (G ((hL h 73 p0.toNat) &&& (hL h 74 p1.toNat)))] _ rfl rfl ?_
  refine r_lal (pc1 := 25) rfl rfl t0 (lyk t0 rfl) rp1 c2.1 (lt_len (lyn t0 rfl) c2.2) ?_
  refine r_land (pc1 := 26) rfl rfl ?_
  refine r_lor (pc1 := 27) rfl rfl ?_
  refine r_vL (fun b3 eb3 => ?_)
  have w := w b3 eb3
  refine r_lstn (pc1 := 28) (ls1 := [some (rv 70), some (.int (J p0)), some (.int (J p1)), some (.long (G b3)), none]) rfl rfl rfl rfl ?_
  refine r_n (pc1 := 29) [.long (G b3)] _ rfl rfl ?_
  refine r_iq rfl rfl rfl rfl rfl rfl (xe_of (xa_l xa_0) rfl rfl) (r_d0 hd rfl) (a_J13_bitCount_95d88 b3 (r_d1 hd rfl)  w t0 (fun x4 rx4 w => ?_))
  refine r_fI (pc1 := 32) rfl ?_
  have w := w rx4
  refine r_n (pc1 := 33) [.int (J 1), .int (J x4)] _ rfl rfl ?_
  refine r_ic (t := 44) (pc1 := 36) rfl rfl rfl rx4 (rgk rfl) (fun c8 => ?_) (fun c8 => ?_)
  · have w := w.1 c8
    refine r_aldn (pc1 := 45) rfl rfl rfl ?_
    refine r_aldn (pc1 := 46) rfl rfl rfl ?_
    refine r_gfC (pc1 := 49) (q := 73) rfl rfl rfl t0 (lyk t0 rfl) rfl rfl (lyR t0 rfl rfl) ?_
    refine r_n (pc1 := 50) [.int (J p0), rv 73, rv 70] _ rfl rfl ?_
    refine r_lal (pc1 := 51) rfl rfl t0 (lyk t0 rfl) rp0 c1.1 (lt_len (lyn t0 rfl) c1.2) ?_
    refine r_aldn (pc1 := 52) rfl rfl rfl ?_
    refine r_gfC (pc1 := 55) (q := 73) rfl rfl rfl t0 (lyk t0 rfl) rfl rfl (lyR t0 rfl rfl) ?_
    refine r_n (pc1 := 56) [.int (J p1), rv 73, .long (G (hL h 73 p0.toNat)), rv 70] _ rfl rfl ?_
    refine r_lal (pc1 := 57) rfl rfl t0 (lyk t0 rfl) rp1 c2.1 (lt_len (lyn t0 rfl) c2.2) ?_
    refine r_lor (pc1 := 58) rfl rfl ?_
    refine r_n (pc1 := 59) [.long (G b3), .long (G ((hL h 73 p0.toNat) ||| (hL h 73 p1.toNat))), rv 70] _ rfl rfl ?_
    refine r_n (pc1 := 62) [.long (G (18446744073709551615#64)), .long (G b3), .long (G ((hL h 73 p0.toNat) ||| (hL h 73 p1.toNat))), rv 70] _ rfl rfl ?_
    refine r_lxor (pc1 := 63) rfl rfl ?_
    refine r_land (pc1 := 64) rfl rfl ?_
    refine r_pfL (pc1 := 67) rfl rfl rfl t0 (lyk t0 rfl) rfl rfl rfl (fun h5 eh5 t5 u5 => ?_)
    have w := w h5 eh5 t5 u5
    have s5 := HX_trans (HX_refl h) u5
    refine r_aldn (pc1 := 68) rfl rfl rfl ?_
    refine r_aldn (pc1 := 69) rfl rfl rfl ?_
    refine r_gfC (pc1 := 72) (q := 74) rfl rfl rfl t5 (lyk t5 rfl) rfl rfl (lyR t5 rfl rfl) ?_
    refine r_n (pc1 := 73) [.int (J p0), rv 74, rv 70] _ rfl rfl ?_
    refine r_lal (pc1 := 74) rfl rfl t5 (lyk t5 rfl) rp0 c1.1 (lt_len (lyn t5 rfl) c1.2) ?_
    refine r_aldn (pc1 := 75) rfl rfl rfl ?_
    refine r_gfC (pc1 := 78) (q := 74) rfl rfl rfl t5 (lyk t5 rfl) rfl rfl (lyR t5 rfl rfl) ?_
    refine r_n (pc1 := 79) [.int (J p1), rv 74, .long (G (hL h5 74 p0.toNat)), rv 70] _ rfl rfl ?_
    refine r_lal (pc1 := 80) rfl rfl t5 (lyk t5 rfl) rp1 c2.1 (lt_len (lyn t5 rfl) c2.2) ?_
    refine r_lor (pc1 := 81) rfl rfl ?_
    refine r_n (pc1 := 82) [.long (G b3), .long (G ((hL h5 74 p0.toNat) ||| (hL h5 74 p1.toNat))), rv 70] _ rfl rfl ?_
    refine r_n (pc1 := 85) [.long (G (18446744073709551615#64)), .long (G b3), .long (G ((hL h5 74 p0.toNat) ||| (hL h5 74 p1.toNat))), rv 70] _ rfl rfl ?_
    refine r_lxor (pc1 := 86) rfl rfl ?_
    refine r_land (pc1 := 87) rfl rfl ?_
    refine r_pfL (pc1 := 90) rfl rfl rfl t5 (lyk t5 rfl) rfl rfl rfl (fun h6 eh6 t6 u6 => ?_)
    have w := w h6 eh6 t6 u6
    have s6 := HX_trans s5 u6
    refine r_n (pc1 := 91) [.int (J 1)] _ rfl rfl ?_
    exact r_retB rfl rfl rfl (.inr rfl) (k _ _ t6 s6 (rgk rfl) (.inr rfl) w)
  · have w := w.2 c8
    refine r_aldn (pc1 := 37) rfl rfl rfl ?_
    refine r_n (pc1 := 38) [.int (J p0), rv 70] _ rfl rfl ?_
    refine r_n (pc1 := 39) [.int (J p1), .int (J p0), rv 70] _ rfl rfl ?_
    refine r_iv rfl rfl rfl rfl rfl rfl t0 (lyk t0 rfl) rfl (xe_of (xa_r (xa_i (xa_i xa_0))) rfl rfl) (r_d0 hd rfl) (a_X4_spend p0 p1 (r_d1 hd rfl) rp0 rp1 w t0 (fun h7 t7 u7 w => ?_))
    refine r_fV (pc1 := 42) rfl ?_
    have s7 := HX_trans (HX_refl h) u7
    have w := w t7 u7
    refine r_n (pc1 := 43) [.int (J 0)] _ rfl rfl ?_
    exact r_retB rfl rfl rfl (.inl rfl) (k _ _ t7 s7 (rgk rfl) (.inl rfl) w)
def w_X4_isCovered (p0 : Int) (p1 : Int) (K : Int → XH → Prop) (h : XH) : Prop :=
  ((∃ (I2 : Int → Prop) (m2 : Int → Nat), I2 0 ∧ ∀ (x1 : Int), rg x1 → I2 x1 → (((hI h 70 5 ≤ x1 → (K 0 h)) ∧ (¬ (hI h 70 5 ≤ x1) → ((0 ≤ x1 ∧ x1 < 200) ∧ ∃ J4 : Prop, (J4 → (∀ x5 : Int, x5 = wr (x1 + 1) → rg x5 → (I2 x5 ∧ m2 x5 < m2 x1))) ∧ ((¬ (hL h 73 x1.toNat) &&& ((hL h 70 12) ^^^ (18446744073709551615#64)) = (0#64) → J4) ∧ (¬ (¬ (hL h 73 x1.toNat) &&& ((hL h 70 12) ^^^ (18446744073709551615#64)) = (0#64)) → (((¬ (hL h 74 x1.toNat) &&& ((hL h 70 13) ^^^ (18446744073709551615#64)) = (0#64) → J4) ∧ (¬ (¬ (hL h 74 x1.toNat) &&& ((hL h 70 13) ^^^ (18446744073709551615#64)) = (0#64)) → (w_X4_spend p0 p1 (fun h6 => HT h6 → HX h h6 → (K 1 h6)) h))))))))))))
set_option maxHeartbeats 4000000 in
theorem a_X4_isCovered {sc : Nat × (Nat → Int32)} {goal : XO → XH → Prop} {fs : List XF} {h : XH} (p0 : Int) (p1 : Int) {K : Int → XH → Prop} (hd : fs.length + 1 ≤ 1000) (rp0 : rg p0) (rp1 : rg p1) (w : w_X4_isCovered p0 p1 K h) (t0 : HT h) (k : ∀ (r : Int) (h1 : XH), HT h1 → HX h h1 → rg r → (r = 0 ∨ r = 1) → K r h1 → XFin xP sc goal fs (.inl (some (.int (J r)))) h1) : RR sc goal fs 380 0 [some (rv 70), some (.int (J p0)), some (.int (J p1)), none] [] h := by
  unfold w_X4_isCovered at w
  refine r_n (pc1 := 1) [.int (J 0)] _ rfl rfl ?_
  refine r_istn (pc1 := 2) (ls1 := [some (rv 70), some (.int (J p0)), some (.int (J p1)), some (.int (J 0))]) rfl rfl rfl rfl ?_
  obtain ⟨I2, m2, w, y2⟩ := w
  have Q2 : ∀ (n : Nat)  (x1 : Int), rg x1 → m2 x1 < n → I2 x1 → RR sc goal fs 380 2 [some (rv 70), some (.int (J p0)), some (.int (J p1)), some (.int (J x1))] [] h := by
    intro n
    induction n with
    | zero => intro x1 rx1 q2 _; exact absurd q2 (Nat.not_lt_zero _)
    | succ n ih2 =>
      intro x1 rx1 q2 z2
      have w := y2 x1 rx1 z2
      refine r_n (pc1 := 3) [.int (J x1)] _ rfl rfl ?_
      refine r_aldn (pc1 := 4) rfl rfl rfl ?_
      refine r_gfI (pc1 := 7) rfl rfl rfl t0 (lyk t0 rfl) rfl rfl ?_
      refine r_ic (t := 64) (pc1 := 10) rfl rfl rfl rx1 (rgh _ _ _) (fun c9 => ?_) (fun c9 => ?_)
      · have w := w.1 c9
        refine r_n (pc1 := 65) [.int (J 0)] _ rfl rfl ?_
        exact r_retB rfl rfl rfl (.inl rfl) (k _ _ t0 (HX_refl h) (rgk rfl) (.inl rfl) w)
      · have w := w.2 c9
        refine r_aldn (pc1 := 11) rfl rfl rfl ?_
        refine r_gfC (pc1 := 14) (q := 73) rfl rfl rfl t0 (lyk t0 rfl) rfl rfl (lyR t0 rfl rfl) ?_
        refine r_n (pc1 := 15) [.int (J x1), rv 73] _ rfl rfl ?_
        obtain ⟨c3, w⟩ := w
        refine r_lal (pc1 := 16) rfl rfl t0 (lyk t0 rfl) rx1 c3.1 (lt_len (lyn t0 rfl) c3.2) ?_
        refine r_aldn (pc1 := 17) rfl rfl rfl ?_
        refine r_gfL (pc1 := 20) rfl rfl rfl t0 (lyk t0 rfl) rfl rfl ?_
        refine r_n (pc1 := 23) [.long (G (18446744073709551615#64)), .long (G (hL h 70 12)), .long (G (hL h 73 x1.toNat))] _ rfl rfl ?_
        refine r_lxor (pc1 := 24) rfl rfl ?_
        refine r_land (pc1 := 25) rfl rfl ?_
        refine r_n (pc1 := 26) [.long (G (0#64)), .long (G ((hL h 73 x1.toNat) &&& ((hL h 70 12) ^^^ (18446744073709551615#64))))] _ rfl rfl ?_
        obtain ⟨J4, j4, w⟩ := w
        have Q4 : J4 → RR sc goal fs 380 58 [some (rv 70), some (.int (J p0)), some (.int (J p1)), some (.int (J x1))] [] h := by
          intro z4
          have w := j4 z4
          refine r_inc (pc1 := 61) (g := fun zz => [some (rv 70), some (.int (J p0)), some (.int (J p1)), some (.int (J zz))]) rfl rfl rfl rfl (fun _ => rfl) (fun x5 ex5 rx5 => ?_)
          have w := w x5 ex5 rx5
          refine r_goto (t := 2) rfl rfl ?_
          exact ih2  x5  rx5 (Nat.lt_of_lt_of_le w.2 (Nat.le_of_lt_succ q2)) w.1
        refine r_lc (pc2 := 27) (t := 58) (pc1 := 30) rfl rfl rfl rfl rfl (fun c8 => ?_) (fun c8 => ?_)
        · have w := w.1 c8
          exact Q4     w
        · have w := w.2 c8
          refine r_aldn (pc1 := 31) rfl rfl rfl ?_
          refine r_gfC (pc1 := 34) (q := 74) rfl rfl rfl t0 (lyk t0 rfl) rfl rfl (lyR t0 rfl rfl) ?_
          refine r_n (pc1 := 35) [.int (J x1), rv 74] _ rfl rfl ?_
          refine r_lal (pc1 := 36) rfl rfl t0 (lyk t0 rfl) rx1 c3.1 (lt_len (lyn t0 rfl) c3.2) ?_
          refine r_aldn (pc1 := 37) rfl rfl rfl ?_
          refine r_gfL (pc1 := 40) rfl rfl rfl t0 (lyk t0 rfl) rfl rfl ?_
          refine r_n (pc1 := 43) [.long (G (18446744073709551615#64)), .long (G (hL h 70 13)), .long (G (hL h 74 x1.toNat))] _ rfl rfl ?_
          refine r_lxor (pc1 := 44) rfl rfl ?_
          refine r_land (pc1 := 45) rfl rfl ?_
          refine r_n (pc1 := 46) [.long (G (0#64)), .long (G ((hL h 74 x1.toNat) &&& ((hL h 70 13) ^^^ (18446744073709551615#64))))] _ rfl rfl ?_
          refine r_lc (pc2 := 47) (t := 58) (pc1 := 50) rfl rfl rfl rfl rfl (fun c7 => ?_) (fun c7 => ?_)
          · have w := w.1 c7
            exact Q4     w
          · have w := w.2 c7
            refine r_aldn (pc1 := 51) rfl rfl rfl ?_
            refine r_n (pc1 := 52) [.int (J p0), rv 70] _ rfl rfl ?_
            refine r_n (pc1 := 53) [.int (J p1), .int (J p0), rv 70] _ rfl rfl ?_
            refine r_iv rfl rfl rfl rfl rfl rfl t0 (lyk t0 rfl) rfl (xe_of (xa_r (xa_i (xa_i xa_0))) rfl rfl) (r_d0 hd rfl) (a_X4_spend p0 p1 (r_d1 hd rfl) rp0 rp1 w t0 (fun h6 t6 u6 w => ?_))
            refine r_fV (pc1 := 56) rfl ?_
            have s6 := HX_trans (HX_refl h) u6
            have w := w t6 u6
            refine r_n (pc1 := 57) [.int (J 1)] _ rfl rfl ?_
            exact r_retB rfl rfl rfl (.inr rfl) (k _ _ t6 s6 (rgk rfl) (.inr rfl) w)
  exact Q2 _  0  (rgk rfl) (Nat.lt_succ_self _) w
def w_X4_isBestJoined  (K : Int → XH → Prop) (h : XH) : Prop :=
  ((∃ (I8 : Int → Int → Int → Int → XH → Prop) (m8 : Int → Int → Int → Int → XH → Nat), I8 64 (-1) (-1) 1 h ∧ ∀ (x1 : Int) (x2 : Int) (x3 : Int) (x4 : Int) (h7 : XH), HT h7 → HX h h7 → rg x1 → rg x2 → rg x3 → rg x4 → I8 x1 x2 x3 x4 h7 → (((hI h7 70 5 ≤ x4 → (∃ J10 : XH → Prop, (∀ (h9 : XH), HT h9 → HX h h9 → J10 h9 → (K 0 h9)) ∧ ((x2 = (-1) → J10 h7) ∧ (¬ (x2 = (-1)) → (((200 ≤ hI h7 70 5 → J10 h7) ∧ (¬ (200 ≤ hI h7 70 5) → (w_X4_isJoinable x2 x3 (fun x11 h12 => HT h12 → HX h7 h12 → rg x11 → (x11 = 0 ∨ x11 = 1) → (((¬ x11 = 0 → ((0 ≤ hI h12 70 5 ∧ hI h12 70 5 < 200) ∧ ∀ h14 : XH, h14 = sL h12 73 (hI h12 70 5).toNat (hL h12 70 12) → HT h14 → HX h12 h14 → (0 ≤ hI h14 70 5 ∧ hI h14 70 5 < 200) ∧ ∀ h16 : XH, h16 = sL h14 74 (hI h14 70 5).toNat (hL h14 70 13) → HT h16 → HX h14 h16 → (0 ≤ hI h16 70 5 ∧ hI h16 70 5 < 200) ∧ ∀ h18 : XH, h18 = sI h16 75 (hI h16 70 5).toNat x2 → HT h18 → HX h16 h18 → (0 ≤ hI h18 70 5 ∧ hI h18 70 5 < 200) ∧ ∀ h20 : XH, h20 = sI h18 76 (hI h18 70 5).toNat x3 → HT h20 → HX h18 h20 → ∀ h21 : XH, h21 = sI h20 70 5 (wr ((hI h20 70 5) + 1)) → HT h21 → HX h20 h21 → K 1 h21)) ∧ (¬ (¬ x11 = 0) → J10 h12)))) h7)))))))) ∧ (¬ (hI h7 70 5 ≤ x4) → ((∃ (I31 : Int → Int → Int → Int → XH → Prop) (m31 : Int → Int → Int → Int → XH → Nat), I31 x1 x2 x3 0 h7 ∧ ∀ (x25 : Int) (x26 : Int) (x27 : Int) (x28 : Int) (h30 : XH), HT h30 → HX h h30 → rg x25 → rg x26 → rg x27 → rg x28 → I31 x25 x26 x27 x28 h30 → (((x4 ≤ x28 → (∀ x32 : Int, x32 = wr (x4 + 1) → rg x32 → (I8 x25 x26 x27 x32 h30 ∧ m8 x25 x26 x27 x32 h30 < m8 x1 x2 x3 x4 h7))) ∧ (¬ (x4 ≤ x28) → (w_X4_isSpent x28 x4 (fun x33 => rg x33 → (x33 = 0 ∨ x33 = 1) → (∃ J39 : Int → Int → Int → XH → Prop, (∀ (x34 : Int) (x35 : Int) (x36 : Int) (h38 : XH), HT h38 → HX h h38 → rg x34 → rg x35 → rg x36 → J39 x34 x35 x36 h38 → (∀ x40 : Int, x40 = wr (x28 + 1) → rg x40 → (I31 x34 x35 x36 x40 h38 ∧ m31 x34 x35 x36 x40 h38 < m31 x25 x26 x27 x28 h30))) ∧ ((¬ x33 = 0 → J39 x25 x26 x27 h30) ∧ (¬ (¬ x33 = 0) → (w_X4_isJoinable x28 x4 (fun x41 h42 => HT h42 → HX h30 h42 → rg x41 → (x41 = 0 ∨ x41 = 1) → (((¬ x41 = 0 → (w_J13_bitCount_95d88 (hL h42 70 12) (fun x43 => rg x43 → (w_J13_bitCount_95d88 (hL h42 70 13) (fun x44 => rg x44 → (∀ x45 : Int, x45 = wr (x43 + x44) → rg x45 → ((x25 ≤ x45 → J39 x25 x26 x27 h42) ∧ (¬ (x25 ≤ x45) → (w_X4_isCovered x28 x4 (fun x46 h47 => HT h47 → HX h42 h47 → rg x46 → (x46 = 0 ∨ x46 = 1) → (((¬ x46 = 0 → J39 x25 x26 x27 h47) ∧ (¬ (¬ x46 = 0) → (J39 x45 x28 x4 h47))))) h42))))) h42)) h42)) ∧ (¬ (¬ x41 = 0) → (J39 x25 x26 x27 h42))))) h30))))) h30)))))))))))
set_option maxHeartbeats 4000000 in
theorem a_X4_isBestJoined {sc : Nat × (Nat → Int32)} {goal : XO → XH → Prop} {fs : List XF} {h : XH}  {K : Int → XH → Prop} (hd : fs.length + 2 ≤ 1000) (w : w_X4_isBestJoined  K h) (t0 : HT h) (k : ∀ (r : Int) (h1 : XH), HT h1 → HX h h1 → rg r → (r = 0 ∨ r = 1) → K r h1 → XFin xP sc goal fs (.inl (some (.int (J r)))) h1) : RR sc goal fs 378 0 [some (rv 70), none, none, none, none, none, none] [] h := by
  unfold w_X4_isBestJoined at w
  refine r_n (pc1 := 2) [.int (J 64)] _ rfl rfl ?_
  refine r_istn (pc1 := 3) (ls1 := [some (rv 70), some (.int (J 64)), none, none, none, none, none]) rfl rfl rfl rfl ?_
  refine r_n (pc1 := 4) [.int (J (-1))] _ rfl rfl ?_
  refine r_istn (pc1 := 5) (ls1 := [some (rv 70), some (.int (J 64)), some (.int (J (-1))), none, none, none, none]) rfl rfl rfl rfl ?_
  refine r_n (pc1 := 6) [.int (J (-1))] _ rfl rfl ?_
  refine r_istn (pc1 := 7) (ls1 := [some (rv 70), some (.int (J 64)), some (.int (J (-1))), some (.int (J (-1))), none, none, none]) rfl rfl rfl rfl ?_
  refine r_n (pc1 := 8) [.int (J 1)] _ rfl rfl ?_
  refine r_ist (pc1 := 10) (ls1 := [some (rv 70), some (.int (J 64)), some (.int (J (-1))), some (.int (J (-1))), some (.int (J 1)), none, none]) rfl rfl rfl rfl ?_
  obtain ⟨I8, m8, w, y8⟩ := w
  have Q8 : ∀ (n : Nat) (d5 : Option Value) (d6 : Option Value) (x1 : Int) (x2 : Int) (x3 : Int) (x4 : Int) (h7 : XH), HT h7 → HX h h7 → rg x1 → rg x2 → rg x3 → rg x4 → m8 x1 x2 x3 x4 h7 < n → I8 x1 x2 x3 x4 h7 → RR sc goal fs 378 10 [some (rv 70), some (.int (J x1)), some (.int (J x2)), some (.int (J x3)), some (.int (J x4)), d5, d6] [] h7 := by
    intro n
    induction n with
    | zero => intro d5 d6 x1 x2 x3 x4 h7 t7 s7 rx1 rx2 rx3 rx4 q8 _; exact absurd q8 (Nat.not_lt_zero _)
    | succ n ih8 =>
      intro d5 d6 x1 x2 x3 x4 h7 t7 s7 rx1 rx2 rx3 rx4 q8 z8
      have w := y8 x1 x2 x3 x4 h7 t7 s7 rx1 rx2 rx3 rx4 z8
      refine r_n (pc1 := 12) [.int (J x4)] _ rfl rfl ?_
      refine r_aldn (pc1 := 13) rfl rfl rfl ?_
      refine r_gfI (pc1 := 16) rfl rfl rfl t7 (lyk t7 rfl) rfl rfl ?_
      refine r_ic (t := 109) (pc1 := 19) rfl rfl rfl rx4 (rgh _ _ _) (fun c53 => ?_) (fun c53 => ?_)
      · have w := w.1 c53
        refine r_n (pc1 := 110) [.int (J x2)] _ rfl rfl ?_
        refine r_n (pc1 := 111) [.int (J (-1)), .int (J x2)] _ rfl rfl ?_
        obtain ⟨J10, j10, w⟩ := w
        have Q10 : ∀ (h9 : XH), HT h9 → HX h h9 → J10 h9 → RR sc goal fs 378 133 [some (rv 70), some (.int (J x1)), some (.int (J x2)), some (.int (J x3)), some (.int (J x4)), d5, d6] [] h9 := by
          intro h9 t9 s9 z10
          have w := j10 h9 t9 s9 z10
          refine r_n (pc1 := 134) [.int (J 0)] _ rfl rfl ?_
          exact r_retB rfl rfl rfl (.inl rfl) (k _ _ t9 s9 (rgk rfl) (.inl rfl) w)
        refine r_ic (t := 133) (pc1 := 114) rfl rfl rfl rx2 (rgk rfl) (fun c24 => ?_) (fun c24 => ?_)
        · have w := w.1 c24
          exact Q10   h7 t7 s7  w
        · have w := w.2 c24
          refine r_aldn (pc1 := 115) rfl rfl rfl ?_
          refine r_gfI (pc1 := 118) rfl rfl rfl t7 (lyk t7 rfl) rfl rfl ?_
          refine r_n (pc1 := 121) [.int (J 200), .int (J (hI h7 70 5))] _ rfl rfl ?_
          refine r_ic (t := 133) (pc1 := 124) rfl rfl rfl (rgh _ _ _) (rgk rfl) (fun c23 => ?_) (fun c23 => ?_)
          · have w := w.1 c23
            exact Q10   h7 t7 s7  w
          · have w := w.2 c23
            refine r_aldn (pc1 := 125) rfl rfl rfl ?_
            refine r_n (pc1 := 126) [.int (J x2), rv 70] _ rfl rfl ?_
            refine r_n (pc1 := 127) [.int (J x3), .int (J x2), rv 70] _ rfl rfl ?_
            refine r_iv rfl rfl rfl rfl rfl rfl t7 (lyk t7 rfl) rfl (xe_of (xa_r (xa_i (xa_i xa_0))) rfl rfl) (r_d0 hd rfl) (a_X4_isJoinable x2 x3 (r_d1 hd rfl) rx2 rx3 w t7 (fun x11 h12 t12 u12 rx11 vx11 w => ?_))
            refine r_fI (pc1 := 130) rfl ?_
            have s12 := HX_trans s7 u12
            have w := w t12 u12
            have w := w rx11 vx11
            refine r_iz (t := 135) (pc1 := 133) rfl rfl rfl rx11 (fun c22 => ?_) (fun c22 => ?_)
            · have w := w.1 c22
              refine r_aldn (pc1 := 136) rfl rfl rfl ?_
              refine r_gfC (pc1 := 139) (q := 73) rfl rfl rfl t12 (lyk t12 rfl) rfl rfl (lyR t12 rfl rfl) ?_
              refine r_aldn (pc1 := 140) rfl rfl rfl ?_
              refine r_gfI (pc1 := 143) rfl rfl rfl t12 (lyk t12 rfl) rfl rfl ?_
              refine r_aldn (pc1 := 144) rfl rfl rfl ?_
              refine r_gfL (pc1 := 147) rfl rfl rfl t12 (lyk t12 rfl) rfl rfl ?_
              obtain ⟨c13, w⟩ := w
              refine r_last (pc1 := 148) rfl rfl t12 (lyk t12 rfl) (rgh _ _ _) c13.1 (lt_len (lyn t12 rfl) c13.2) (fun h14 eh14 t14 u14 => ?_)
              have w := w h14 eh14 t14 u14
              have s14 := HX_trans s12 u14
              refine r_aldn (pc1 := 149) rfl rfl rfl ?_
              refine r_gfC (pc1 := 152) (q := 74) rfl rfl rfl t14 (lyk t14 rfl) rfl rfl (lyR t14 rfl rfl) ?_
              refine r_aldn (pc1 := 153) rfl rfl rfl ?_
              refine r_gfI (pc1 := 156) rfl rfl rfl t14 (lyk t14 rfl) rfl rfl ?_
              refine r_aldn (pc1 := 157) rfl rfl rfl ?_
              refine r_gfL (pc1 := 160) rfl rfl rfl t14 (lyk t14 rfl) rfl rfl ?_
              obtain ⟨c15, w⟩ := w
              refine r_last (pc1 := 161) rfl rfl t14 (lyk t14 rfl) (rgh _ _ _) c15.1 (lt_len (lyn t14 rfl) c15.2) (fun h16 eh16 t16 u16 => ?_)
              have w := w h16 eh16 t16 u16
              have s16 := HX_trans s14 u16
              refine r_aldn (pc1 := 162) rfl rfl rfl ?_
              refine r_gfC (pc1 := 165) (q := 75) rfl rfl rfl t16 (lyk t16 rfl) rfl rfl (lyR t16 rfl rfl) ?_
              refine r_aldn (pc1 := 166) rfl rfl rfl ?_
              refine r_gfI (pc1 := 169) rfl rfl rfl t16 (lyk t16 rfl) rfl rfl ?_
              refine r_n (pc1 := 170) [.int (J x2), .int (J (hI h16 70 5)), rv 75] _ rfl rfl ?_
              obtain ⟨c17, w⟩ := w
              refine r_iast (pc1 := 171) rfl rfl t16 (lyk t16 rfl) (rgh _ _ _) c17.1 (lt_len (lyn t16 rfl) c17.2) (fun h18 eh18 t18 u18 => ?_)
              have w := w h18 eh18 t18 u18
              have s18 := HX_trans s16 u18
              refine r_aldn (pc1 := 172) rfl rfl rfl ?_
              refine r_gfC (pc1 := 175) (q := 76) rfl rfl rfl t18 (lyk t18 rfl) rfl rfl (lyR t18 rfl rfl) ?_
              refine r_aldn (pc1 := 176) rfl rfl rfl ?_
              refine r_gfI (pc1 := 179) rfl rfl rfl t18 (lyk t18 rfl) rfl rfl ?_
              refine r_n (pc1 := 180) [.int (J x3), .int (J (hI h18 70 5)), rv 76] _ rfl rfl ?_
              obtain ⟨c19, w⟩ := w
              refine r_iast (pc1 := 181) rfl rfl t18 (lyk t18 rfl) (rgh _ _ _) c19.1 (lt_len (lyn t18 rfl) c19.2) (fun h20 eh20 t20 u20 => ?_)
              have w := w h20 eh20 t20 u20
              have s20 := HX_trans s18 u20
              refine r_aldn (pc1 := 182) rfl rfl rfl ?_
              refine r_dupR (pc1 := 183) rfl rfl ?_
              refine r_gfI (pc1 := 186) rfl rfl rfl t20 (lyk t20 rfl) rfl rfl ?_
              refine r_n (pc1 := 187) [.int (J 1), .int (J (hI h20 70 5)), rv 70] _ rfl rfl ?_
              refine r_iadd (pc1 := 188) rfl rfl ?_
              refine r_pfI (pc1 := 191) rfl rfl rfl t20 (lyk t20 rfl) rfl rfl rfl (fun h21 eh21 t21 u21 => ?_)
              have w := w h21 eh21 t21 u21
              have s21 := HX_trans s20 u21
              refine r_n (pc1 := 192) [.int (J 1)] _ rfl rfl ?_
              exact r_retB rfl rfl rfl (.inr rfl) (k _ _ t21 s21 (rgk rfl) (.inr rfl) w)
            · have w := w.2 c22
              exact Q10   h12 t12 s12  w
      · have w := w.2 c53
        refine r_n (pc1 := 20) [.int (J 0)] _ rfl rfl ?_
        refine r_ist (pc1 := 22) (ls1 := [some (rv 70), some (.int (J x1)), some (.int (J x2)), some (.int (J x3)), some (.int (J x4)), some (.int (J 0)), d6]) rfl rfl rfl rfl ?_
        obtain ⟨I31, m31, w, y31⟩ := w
        have Q31 : ∀ (n : Nat) (d29 : Option Value) (x25 : Int) (x26 : Int) (x27 : Int) (x28 : Int) (h30 : XH), HT h30 → HX h h30 → rg x25 → rg x26 → rg x27 → rg x28 → m31 x25 x26 x27 x28 h30 < n → I31 x25 x26 x27 x28 h30 → RR sc goal fs 378 22 [some (rv 70), some (.int (J x25)), some (.int (J x26)), some (.int (J x27)), some (.int (J x4)), some (.int (J x28)), d29] [] h30 := by
          intro n
          induction n with
          | zero => intro d29 x25 x26 x27 x28 h30 t30 s30 rx25 rx26 rx27 rx28 q31 _; exact absurd q31 (Nat.not_lt_zero _)
          | succ n ih31 =>
            intro d29 x25 x26 x27 x28 h30 t30 s30 rx25 rx26 rx27 rx28 q31 z31
            have w := y31 x25 x26 x27 x28 h30 t30 s30 rx25 rx26 rx27 rx28 z31
            refine r_n (pc1 := 24) [.int (J x28)] _ rfl rfl ?_
            refine r_n (pc1 := 26) [.int (J x4), .int (J x28)] _ rfl rfl ?_
            refine r_ic (t := 103) (pc1 := 29) rfl rfl rfl rx28 rx4 (fun c52 => ?_) (fun c52 => ?_)
            · have w := w.1 c52
              refine r_inc (pc1 := 106) (g := fun zz => [some (rv 70), some (.int (J x25)), some (.int (J x26)), some (.int (J x27)), some (.int (J zz)), some (.int (J x28)), d29]) rfl rfl rfl rfl (fun _ => rfl) (fun x32 ex32 rx32 => ?_)
              have w := w x32 ex32 rx32
              refine r_goto (t := 10) rfl rfl ?_
              exact ih8 _ _ x25 x26 x27 x32 h30 t30 s30 rx25 rx26 rx27 rx32 (Nat.lt_of_lt_of_le w.2 (Nat.le_of_lt_succ q8)) w.1
            · have w := w.2 c52
              refine r_aldn (pc1 := 30) rfl rfl rfl ?_
              refine r_n (pc1 := 32) [.int (J x28), rv 70] _ rfl rfl ?_
              refine r_n (pc1 := 34) [.int (J x4), .int (J x28), rv 70] _ rfl rfl ?_
              refine r_iv rfl rfl rfl rfl rfl rfl t30 (lyk t30 rfl) rfl (xe_of (xa_r (xa_i (xa_i xa_0))) rfl rfl) (r_d0 hd rfl) (a_X4_isSpent x28 x4 (r_d1 hd rfl) rx28 rx4 w t30 (fun x33 rx33 vx33 w => ?_))
              refine r_fI (pc1 := 37) rfl ?_
              have w := w rx33 vx33
              obtain ⟨J39, j39, w⟩ := w
              have Q39 : ∀ (d37 : Option Value) (x34 : Int) (x35 : Int) (x36 : Int) (h38 : XH), HT h38 → HX h h38 → rg x34 → rg x35 → rg x36 → J39 x34 x35 x36 h38 → RR sc goal fs 378 97 [some (rv 70), some (.int (J x34)), some (.int (J x35)), some (.int (J x36)), some (.int (J x4)), some (.int (J x28)), d37] [] h38 := by
                intro d37 x34 x35 x36 h38 t38 s38 rx34 rx35 rx36 z39
                have w := j39 x34 x35 x36 h38 t38 s38 rx34 rx35 rx36 z39
                refine r_inc (pc1 := 100) (g := fun zz => [some (rv 70), some (.int (J x34)), some (.int (J x35)), some (.int (J x36)), some (.int (J x4)), some (.int (J zz)), d37]) rfl rfl rfl rfl (fun _ => rfl) (fun x40 ex40 rx40 => ?_)
                have w := w x40 ex40 rx40
                refine r_goto (t := 22) rfl rfl ?_
                exact ih31 _ x34 x35 x36 x40 h38 t38 s38 rx34 rx35 rx36 rx40 (Nat.lt_of_lt_of_le w.2 (Nat.le_of_lt_succ q31)) w.1
              refine r_iz (t := 97) (pc1 := 40) rfl rfl rfl rx33 (fun c51 => ?_) (fun c51 => ?_)
              · have w := w.1 c51
                exact Q39 _ x25 x26 x27 h30 t30 s30 rx25 rx26 rx27 w
              · have w := w.2 c51
                refine r_aldn (pc1 := 41) rfl rfl rfl ?_
                refine r_n (pc1 := 43) [.int (J x28), rv 70] _ rfl rfl ?_
                refine r_n (pc1 := 45) [.int (J x4), .int (J x28), rv 70] _ rfl rfl ?_
                refine r_iv rfl rfl rfl rfl rfl rfl t30 (lyk t30 rfl) rfl (xe_of (xa_r (xa_i (xa_i xa_0))) rfl rfl) (r_d0 hd rfl) (a_X4_isJoinable x28 x4 (r_d1 hd rfl) rx28 rx4 w t30 (fun x41 h42 t42 u42 rx41 vx41 w => ?_))
                refine r_fI (pc1 := 48) rfl ?_
                have s42 := HX_trans s30 u42
                have w := w t42 u42
                have w := w rx41 vx41
                refine r_iz (t := 54) (pc1 := 51) rfl rfl rfl rx41 (fun c50 => ?_) (fun c50 => ?_)
                · have w := w.1 c50
                  refine r_aldn (pc1 := 55) rfl rfl rfl ?_
                  refine r_gfL (pc1 := 58) rfl rfl rfl t42 (lyk t42 rfl) rfl rfl ?_
                  refine r_iq rfl rfl rfl rfl rfl rfl (xe_of (xa_l xa_0) rfl rfl) (r_d0 hd rfl) (a_J13_bitCount_95d88 (hL h42 70 12) (r_d1 hd rfl)  w t42 (fun x43 rx43 w => ?_))
                  refine r_fI (pc1 := 61) rfl ?_
                  have w := w rx43
                  refine r_aldn (pc1 := 62) rfl rfl rfl ?_
                  refine r_gfL (pc1 := 65) rfl rfl rfl t42 (lyk t42 rfl) rfl rfl ?_
                  refine r_iq rfl rfl rfl rfl rfl rfl (xe_of (xa_l xa_0) rfl rfl) (r_d0 hd rfl) (a_J13_bitCount_95d88 (hL h42 70 13) (r_d1 hd rfl)  w t42 (fun x44 rx44 w => ?_))
                  refine r_fI (pc1 := 68) rfl ?_
                  have w := w rx44
                  refine r_iadd (pc1 := 69) rfl rfl ?_
                  refine r_vI (rgw _) (fun x45 ex45 rx45 => ?_)
                  have w := w x45 ex45 rx45
                  refine r_ist (pc1 := 71) (ls1 := [some (rv 70), some (.int (J x25)), some (.int (J x26)), some (.int (J x27)), some (.int (J x4)), some (.int (J x28)), some (.int (J x45))]) rfl rfl rfl rfl ?_
                  refine r_n (pc1 := 73) [.int (J x45)] _ rfl rfl ?_
                  refine r_n (pc1 := 74) [.int (J x25), .int (J x45)] _ rfl rfl ?_
                  refine r_ic (t := 97) (pc1 := 77) rfl rfl rfl rx45 rx25 (fun c49 => ?_) (fun c49 => ?_)
                  · have w := w.1 c49
                    exact Q39 _ x25 x26 x27 h42 t42 s42 rx25 rx26 rx27 w
                  · have w := w.2 c49
                    refine r_aldn (pc1 := 78) rfl rfl rfl ?_
                    refine r_n (pc1 := 80) [.int (J x28), rv 70] _ rfl rfl ?_
                    refine r_n (pc1 := 82) [.int (J x4), .int (J x28), rv 70] _ rfl rfl ?_
                    refine r_iv rfl rfl rfl rfl rfl rfl t42 (lyk t42 rfl) rfl (xe_of (xa_r (xa_i (xa_i xa_0))) rfl rfl) (r_d0 hd rfl) (a_X4_isCovered x28 x4 (r_d1 hd rfl) rx28 rx4 w t42 (fun x46 h47 t47 u47 rx46 vx46 w => ?_))
                    refine r_fI (pc1 := 85) rfl ?_
                    have s47 := HX_trans s42 u47
                    have w := w t47 u47
                    have w := w rx46 vx46
                    refine r_iz (t := 97) (pc1 := 88) rfl rfl rfl rx46 (fun c48 => ?_) (fun c48 => ?_)
                    · have w := w.1 c48
                      exact Q39 _ x25 x26 x27 h47 t47 s47 rx25 rx26 rx27 w
                    · have w := w.2 c48
                      refine r_n (pc1 := 90) [.int (J x45)] _ rfl rfl ?_
                      refine r_istn (pc1 := 91) (ls1 := [some (rv 70), some (.int (J x45)), some (.int (J x26)), some (.int (J x27)), some (.int (J x4)), some (.int (J x28)), some (.int (J x45))]) rfl rfl rfl rfl ?_
                      refine r_n (pc1 := 93) [.int (J x28)] _ rfl rfl ?_
                      refine r_istn (pc1 := 94) (ls1 := [some (rv 70), some (.int (J x45)), some (.int (J x28)), some (.int (J x27)), some (.int (J x4)), some (.int (J x28)), some (.int (J x45))]) rfl rfl rfl rfl ?_
                      refine r_n (pc1 := 96) [.int (J x4)] _ rfl rfl ?_
                      refine r_istn (pc1 := 97) (ls1 := [some (rv 70), some (.int (J x45)), some (.int (J x28)), some (.int (J x4)), some (.int (J x4)), some (.int (J x28)), some (.int (J x45))]) rfl rfl rfl rfl ?_
                      exact Q39 _ x45 x28 x4 h47 t47 s47 rx45 rx28 rx4 w
                · have w := w.2 c50
                  refine r_goto (t := 97) rfl rfl ?_
                  exact Q39 _ x25 x26 x27 h42 t42 s42 rx25 rx26 rx27 w
        exact Q31 _ _ x1 x2 x3 0 h7 t7 s7 rx1 rx2 rx3 (rgk rfl) (Nat.lt_succ_self _) w
  exact Q8 _ _ _ 64 (-1) (-1) 1 h t0 (HX_refl h) (rgk rfl) (rgk rfl) (rgk rfl) (rgk rfl) (Nat.lt_succ_self _) w
def w_X4_dropUnneeded  (K : XH → Prop) (h : XH) : Prop :=
  (w_J7_fill_53178 77 (-1) (fun h1 => HT h1 → HX h h1 → (∃ J3 : XH → Prop, (∀ (h2 : XH), HT h2 → HX h h2 → J3 h2 → (∀ x4 : Int, x4 = wr ((hI h2 70 5) - 1) → rg x4 → (∃ (I7 : Int → XH → Prop) (m7 : Int → XH → Nat), I7 x4 h2 ∧ ∀ (x5 : Int) (h6 : XH), HT h6 → HX h h6 → rg x5 → I7 x5 h6 → (((x5 < 0 → ((∃ (I12 : Int → Int → XH → Prop) (m12 : Int → Int → XH → Nat), I12 0 0 h6 ∧ ∀ (x8 : Int) (x9 : Int) (h11 : XH), HT h11 → HX h h11 → rg x8 → rg x9 → I12 x8 x9 h11 → (((hI h11 70 5 ≤ x9 → (∃ J14 : Int → Prop, (∀ (x13 : Int), rg x13 → J14 x13 → (∀ h15 : XH, h15 = sI h11 70 5 x13 → HT h15 → HX h11 h15 → K h15)) ∧ ((hI h11 70 5 ≤ 0 → (J14 (hI h11 70 5))) ∧ (¬ (hI h11 70 5 ≤ 0) → (J14 x8))))) ∧ (¬ (hI h11 70 5 ≤ x9) → ((0 ≤ x9 ∧ x9 < 200) ∧ ∃ J21 : Int → XH → Prop, (∀ (x18 : Int) (h20 : XH), HT h20 → HX h h20 → rg x18 → J21 x18 h20 → (∀ x22 : Int, x22 = wr (x9 + 1) → rg x22 → (I12 x18 x22 h20 ∧ m12 x18 x22 h20 < m12 x8 x9 h11))) ∧ ((hI h11 77 x9.toNat = (-1) → J21 x8 h11) ∧ (¬ (hI h11 77 x9.toNat = (-1)) → (∀ h23 : XH, h23 = sI h11 77 x9.toNat x8 → HT h23 → HX h11 h23 → (0 ≤ x8 ∧ x8 < 200) ∧ ∀ h25 : XH, h25 = sL h23 73 x8.toNat (hL h23 73 x9.toNat) → HT h25 → HX h23 h25 → ∀ h26 : XH, h26 = sL h25 74 x8.toNat (hL h25 74 x9.toNat) → HT h26 → HX h25 h26 → ∃ J28 : Int → Prop, (∀ (x27 : Int), rg x27 → J28 x27 → (∃ J30 : Int → Prop, (∀ (x29 : Int), rg x29 → J30 x29 → (∀ h31 : XH, h31 = sI h26 75 x8.toNat x29 → HT h31 → HX h26 h31 → ∃ J33 : Int → Prop, (∀ (x32 : Int), rg x32 → J33 x32 → (∀ h34 : XH, h34 = sI h31 76 x8.toNat x32 → HT h34 → HX h31 h34 → ∀ x35 : Int, x35 = wr (x8 + 1) → rg x35 → J21 x35 h34)) ∧ ((x27 = 0 → (J33 (-1))) ∧ (¬ (x27 = 0) → (∀ x36 : Int, x36 = hI h31 76 x9.toNat → rg x36 → (0 ≤ x36 ∧ x36 < 200) ∧ J33 (hI h31 77 x36.toNat)))))) ∧ ((x27 = 0 → (J30 (-1))) ∧ (¬ (x27 = 0) → (∀ x39 : Int, x39 = hI h26 75 x9.toNat → rg x39 → (0 ≤ x39 ∧ x39 < 200) ∧ J30 (hI h26 77 x39.toNat)))))) ∧ ((hI h26 76 x9.toNat = (-1) → (J28 0)) ∧ (¬ (hI h26 76 x9.toNat = (-1)) → (J28 1))))))))))))) ∧ (¬ (x5 < 0) → ((0 ≤ x5 ∧ x5 < 200) ∧ ∃ J47 : XH → Prop, (∀ (h46 : XH), HT h46 → HX h h46 → J47 h46 → (∀ x48 : Int, x48 = wr (x5 + (-1)) → rg x48 → (I7 x48 h46 ∧ m7 x48 h46 < m7 x5 h6))) ∧ ((hI h6 77 x5.toNat = (-1) → J47 h6) ∧ (¬ (hI h6 77 x5.toNat = (-1)) → (((hI h6 76 x5.toNat = (-1) → J47 h6) ∧ (¬ (hI h6 76 x5.toNat = (-1)) → ((0 ≤ hI h6 75 x5.toNat ∧ hI h6 75 x5.toNat < 200) ∧ ∀ h50 : XH, h50 = sI h6 77 (hI h6 75 x5.toNat).toNat 0 → HT h50 → HX h6 h50 → (0 ≤ hI h50 76 x5.toNat ∧ hI h50 76 x5.toNat < 200) ∧ ∀ h52 : XH, h52 = sI h50 77 (hI h50 76 x5.toNat).toNat 0 → HT h52 → HX h50 h52 → J47 h52))))))))))))) ∧ ((hI h1 70 5 ≤ 0 → J3 h1) ∧ (¬ (hI h1 70 5 ≤ 0) → ((0 ≤ wr ((hI h1 70 5) - 1) ∧ wr ((hI h1 70 5) - 1) < 200) ∧ ∀ h57 : XH, h57 = sI h1 77 (wr ((hI h1 70 5) - 1)).toNat 0 → HT h57 → HX h1 h57 → J3 h57))))) h)
set_option maxHeartbeats 4000000 in
theorem a_X4_dropUnneeded {sc : Nat × (Nat → Int32)} {goal : XO → XH → Prop} {fs : List XF} {h : XH}  {K : XH → Prop} (hd : fs.length + 1 ≤ 1000) (w : w_X4_dropUnneeded  K h) (t0 : HT h) (k : ∀ (h1 : XH), HT h1 → HX h h1 → K h1 → XFin xP sc goal fs (.inl none) h1) : RR sc goal fs 375 0 [some (rv 70), none, none, none] [] h := by
  unfold w_X4_dropUnneeded at w
  refine r_aldn (pc1 := 1) rfl rfl rfl ?_
  refine r_gfC (pc1 := 4) (q := 77) rfl rfl rfl t0 (lyk t0 rfl) rfl rfl (lyR t0 rfl rfl) ?_
  refine r_n (pc1 := 5) [.int (J (-1)), rv 77] _ rfl rfl ?_
  refine r_iq rfl rfl rfl rfl rfl rfl (xe_of (xa_r (xa_i xa_0)) rfl rfl) (r_d0 hd rfl) (a_J7_fill_53178 77 (-1) (r_d1 hd rfl) (rgk rfl) w t0 (fun h1 t1 u1 w => ?_))
  refine r_fV (pc1 := 8) rfl ?_
  have s1 := HX_trans (HX_refl h) u1
  have w := w t1 u1
  refine r_aldn (pc1 := 9) rfl rfl rfl ?_
  refine r_gfI (pc1 := 12) rfl rfl rfl t1 (lyk t1 rfl) rfl rfl ?_
  obtain ⟨J3, j3, w⟩ := w
  have Q3 : ∀ (h2 : XH), HT h2 → HX h h2 → J3 h2 → RR sc goal fs 375 27 [some (rv 70), none, none, none] [] h2 := by
    intro h2 t2 s2 z3
    have w := j3 h2 t2 s2 z3
    refine r_aldn (pc1 := 28) rfl rfl rfl ?_
    refine r_gfI (pc1 := 31) rfl rfl rfl t2 (lyk t2 rfl) rfl rfl ?_
    refine r_n (pc1 := 32) [.int (J 1), .int (J (hI h2 70 5))] _ rfl rfl ?_
    refine r_isub (pc1 := 33) rfl rfl ?_
    refine r_vI (rgw _) (fun x4 ex4 rx4 => ?_)
    have w := w x4 ex4 rx4
    refine r_istn (pc1 := 34) (ls1 := [some (rv 70), some (.int (J x4)), none, none]) rfl rfl rfl rfl ?_
    obtain ⟨I7, m7, w, y7⟩ := w
    have Q7 : ∀ (n : Nat)  (x5 : Int) (h6 : XH), HT h6 → HX h h6 → rg x5 → m7 x5 h6 < n → I7 x5 h6 → RR sc goal fs 375 34 [some (rv 70), some (.int (J x5)), none, none] [] h6 := by
      intro n
      induction n with
      | zero => intro x5 h6 t6 s6 rx5 q7 _; exact absurd q7 (Nat.not_lt_zero _)
      | succ n ih7 =>
        intro x5 h6 t6 s6 rx5 q7 z7
        have w := y7 x5 h6 t6 s6 rx5 z7
        refine r_n (pc1 := 35) [.int (J x5)] _ rfl rfl ?_
        refine r_iz (t := 88) (pc1 := 38) rfl rfl rfl rx5 (fun c55 => ?_) (fun c55 => ?_)
        · have w := w.1 c55
          refine r_n (pc1 := 89) [.int (J 0)] _ rfl rfl ?_
          refine r_istn (pc1 := 90) (ls1 := [some (rv 70), some (.int (J 0)), none, none]) rfl rfl rfl rfl ?_
          refine r_n (pc1 := 91) [.int (J 0)] _ rfl rfl ?_
          refine r_istn (pc1 := 92) (ls1 := [some (rv 70), some (.int (J 0)), some (.int (J 0)), none]) rfl rfl rfl rfl ?_
          obtain ⟨I12, m12, w, y12⟩ := w
          have Q12 : ∀ (n : Nat) (d10 : Option Value) (x8 : Int) (x9 : Int) (h11 : XH), HT h11 → HX h h11 → rg x8 → rg x9 → m12 x8 x9 h11 < n → I12 x8 x9 h11 → RR sc goal fs 375 92 [some (rv 70), some (.int (J x8)), some (.int (J x9)), d10] [] h11 := by
            intro n
            induction n with
            | zero => intro d10 x8 x9 h11 t11 s11 rx8 rx9 q12 _; exact absurd q12 (Nat.not_lt_zero _)
            | succ n ih12 =>
              intro d10 x8 x9 h11 t11 s11 rx8 rx9 q12 z12
              have w := y12 x8 x9 h11 t11 s11 rx8 rx9 z12
              refine r_n (pc1 := 93) [.int (J x9)] _ rfl rfl ?_
              refine r_aldn (pc1 := 94) rfl rfl rfl ?_
              refine r_gfI (pc1 := 97) rfl rfl rfl t11 (lyk t11 rfl) rfl rfl ?_
              refine r_ic (t := 216) (pc1 := 100) rfl rfl rfl rx9 (rgh _ _ _) (fun c44 => ?_) (fun c44 => ?_)
              · have w := w.1 c44
                refine r_aldn (pc1 := 217) rfl rfl rfl ?_
                refine r_aldn (pc1 := 218) rfl rfl rfl ?_
                refine r_gfI (pc1 := 221) rfl rfl rfl t11 (lyk t11 rfl) rfl rfl ?_
                obtain ⟨J14, j14, w⟩ := w
                have Q14 : ∀ (x13 : Int), rg x13 → J14 x13 → RR sc goal fs 375 232 [some (rv 70), some (.int (J x8)), some (.int (J x9)), d10] [.int (J x13), rv 70] h11 := by
                  intro x13 rx13 z14
                  have w := j14 x13 rx13 z14
                  refine r_pfI (pc1 := 235) rfl rfl rfl t11 (lyk t11 rfl) rfl rfl rfl (fun h15 eh15 t15 u15 => ?_)
                  have w := w h15 eh15 t15 u15
                  have s15 := HX_trans s11 u15
                  exact r_retV rfl rfl rfl (k _ t15 s15 w)
                refine r_iz (t := 228) (pc1 := 224) rfl rfl rfl (rgh _ _ _) (fun c16 => ?_) (fun c16 => ?_)
                · have w := w.1 c16
                  refine r_aldn (pc1 := 229) rfl rfl rfl ?_
                  refine r_gfI (pc1 := 232) rfl rfl rfl t11 (lyk t11 rfl) rfl rfl ?_
                  exact Q14  (hI h11 70 5)  (rgh _ _ _) w
                · have w := w.2 c16
                  refine r_n (pc1 := 225) [.int (J x8), rv 70] _ rfl rfl ?_
                  refine r_goto (t := 232) rfl rfl ?_
                  exact Q14  x8  rx8 w
              · have w := w.2 c44
                refine r_aldn (pc1 := 101) rfl rfl rfl ?_
                refine r_gfC (pc1 := 104) (q := 77) rfl rfl rfl t11 (lyk t11 rfl) rfl rfl (lyR t11 rfl rfl) ?_
                refine r_n (pc1 := 105) [.int (J x9), rv 77] _ rfl rfl ?_
                obtain ⟨c17, w⟩ := w
                refine r_ial (pc1 := 106) rfl rfl t11 (lyk t11 rfl) rx9 c17.1 (lt_len (lyn t11 rfl) c17.2) ?_
                refine r_n (pc1 := 107) [.int (J (-1)), .int (J (hI h11 77 x9.toNat))] _ rfl rfl ?_
                obtain ⟨J21, j21, w⟩ := w
                have Q21 : ∀ (d19 : Option Value) (x18 : Int) (h20 : XH), HT h20 → HX h h20 → rg x18 → J21 x18 h20 → RR sc goal fs 375 210 [some (rv 70), some (.int (J x18)), some (.int (J x9)), d19] [] h20 := by
                  intro d19 x18 h20 t20 s20 rx18 z21
                  have w := j21 x18 h20 t20 s20 rx18 z21
                  refine r_inc (pc1 := 213) (g := fun zz => [some (rv 70), some (.int (J x18)), some (.int (J zz)), d19]) rfl rfl rfl rfl (fun _ => rfl) (fun x22 ex22 rx22 => ?_)
                  have w := w x22 ex22 rx22
                  refine r_goto (t := 92) rfl rfl ?_
                  exact ih12 _ x18 x22 h20 t20 s20 rx18 rx22 (Nat.lt_of_lt_of_le w.2 (Nat.le_of_lt_succ q12)) w.1
                refine r_ic (t := 210) (pc1 := 110) rfl rfl rfl (rgh _ _ _) (rgk rfl) (fun c43 => ?_) (fun c43 => ?_)
                · have w := w.1 c43
                  exact Q21 _ x8 h11 t11 s11 rx8 w
                · have w := w.2 c43
                  refine r_aldn (pc1 := 111) rfl rfl rfl ?_
                  refine r_gfC (pc1 := 114) (q := 77) rfl rfl rfl t11 (lyk t11 rfl) rfl rfl (lyR t11 rfl rfl) ?_
                  refine r_n (pc1 := 115) [.int (J x9), rv 77] _ rfl rfl ?_
                  refine r_n (pc1 := 116) [.int (J x8), .int (J x9), rv 77] _ rfl rfl ?_
                  refine r_iast (pc1 := 117) rfl rfl t11 (lyk t11 rfl) rx9 c17.1 (lt_len (lyn t11 rfl) c17.2) (fun h23 eh23 t23 u23 => ?_)
                  have w := w h23 eh23 t23 u23
                  have s23 := HX_trans s11 u23
                  refine r_aldn (pc1 := 118) rfl rfl rfl ?_
                  refine r_gfC (pc1 := 121) (q := 73) rfl rfl rfl t23 (lyk t23 rfl) rfl rfl (lyR t23 rfl rfl) ?_
                  refine r_n (pc1 := 122) [.int (J x8), rv 73] _ rfl rfl ?_
                  refine r_aldn (pc1 := 123) rfl rfl rfl ?_
                  refine r_gfC (pc1 := 126) (q := 73) rfl rfl rfl t23 (lyk t23 rfl) rfl rfl (lyR t23 rfl rfl) ?_
                  refine r_n (pc1 := 127) [.int (J x9), rv 73, .int (J x8), rv 73] _ rfl rfl ?_
                  refine r_lal (pc1 := 128) rfl rfl t23 (lyk t23 rfl) rx9 c17.1 (lt_len (lyn t23 rfl) c17.2) ?_
                  obtain ⟨c24, w⟩ := w
                  refine r_last (pc1 := 129) rfl rfl t23 (lyk t23 rfl) rx8 c24.1 (lt_len (lyn t23 rfl) c24.2) (fun h25 eh25 t25 u25 => ?_)
                  have w := w h25 eh25 t25 u25
                  have s25 := HX_trans s23 u25
                  refine r_aldn (pc1 := 130) rfl rfl rfl ?_
                  refine r_gfC (pc1 := 133) (q := 74) rfl rfl rfl t25 (lyk t25 rfl) rfl rfl (lyR t25 rfl rfl) ?_
                  refine r_n (pc1 := 134) [.int (J x8), rv 74] _ rfl rfl ?_
                  refine r_aldn (pc1 := 135) rfl rfl rfl ?_
                  refine r_gfC (pc1 := 138) (q := 74) rfl rfl rfl t25 (lyk t25 rfl) rfl rfl (lyR t25 rfl rfl) ?_
                  refine r_n (pc1 := 139) [.int (J x9), rv 74, .int (J x8), rv 74] _ rfl rfl ?_
                  refine r_lal (pc1 := 140) rfl rfl t25 (lyk t25 rfl) rx9 c17.1 (lt_len (lyn t25 rfl) c17.2) ?_
                  refine r_last (pc1 := 141) rfl rfl t25 (lyk t25 rfl) rx8 c24.1 (lt_len (lyn t25 rfl) c24.2) (fun h26 eh26 t26 u26 => ?_)
                  have w := w h26 eh26 t26 u26
                  have s26 := HX_trans s25 u26
                  refine r_aldn (pc1 := 142) rfl rfl rfl ?_
                  refine r_gfC (pc1 := 145) (q := 76) rfl rfl rfl t26 (lyk t26 rfl) rfl rfl (lyR t26 rfl rfl) ?_
                  refine r_n (pc1 := 146) [.int (J x9), rv 76] _ rfl rfl ?_
                  refine r_ial (pc1 := 147) rfl rfl t26 (lyk t26 rfl) rx9 c17.1 (lt_len (lyn t26 rfl) c17.2) ?_
                  refine r_n (pc1 := 148) [.int (J (-1)), .int (J (hI h26 76 x9.toNat))] _ rfl rfl ?_
                  obtain ⟨J28, j28, w⟩ := w
                  have Q28 : ∀ (x27 : Int), rg x27 → J28 x27 → RR sc goal fs 375 156 [some (rv 70), some (.int (J x8)), some (.int (J x9)), d10] [.int (J x27)] h26 := by
                    intro x27 rx27 z28
                    have w := j28 x27 rx27 z28
                    refine r_istn (pc1 := 157) (ls1 := [some (rv 70), some (.int (J x8)), some (.int (J x9)), some (.int (J x27))]) rfl rfl rfl rfl ?_
                    refine r_aldn (pc1 := 158) rfl rfl rfl ?_
                    refine r_gfC (pc1 := 161) (q := 75) rfl rfl rfl t26 (lyk t26 rfl) rfl rfl (lyR t26 rfl rfl) ?_
                    refine r_n (pc1 := 162) [.int (J x8), rv 75] _ rfl rfl ?_
                    refine r_n (pc1 := 163) [.int (J x27), .int (J x8), rv 75] _ rfl rfl ?_
                    obtain ⟨J30, j30, w⟩ := w
                    have Q30 : ∀ (x29 : Int), rg x29 → J30 x29 → RR sc goal fs 375 181 [some (rv 70), some (.int (J x8)), some (.int (J x9)), some (.int (J x27))] [.int (J x29), .int (J x8), rv 75] h26 := by
                      intro x29 rx29 z30
                      have w := j30 x29 rx29 z30
                      refine r_iast (pc1 := 182) rfl rfl t26 (lyk t26 rfl) rx8 c24.1 (lt_len (lyn t26 rfl) c24.2) (fun h31 eh31 t31 u31 => ?_)
                      have w := w h31 eh31 t31 u31
                      have s31 := HX_trans s26 u31
                      refine r_aldn (pc1 := 183) rfl rfl rfl ?_
                      refine r_gfC (pc1 := 186) (q := 76) rfl rfl rfl t31 (lyk t31 rfl) rfl rfl (lyR t31 rfl rfl) ?_
                      refine r_n (pc1 := 187) [.int (J x8), rv 76] _ rfl rfl ?_
                      refine r_n (pc1 := 188) [.int (J x27), .int (J x8), rv 76] _ rfl rfl ?_
                      obtain ⟨J33, j33, w⟩ := w
                      have Q33 : ∀ (x32 : Int), rg x32 → J33 x32 → RR sc goal fs 375 206 [some (rv 70), some (.int (J x8)), some (.int (J x9)), some (.int (J x27))] [.int (J x32), .int (J x8), rv 76] h31 := by
                        intro x32 rx32 z33
                        have w := j33 x32 rx32 z33
                        refine r_iast (pc1 := 207) rfl rfl t31 (lyk t31 rfl) rx8 c24.1 (lt_len (lyn t31 rfl) c24.2) (fun h34 eh34 t34 u34 => ?_)
                        have w := w h34 eh34 t34 u34
                        have s34 := HX_trans s31 u34
                        refine r_inc (pc1 := 210) (g := fun zz => [some (rv 70), some (.int (J zz)), some (.int (J x9)), some (.int (J x27))]) rfl rfl rfl rfl (fun _ => rfl) (fun x35 ex35 rx35 => ?_)
                        have w := w x35 ex35 rx35
                        exact Q21 _ x35 h34 t34 s34 rx35 w
                      refine r_iz (t := 205) (pc1 := 191) rfl rfl rfl rx27 (fun c38 => ?_) (fun c38 => ?_)
                      · have w := w.1 c38
                        refine r_n (pc1 := 206) [.int (J (-1)), .int (J x8), rv 76] _ rfl rfl ?_
                        exact Q33  (-1)  (rgk rfl) w
                      · have w := w.2 c38
                        refine r_aldn (pc1 := 192) rfl rfl rfl ?_
                        refine r_gfC (pc1 := 195) (q := 77) rfl rfl rfl t31 (lyk t31 rfl) rfl rfl (lyR t31 rfl rfl) ?_
                        refine r_aldn (pc1 := 196) rfl rfl rfl ?_
                        refine r_gfC (pc1 := 199) (q := 76) rfl rfl rfl t31 (lyk t31 rfl) rfl rfl (lyR t31 rfl rfl) ?_
                        refine r_n (pc1 := 200) [.int (J x9), rv 76, rv 77, .int (J x8), rv 76] _ rfl rfl ?_
                        refine r_ial (pc1 := 201) rfl rfl t31 (lyk t31 rfl) rx9 c17.1 (lt_len (lyn t31 rfl) c17.2) ?_
                        refine r_vI (rgh _ _ _) (fun x36 ex36 rx36 => ?_)
                        have w := w x36 ex36 rx36
                        obtain ⟨c37, w⟩ := w
                        refine r_ial (pc1 := 202) rfl rfl t31 (lyk t31 rfl) rx36 c37.1 (lt_len (lyn t31 rfl) c37.2) ?_
                        refine r_goto (t := 206) rfl rfl ?_
                        exact Q33  (hI h31 77 x36.toNat)  (rgh _ _ _) w
                    refine r_iz (t := 180) (pc1 := 166) rfl rfl rfl rx27 (fun c41 => ?_) (fun c41 => ?_)
                    · have w := w.1 c41
                      refine r_n (pc1 := 181) [.int (J (-1)), .int (J x8), rv 75] _ rfl rfl ?_
                      exact Q30  (-1)  (rgk rfl) w
                    · have w := w.2 c41
                      refine r_aldn (pc1 := 167) rfl rfl rfl ?_
                      refine r_gfC (pc1 := 170) (q := 77) rfl rfl rfl t26 (lyk t26 rfl) rfl rfl (lyR t26 rfl rfl) ?_
                      refine r_aldn (pc1 := 171) rfl rfl rfl ?_
                      refine r_gfC (pc1 := 174) (q := 75) rfl rfl rfl t26 (lyk t26 rfl) rfl rfl (lyR t26 rfl rfl) ?_
                      refine r_n (pc1 := 175) [.int (J x9), rv 75, rv 77, .int (J x8), rv 75] _ rfl rfl ?_
                      refine r_ial (pc1 := 176) rfl rfl t26 (lyk t26 rfl) rx9 c17.1 (lt_len (lyn t26 rfl) c17.2) ?_
                      refine r_vI (rgh _ _ _) (fun x39 ex39 rx39 => ?_)
                      have w := w x39 ex39 rx39
                      obtain ⟨c40, w⟩ := w
                      refine r_ial (pc1 := 177) rfl rfl t26 (lyk t26 rfl) rx39 c40.1 (lt_len (lyn t26 rfl) c40.2) ?_
                      refine r_goto (t := 181) rfl rfl ?_
                      exact Q30  (hI h26 77 x39.toNat)  (rgh _ _ _) w
                  refine r_ic (t := 155) (pc1 := 151) rfl rfl rfl (rgh _ _ _) (rgk rfl) (fun c42 => ?_) (fun c42 => ?_)
                  · have w := w.1 c42
                    refine r_n (pc1 := 156) [.int (J 0)] _ rfl rfl ?_
                    exact Q28  0  (rgk rfl) w
                  · have w := w.2 c42
                    refine r_n (pc1 := 152) [.int (J 1)] _ rfl rfl ?_
                    refine r_goto (t := 156) rfl rfl ?_
                    exact Q28  1  (rgk rfl) w
          exact Q12 _ _ 0 0 h6 t6 s6 (rgk rfl) (rgk rfl) (Nat.lt_succ_self _) w
        · have w := w.2 c55
          refine r_aldn (pc1 := 39) rfl rfl rfl ?_
          refine r_gfC (pc1 := 42) (q := 77) rfl rfl rfl t6 (lyk t6 rfl) rfl rfl (lyR t6 rfl rfl) ?_
          refine r_n (pc1 := 43) [.int (J x5), rv 77] _ rfl rfl ?_
          obtain ⟨c45, w⟩ := w
          refine r_ial (pc1 := 44) rfl rfl t6 (lyk t6 rfl) rx5 c45.1 (lt_len (lyn t6 rfl) c45.2) ?_
          refine r_n (pc1 := 45) [.int (J (-1)), .int (J (hI h6 77 x5.toNat))] _ rfl rfl ?_
          obtain ⟨J47, j47, w⟩ := w
          have Q47 : ∀ (h46 : XH), HT h46 → HX h h46 → J47 h46 → RR sc goal fs 375 82 [some (rv 70), some (.int (J x5)), none, none] [] h46 := by
            intro h46 t46 s46 z47
            have w := j47 h46 t46 s46 z47
            refine r_inc (pc1 := 85) (g := fun zz => [some (rv 70), some (.int (J zz)), none, none]) rfl rfl rfl rfl (fun _ => rfl) (fun x48 ex48 rx48 => ?_)
            have w := w x48 ex48 rx48
            refine r_goto (t := 34) rfl rfl ?_
            exact ih7  x48 h46 t46 s46 rx48 (Nat.lt_of_lt_of_le w.2 (Nat.le_of_lt_succ q7)) w.1
          refine r_ic (t := 82) (pc1 := 48) rfl rfl rfl (rgh _ _ _) (rgk rfl) (fun c54 => ?_) (fun c54 => ?_)
          · have w := w.1 c54
            exact Q47   h6 t6 s6  w
          · have w := w.2 c54
            refine r_aldn (pc1 := 49) rfl rfl rfl ?_
            refine r_gfC (pc1 := 52) (q := 76) rfl rfl rfl t6 (lyk t6 rfl) rfl rfl (lyR t6 rfl rfl) ?_
            refine r_n (pc1 := 53) [.int (J x5), rv 76] _ rfl rfl ?_
            refine r_ial (pc1 := 54) rfl rfl t6 (lyk t6 rfl) rx5 c45.1 (lt_len (lyn t6 rfl) c45.2) ?_
            refine r_n (pc1 := 55) [.int (J (-1)), .int (J (hI h6 76 x5.toNat))] _ rfl rfl ?_
            refine r_ic (t := 82) (pc1 := 58) rfl rfl rfl (rgh _ _ _) (rgk rfl) (fun c53 => ?_) (fun c53 => ?_)
            · have w := w.1 c53
              exact Q47   h6 t6 s6  w
            · have w := w.2 c53
              refine r_aldn (pc1 := 59) rfl rfl rfl ?_
              refine r_gfC (pc1 := 62) (q := 77) rfl rfl rfl t6 (lyk t6 rfl) rfl rfl (lyR t6 rfl rfl) ?_
              refine r_aldn (pc1 := 63) rfl rfl rfl ?_
              refine r_gfC (pc1 := 66) (q := 75) rfl rfl rfl t6 (lyk t6 rfl) rfl rfl (lyR t6 rfl rfl) ?_
              refine r_n (pc1 := 67) [.int (J x5), rv 75, rv 77] _ rfl rfl ?_
              refine r_ial (pc1 := 68) rfl rfl t6 (lyk t6 rfl) rx5 c45.1 (lt_len (lyn t6 rfl) c45.2) ?_
              refine r_n (pc1 := 69) [.int (J 0), .int (J (hI h6 75 x5.toNat)), rv 77] _ rfl rfl ?_
              obtain ⟨c49, w⟩ := w
              refine r_iast (pc1 := 70) rfl rfl t6 (lyk t6 rfl) (rgh _ _ _) c49.1 (lt_len (lyn t6 rfl) c49.2) (fun h50 eh50 t50 u50 => ?_)
              have w := w h50 eh50 t50 u50
              have s50 := HX_trans s6 u50
              refine r_aldn (pc1 := 71) rfl rfl rfl ?_
              refine r_gfC (pc1 := 74) (q := 77) rfl rfl rfl t50 (lyk t50 rfl) rfl rfl (lyR t50 rfl rfl) ?_
              refine r_aldn (pc1 := 75) rfl rfl rfl ?_
              refine r_gfC (pc1 := 78) (q := 76) rfl rfl rfl t50 (lyk t50 rfl) rfl rfl (lyR t50 rfl rfl) ?_
              refine r_n (pc1 := 79) [.int (J x5), rv 76, rv 77] _ rfl rfl ?_
              refine r_ial (pc1 := 80) rfl rfl t50 (lyk t50 rfl) rx5 c45.1 (lt_len (lyn t50 rfl) c45.2) ?_
              refine r_n (pc1 := 81) [.int (J 0), .int (J (hI h50 76 x5.toNat)), rv 77] _ rfl rfl ?_
              obtain ⟨c51, w⟩ := w
              refine r_iast (pc1 := 82) rfl rfl t50 (lyk t50 rfl) (rgh _ _ _) c51.1 (lt_len (lyn t50 rfl) c51.2) (fun h52 eh52 t52 u52 => ?_)
              have w := w h52 eh52 t52 u52
              have s52 := HX_trans s50 u52
              exact Q47   h52 t52 s52  w
    exact Q7 _  x4 h2 t2 s2 rx4 (Nat.lt_succ_self _) w
  refine r_iz (t := 27) (pc1 := 15) rfl rfl rfl (rgh _ _ _) (fun c58 => ?_) (fun c58 => ?_)
  · have w := w.1 c58
    exact Q3   h1 t1 s1  w
  · have w := w.2 c58
    refine r_aldn (pc1 := 16) rfl rfl rfl ?_
    refine r_gfC (pc1 := 19) (q := 77) rfl rfl rfl t1 (lyk t1 rfl) rfl rfl (lyR t1 rfl rfl) ?_
    refine r_aldn (pc1 := 20) rfl rfl rfl ?_
    refine r_gfI (pc1 := 23) rfl rfl rfl t1 (lyk t1 rfl) rfl rfl ?_
    refine r_n (pc1 := 24) [.int (J 1), .int (J (hI h1 70 5)), rv 77] _ rfl rfl ?_
    refine r_isub (pc1 := 25) rfl rfl ?_
    refine r_n (pc1 := 26) [.int (J 0), .int (J (wr ((hI h1 70 5) - 1))), rv 77] _ rfl rfl ?_
    obtain ⟨c56, w⟩ := w
    refine r_iast (pc1 := 27) rfl rfl t1 (lyk t1 rfl) (rgw _) c56.1 (lt_len (lyn t1 rfl) c56.2) (fun h57 eh57 t57 u57 => ?_)
    have w := w h57 eh57 t57 u57
    have s57 := HX_trans s1 u57
    exact Q3   h57 t57 s57  w
def w_X4_join  (K : XH → Prop) (h : XH) : Prop :=
  (∃ J2 : Int → Prop, (∀ (x1 : Int), rg x1 → J2 x1 → (∀ h3 : XH, h3 = sI h 70 5 x1 → HT h3 → HX h h3 → (∃ (I6 : Int → XH → Prop) (m6 : Int → XH → Nat), I6 0 h3 ∧ ∀ (x4 : Int) (h5 : XH), HT h5 → HX h h5 → rg x4 → I6 x4 h5 → (((hI h5 70 5 ≤ x4 → (w_J7_fill_d0a16 78 (0#64) (fun h7 => HT h7 → HX h5 h7 → ((∃ (I10 : Int → XH → Prop) (m10 : Int → XH → Nat), I10 0 h7 ∧ ∀ (x8 : Int) (h9 : XH), HT h9 → HX h h9 → rg x8 → I10 x8 h9 → (∃ J11 : Prop, (J11 → (w_X4_dropUnneeded (fun h12 => HT h12 → HX h9 h12 → (K h12)) h9)) ∧ ((200 ≤ x8 → J11) ∧ (¬ (200 ≤ x8) → (((hI h9 70 5 ≤ 0 → J11) ∧ (¬ (hI h9 70 5 ≤ 0) → (w_X4_literalsOf (wr ((hI h9 70 5) - 1)) (fun x13 => rg x13 → (((x13 = 0 → J11) ∧ (¬ (x13 = 0) → (w_X4_isBestJoined (fun x14 h15 => HT h15 → HX h9 h15 → rg x14 → (x14 = 0 ∨ x14 = 1) → (∃ J17 : XH → Prop, (∀ (h16 : XH), HT h16 → HX h h16 → J17 h16 → (∀ x18 : Int, x18 = wr (x8 + 1) → rg x18 → (I10 x18 h16 ∧ m10 x18 h16 < m10 x8 h9))) ∧ ((¬ x14 = 0 → J17 h15) ∧ (¬ (¬ x14 = 0) → (∀ h19 : XH, h19 = sI h15 70 5 (-1) → HT h19 → HX h15 h19 → J17 h19))))) h9))))) h9)))))))))) h5)) ∧ (¬ (hI h5 70 5 ≤ x4) → ((0 ≤ x4 ∧ x4 < 3712) ∧ ∀ x25 : Int, x25 = hI h5 71 x4.toNat → rg x25 → (0 ≤ x25 ∧ x25 < 3712) ∧ (0 ≤ x4 ∧ x4 < 200) ∧ ∀ h28 : XH, h28 = sL h5 73 x4.toNat (hL h5 52 x25.toNat) → HT h28 → HX h5 h28 → ∀ x29 : Int, x29 = hI h28 71 x4.toNat → rg x29 → (0 ≤ x29 ∧ x29 < 3712) ∧ ∀ h31 : XH, h31 = sL h28 74 x4.toNat (hL h28 53 x29.toNat) → HT h31 → HX h28 h31 → ∀ h32 : XH, h32 = sI h31 75 x4.toNat (-1) → HT h32 → HX h31 h32 → ∀ h33 : XH, h33 = sI h32 76 x4.toNat (-1) → HT h33 → HX h32 h33 → ∀ x34 : Int, x34 = wr (x4 + 1) → rg x34 → (I6 x34 h33 ∧ m6 x34 h33 < m6 x4 h5)))))))) ∧ ((200 < hI h 70 2 → (J2 (-1))) ∧ (¬ (200 < hI h 70 2) → (J2 (hI h 70 2)))))
set_option maxHeartbeats 4000000 in
theorem a_X4_join {sc : Nat × (Nat → Int32)} {goal : XO → XH → Prop} {fs : List XF} {h : XH}  {K : XH → Prop} (hd : fs.length + 3 ≤ 1000) (w : w_X4_join  K h) (t0 : HT h) (k : ∀ (h1 : XH), HT h1 → HX h h1 → K h1 → XFin xP sc goal fs (.inl none) h1) : RR sc goal fs 385 0 [some (rv 70), none] [] h := by
  unfold w_X4_join at w
  refine r_aldn (pc1 := 1) rfl rfl rfl ?_
  refine r_aldn (pc1 := 2) rfl rfl rfl ?_
  refine r_gfI (pc1 := 5) rfl rfl rfl t0 (lyk t0 rfl) rfl rfl ?_
  refine r_n (pc1 := 8) [.int (J 200), .int (J (hI h 70 2)), rv 70] _ rfl rfl ?_
  obtain ⟨J2, j2, w⟩ := w
  have Q2 : ∀ (x1 : Int), rg x1 → J2 x1 → RR sc goal fs 385 19 [some (rv 70), none] [.int (J x1), rv 70] h := by
    intro x1 rx1 z2
    have w := j2 x1 rx1 z2
    refine r_pfI (pc1 := 22) rfl rfl rfl t0 (lyk t0 rfl) rfl rfl rfl (fun h3 eh3 t3 u3 => ?_)
    have w := w h3 eh3 t3 u3
    have s3 := HX_trans (HX_refl h) u3
    refine r_n (pc1 := 23) [.int (J 0)] _ rfl rfl ?_
    refine r_istn (pc1 := 24) (ls1 := [some (rv 70), some (.int (J 0))]) rfl rfl rfl rfl ?_
    obtain ⟨I6, m6, w, y6⟩ := w
    have Q6 : ∀ (n : Nat)  (x4 : Int) (h5 : XH), HT h5 → HX h h5 → rg x4 → m6 x4 h5 < n → I6 x4 h5 → RR sc goal fs 385 24 [some (rv 70), some (.int (J x4))] [] h5 := by
      intro n
      induction n with
      | zero => intro x4 h5 t5 s5 rx4 q6 _; exact absurd q6 (Nat.not_lt_zero _)
      | succ n ih6 =>
        intro x4 h5 t5 s5 rx4 q6 z6
        have w := y6 x4 h5 t5 s5 rx4 z6
        refine r_n (pc1 := 25) [.int (J x4)] _ rfl rfl ?_
        refine r_aldn (pc1 := 26) rfl rfl rfl ?_
        refine r_gfI (pc1 := 29) rfl rfl rfl t5 (lyk t5 rfl) rfl rfl ?_
        refine r_ic (t := 92) (pc1 := 32) rfl rfl rfl rx4 (rgh _ _ _) (fun c35 => ?_) (fun c35 => ?_)
        · have w := w.1 c35
          refine r_aldn (pc1 := 93) rfl rfl rfl ?_
          refine r_gfC (pc1 := 96) (q := 78) rfl rfl rfl t5 (lyk t5 rfl) rfl rfl (lyR t5 rfl rfl) ?_
          refine r_n (pc1 := 97) [.long (G (0#64)), rv 78] _ rfl rfl ?_
          refine r_iq rfl rfl rfl rfl rfl rfl (xe_of (xa_r (xa_l xa_0)) rfl rfl) (r_d0 hd rfl) (a_J7_fill_d0a16 78 (0#64) (r_d1 hd rfl)  w t5 (fun h7 t7 u7 w => ?_))
          refine r_fV (pc1 := 100) rfl ?_
          have s7 := HX_trans s5 u7
          have w := w t7 u7
          refine r_n (pc1 := 101) [.int (J 0)] _ rfl rfl ?_
          refine r_istn (pc1 := 102) (ls1 := [some (rv 70), some (.int (J 0))]) rfl rfl rfl rfl ?_
          obtain ⟨I10, m10, w, y10⟩ := w
          have Q10 : ∀ (n : Nat)  (x8 : Int) (h9 : XH), HT h9 → HX h h9 → rg x8 → m10 x8 h9 < n → I10 x8 h9 → RR sc goal fs 385 102 [some (rv 70), some (.int (J x8))] [] h9 := by
            intro n
            induction n with
            | zero => intro x8 h9 t9 s9 rx8 q10 _; exact absurd q10 (Nat.not_lt_zero _)
            | succ n ih10 =>
              intro x8 h9 t9 s9 rx8 q10 z10
              have w := y10 x8 h9 t9 s9 rx8 z10
              refine r_n (pc1 := 103) [.int (J x8)] _ rfl rfl ?_
              refine r_n (pc1 := 106) [.int (J 200), .int (J x8)] _ rfl rfl ?_
              obtain ⟨J11, j11, w⟩ := w
              have Q11 : J11 → RR sc goal fs 385 147 [some (rv 70), some (.int (J x8))] [] h9 := by
                intro z11
                have w := j11 z11
                refine r_aldn (pc1 := 148) rfl rfl rfl ?_
                refine r_iv rfl rfl rfl rfl rfl rfl t9 (lyk t9 rfl) rfl (xe_of (xa_r xa_0) rfl rfl) (r_d0 hd rfl) (a_X4_dropUnneeded  (r_d1 hd rfl)  w t9 (fun h12 t12 u12 w => ?_))
                refine r_fV (pc1 := 151) rfl ?_
                have s12 := HX_trans s9 u12
                have w := w t12 u12
                exact r_retV rfl rfl rfl (k _ t12 s12 w)
              refine r_ic (t := 147) (pc1 := 109) rfl rfl rfl rx8 (rgk rfl) (fun c23 => ?_) (fun c23 => ?_)
              · have w := w.1 c23
                exact Q11     w
              · have w := w.2 c23
                refine r_aldn (pc1 := 110) rfl rfl rfl ?_
                refine r_gfI (pc1 := 113) rfl rfl rfl t9 (lyk t9 rfl) rfl rfl ?_
                refine r_iz (t := 147) (pc1 := 116) rfl rfl rfl (rgh _ _ _) (fun c22 => ?_) (fun c22 => ?_)
                · have w := w.1 c22
                  exact Q11     w
                · have w := w.2 c22
                  refine r_aldn (pc1 := 117) rfl rfl rfl ?_
                  refine r_aldn (pc1 := 118) rfl rfl rfl ?_
                  refine r_gfI (pc1 := 121) rfl rfl rfl t9 (lyk t9 rfl) rfl rfl ?_
                  refine r_n (pc1 := 122) [.int (J 1), .int (J (hI h9 70 5)), rv 70] _ rfl rfl ?_
                  refine r_isub (pc1 := 123) rfl rfl ?_
                  refine r_iv rfl rfl rfl rfl rfl rfl t9 (lyk t9 rfl) rfl (xe_of (xa_r (xa_i xa_0)) rfl rfl) (r_d0 hd rfl) (a_X4_literalsOf (wr ((hI h9 70 5) - 1)) (r_d1 hd rfl) (rgw _) w t9 (fun x13 rx13 w => ?_))
                  refine r_fI (pc1 := 126) rfl ?_
                  have w := w rx13
                  refine r_iz (t := 147) (pc1 := 129) rfl rfl rfl rx13 (fun c21 => ?_) (fun c21 => ?_)
                  · have w := w.1 c21
                    exact Q11     w
                  · have w := w.2 c21
                    refine r_aldn (pc1 := 130) rfl rfl rfl ?_
                    refine r_iv rfl rfl rfl rfl rfl rfl t9 (lyk t9 rfl) rfl (xe_of (xa_r xa_0) rfl rfl) (r_d0 hd rfl) (a_X4_isBestJoined  (r_d1 hd rfl)  w t9 (fun x14 h15 t15 u15 rx14 vx14 w => ?_))
                    refine r_fI (pc1 := 133) rfl ?_
                    have s15 := HX_trans s9 u15
                    have w := w t15 u15
                    have w := w rx14 vx14
                    obtain ⟨J17, j17, w⟩ := w
                    have Q17 : ∀ (h16 : XH), HT h16 → HX h h16 → J17 h16 → RR sc goal fs 385 141 [some (rv 70), some (.int (J x8))] [] h16 := by
                      intro h16 t16 s16 z17
                      have w := j17 h16 t16 s16 z17
                      refine r_inc (pc1 := 144) (g := fun zz => [some (rv 70), some (.int (J zz))]) rfl rfl rfl rfl (fun _ => rfl) (fun x18 ex18 rx18 => ?_)
                      have w := w x18 ex18 rx18
                      refine r_goto (t := 102) rfl rfl ?_
                      exact ih10  x18 h16 t16 s16 rx18 (Nat.lt_of_lt_of_le w.2 (Nat.le_of_lt_succ q10)) w.1
                    refine r_iz (t := 141) (pc1 := 136) rfl rfl rfl rx14 (fun c20 => ?_) (fun c20 => ?_)
                    · have w := w.1 c20
                      exact Q17   h15 t15 s15  w
                    · have w := w.2 c20
                      refine r_aldn (pc1 := 137) rfl rfl rfl ?_
                      refine r_n (pc1 := 138) [.int (J (-1)), rv 70] _ rfl rfl ?_
                      refine r_pfI (pc1 := 141) rfl rfl rfl t15 (lyk t15 rfl) rfl rfl rfl (fun h19 eh19 t19 u19 => ?_)
                      have w := w h19 eh19 t19 u19
                      have s19 := HX_trans s15 u19
                      exact Q17   h19 t19 s19  w
          exact Q10 _  0 h7 t7 s7 (rgk rfl) (Nat.lt_succ_self _) w
        · have w := w.2 c35
          refine r_aldn (pc1 := 33) rfl rfl rfl ?_
          refine r_gfC (pc1 := 36) (q := 73) rfl rfl rfl t5 (lyk t5 rfl) rfl rfl (lyR t5 rfl rfl) ?_
          refine r_n (pc1 := 37) [.int (J x4), rv 73] _ rfl rfl ?_
          refine r_aldn (pc1 := 38) rfl rfl rfl ?_
          refine r_gfC (pc1 := 41) (q := 51) rfl rfl rfl t5 (lyk t5 rfl) rfl rfl (lyR t5 rfl rfl) ?_
          refine r_gfC (pc1 := 44) (q := 52) rfl rfl rfl t5 (lyk t5 rfl) rfl rfl (lyR t5 rfl rfl) ?_
          refine r_aldn (pc1 := 45) rfl rfl rfl ?_
          refine r_gfC (pc1 := 48) (q := 71) rfl rfl rfl t5 (lyk t5 rfl) rfl rfl (lyR t5 rfl rfl) ?_
          refine r_n (pc1 := 49) [.int (J x4), rv 71, rv 52, .int (J x4), rv 73] _ rfl rfl ?_
          obtain ⟨c24, w⟩ := w
          refine r_ial (pc1 := 50) rfl rfl t5 (lyk t5 rfl) rx4 c24.1 (lt_len (lyn t5 rfl) c24.2) ?_
          refine r_vI (rgh _ _ _) (fun x25 ex25 rx25 => ?_)
          have w := w x25 ex25 rx25
          obtain ⟨c26, w⟩ := w
          refine r_lal (pc1 := 51) rfl rfl t5 (lyk t5 rfl) rx25 c26.1 (lt_len (lyn t5 rfl) c26.2) ?_
          obtain ⟨c27, w⟩ := w
          refine r_last (pc1 := 52) rfl rfl t5 (lyk t5 rfl) rx4 c27.1 (lt_len (lyn t5 rfl) c27.2) (fun h28 eh28 t28 u28 => ?_)
          have w := w h28 eh28 t28 u28
          have s28 := HX_trans s5 u28
          refine r_aldn (pc1 := 53) rfl rfl rfl ?_
          refine r_gfC (pc1 := 56) (q := 74) rfl rfl rfl t28 (lyk t28 rfl) rfl rfl (lyR t28 rfl rfl) ?_
          refine r_n (pc1 := 57) [.int (J x4), rv 74] _ rfl rfl ?_
          refine r_aldn (pc1 := 58) rfl rfl rfl ?_
          refine r_gfC (pc1 := 61) (q := 51) rfl rfl rfl t28 (lyk t28 rfl) rfl rfl (lyR t28 rfl rfl) ?_
          refine r_gfC (pc1 := 64) (q := 53) rfl rfl rfl t28 (lyk t28 rfl) rfl rfl (lyR t28 rfl rfl) ?_
          refine r_aldn (pc1 := 65) rfl rfl rfl ?_
          refine r_gfC (pc1 := 68) (q := 71) rfl rfl rfl t28 (lyk t28 rfl) rfl rfl (lyR t28 rfl rfl) ?_
          refine r_n (pc1 := 69) [.int (J x4), rv 71, rv 53, .int (J x4), rv 74] _ rfl rfl ?_
          refine r_ial (pc1 := 70) rfl rfl t28 (lyk t28 rfl) rx4 c24.1 (lt_len (lyn t28 rfl) c24.2) ?_
          refine r_vI (rgh _ _ _) (fun x29 ex29 rx29 => ?_)
          have w := w x29 ex29 rx29
          obtain ⟨c30, w⟩ := w
          refine r_lal (pc1 := 71) rfl rfl t28 (lyk t28 rfl) rx29 c30.1 (lt_len (lyn t28 rfl) c30.2) ?_
          refine r_last (pc1 := 72) rfl rfl t28 (lyk t28 rfl) rx4 c27.1 (lt_len (lyn t28 rfl) c27.2) (fun h31 eh31 t31 u31 => ?_)
          have w := w h31 eh31 t31 u31
          have s31 := HX_trans s28 u31
          refine r_aldn (pc1 := 73) rfl rfl rfl ?_
          refine r_gfC (pc1 := 76) (q := 75) rfl rfl rfl t31 (lyk t31 rfl) rfl rfl (lyR t31 rfl rfl) ?_
          refine r_n (pc1 := 77) [.int (J x4), rv 75] _ rfl rfl ?_
          refine r_n (pc1 := 78) [.int (J (-1)), .int (J x4), rv 75] _ rfl rfl ?_
          refine r_iast (pc1 := 79) rfl rfl t31 (lyk t31 rfl) rx4 c27.1 (lt_len (lyn t31 rfl) c27.2) (fun h32 eh32 t32 u32 => ?_)
          have w := w h32 eh32 t32 u32
          have s32 := HX_trans s31 u32
          refine r_aldn (pc1 := 80) rfl rfl rfl ?_
          refine r_gfC (pc1 := 83) (q := 76) rfl rfl rfl t32 (lyk t32 rfl) rfl rfl (lyR t32 rfl rfl) ?_
          refine r_n (pc1 := 84) [.int (J x4), rv 76] _ rfl rfl ?_
          refine r_n (pc1 := 85) [.int (J (-1)), .int (J x4), rv 76] _ rfl rfl ?_
          refine r_iast (pc1 := 86) rfl rfl t32 (lyk t32 rfl) rx4 c27.1 (lt_len (lyn t32 rfl) c27.2) (fun h33 eh33 t33 u33 => ?_)
          have w := w h33 eh33 t33 u33
          have s33 := HX_trans s32 u33
          refine r_inc (pc1 := 89) (g := fun zz => [some (rv 70), some (.int (J zz))]) rfl rfl rfl rfl (fun _ => rfl) (fun x34 ex34 rx34 => ?_)
          have w := w x34 ex34 rx34
          refine r_goto (t := 24) rfl rfl ?_
          exact ih6  x34 h33 t33 s33 rx34 (Nat.lt_of_lt_of_le w.2 (Nat.le_of_lt_succ q6)) w.1
    exact Q6 _  0 h3 t3 s3 (rgk rfl) (Nat.lt_succ_self _) w
  refine r_ic (t := 18) (pc1 := 11) rfl rfl rfl (rgh _ _ _) (rgk rfl) (fun c36 => ?_) (fun c36 => ?_)
  · have w := w.1 c36
    refine r_n (pc1 := 19) [.int (J (-1)), rv 70] _ rfl rfl ?_
    exact Q2  (-1)  (rgk rfl) w
  · have w := w.2 c36
    refine r_aldn (pc1 := 12) rfl rfl rfl ?_
    refine r_gfI (pc1 := 15) rfl rfl rfl t0 (lyk t0 rfl) rfl rfl ?_
    refine r_goto (t := 19) rfl rfl ?_
    exact Q2  (hI h 70 2)  (rgh _ _ _) w
def w_X12_know (p0 : Int) (K : XH → Prop) (h : XH) : Prop :=
  (w_X12_knowMet (fun h1 => HT h1 → HX h h1 → (∃ J3 : XH → Prop, (∀ (h2 : XH), HT h2 → HX h h2 → J3 h2 → (∃ J5 : XH → Prop, (∀ (h4 : XH), HT h4 → HX h h4 → J5 h4 → (∃ J7 : XH → Prop, (∀ (h6 : XH), HT h6 → HX h h6 → J7 h6 → (K h6)) ∧ ((4 ≤ hI h4 2 11 → J7 h4) ∧ (¬ (4 ≤ hI h4 2 11) → (((p0 < 4 → J7 h4) ∧ (¬ (p0 < 4) → (w_X4_join (fun h8 => HT h8 → HX h4 h8 → (∀ h9 : XH, h9 = sI h8 2 11 4 → HT h9 → HX h8 h9 → J7 h9)) h4)))))))) ∧ ((3 ≤ hI h2 2 11 → J5 h2) ∧ (¬ (3 ≤ hI h2 2 11) → (((p0 < 3 → J5 h2) ∧ (¬ (p0 < 3) → (w_X4_findCore (fun h12 => HT h12 → HX h2 h12 → (∀ h13 : XH, h13 = sI h12 2 11 3 → HT h13 → HX h12 h13 → J5 h13)) h2)))))))) ∧ ((2 ≤ hI h1 2 11 → J3 h1) ∧ (¬ (2 ≤ hI h1 2 11) → (((p0 < 2 → J3 h1) ∧ (¬ (p0 < 2) → (w_X1_tell (fun h16 => HT h16 → HX h1 h16 → (∀ h17 : XH, h17 = sI h16 2 11 2 → HT h17 → HX h16 h17 → J3 h17)) h1)))))))) h)
set_option maxHeartbeats 4000000 in
theorem a_X12_know {sc : Nat × (Nat → Int32)} {goal : XO → XH → Prop} {fs : List XF} {h : XH} (p0 : Int) {K : XH → Prop} (hd : fs.length + 7 ≤ 1000) (rp0 : rg p0) (w : w_X12_know p0 K h) (t0 : HT h) (k : ∀ (h1 : XH), HT h1 → HX h h1 → K h1 → XFin xP sc goal fs (.inl none) h1) : RR sc goal fs 120 0 [some (rv 2), some (.int (J p0))] [] h := by
  unfold w_X12_know at w
  refine r_aldn (pc1 := 1) rfl rfl rfl ?_
  refine r_iv rfl rfl rfl rfl rfl rfl t0 (lyk t0 rfl) rfl (xe_of (xa_r xa_0) rfl rfl) (r_d0 hd rfl) (a_X12_knowMet  (r_d1 hd rfl)  w t0 (fun h1 t1 u1 w => ?_))
  refine r_fV (pc1 := 4) rfl ?_
  have s1 := HX_trans (HX_refl h) u1
  have w := w t1 u1
  refine r_aldn (pc1 := 5) rfl rfl rfl ?_
  refine r_gfI (pc1 := 8) rfl rfl rfl t1 (lyk t1 rfl) rfl rfl ?_
  refine r_n (pc1 := 9) [.int (J 2), .int (J (hI h1 2 11))] _ rfl rfl ?_
  obtain ⟨J3, j3, w⟩ := w
  have Q3 : ∀ (h2 : XH), HT h2 → HX h h2 → J3 h2 → RR sc goal fs 120 29 [some (rv 2), some (.int (J p0))] [] h2 := by
    intro h2 t2 s2 z3
    have w := j3 h2 t2 s2 z3
    refine r_aldn (pc1 := 30) rfl rfl rfl ?_
    refine r_gfI (pc1 := 33) rfl rfl rfl t2 (lyk t2 rfl) rfl rfl ?_
    refine r_n (pc1 := 34) [.int (J 3), .int (J (hI h2 2 11))] _ rfl rfl ?_
    obtain ⟨J5, j5, w⟩ := w
    have Q5 : ∀ (h4 : XH), HT h4 → HX h h4 → J5 h4 → RR sc goal fs 120 54 [some (rv 2), some (.int (J p0))] [] h4 := by
      intro h4 t4 s4 z5
      have w := j5 h4 t4 s4 z5
      refine r_aldn (pc1 := 55) rfl rfl rfl ?_
      refine r_gfI (pc1 := 58) rfl rfl rfl t4 (lyk t4 rfl) rfl rfl ?_
      refine r_n (pc1 := 59) [.int (J 4), .int (J (hI h4 2 11))] _ rfl rfl ?_
      obtain ⟨J7, j7, w⟩ := w
      have Q7 : ∀ (h6 : XH), HT h6 → HX h h6 → J7 h6 → RR sc goal fs 120 79 [some (rv 2), some (.int (J p0))] [] h6 := by
        intro h6 t6 s6 z7
        have w := j7 h6 t6 s6 z7
        exact r_retV rfl rfl rfl (k _ t6 s6 w)
      refine r_ic (t := 79) (pc1 := 62) rfl rfl rfl (rgh _ _ _) (rgk rfl) (fun c11 => ?_) (fun c11 => ?_)
      · have w := w.1 c11
        exact Q7   h4 t4 s4  w
      · have w := w.2 c11
        refine r_n (pc1 := 63) [.int (J p0)] _ rfl rfl ?_
        refine r_n (pc1 := 64) [.int (J 4), .int (J p0)] _ rfl rfl ?_
        refine r_ic (t := 79) (pc1 := 67) rfl rfl rfl rp0 (rgk rfl) (fun c10 => ?_) (fun c10 => ?_)
        · have w := w.1 c10
          exact Q7   h4 t4 s4  w
        · have w := w.2 c10
          refine r_aldn (pc1 := 68) rfl rfl rfl ?_
          refine r_gfC (pc1 := 71) (q := 70) rfl rfl rfl t4 (lyk t4 rfl) rfl rfl (lyR t4 rfl rfl) ?_
          refine r_iv rfl rfl rfl rfl rfl rfl t4 (lyk t4 rfl) rfl (xe_of (xa_r xa_0) rfl rfl) (r_d0 hd rfl) (a_X4_join  (r_d1 hd rfl)  w t4 (fun h8 t8 u8 w => ?_))
          refine r_fV (pc1 := 74) rfl ?_
          have s8 := HX_trans s4 u8
          have w := w t8 u8
          refine r_aldn (pc1 := 75) rfl rfl rfl ?_
          refine r_n (pc1 := 76) [.int (J 4), rv 2] _ rfl rfl ?_
          refine r_pfI (pc1 := 79) rfl rfl rfl t8 (lyk t8 rfl) rfl rfl rfl (fun h9 eh9 t9 u9 => ?_)
          have w := w h9 eh9 t9 u9
          have s9 := HX_trans s8 u9
          exact Q7   h9 t9 s9  w
    refine r_ic (t := 54) (pc1 := 37) rfl rfl rfl (rgh _ _ _) (rgk rfl) (fun c15 => ?_) (fun c15 => ?_)
    · have w := w.1 c15
      exact Q5   h2 t2 s2  w
    · have w := w.2 c15
      refine r_n (pc1 := 38) [.int (J p0)] _ rfl rfl ?_
      refine r_n (pc1 := 39) [.int (J 3), .int (J p0)] _ rfl rfl ?_
      refine r_ic (t := 54) (pc1 := 42) rfl rfl rfl rp0 (rgk rfl) (fun c14 => ?_) (fun c14 => ?_)
      · have w := w.1 c14
        exact Q5   h2 t2 s2  w
      · have w := w.2 c14
        refine r_aldn (pc1 := 43) rfl rfl rfl ?_
        refine r_gfC (pc1 := 46) (q := 70) rfl rfl rfl t2 (lyk t2 rfl) rfl rfl (lyR t2 rfl rfl) ?_
        refine r_iv rfl rfl rfl rfl rfl rfl t2 (lyk t2 rfl) rfl (xe_of (xa_r xa_0) rfl rfl) (r_d0 hd rfl) (a_X4_findCore  (r_d1 hd rfl)  w t2 (fun h12 t12 u12 w => ?_))
        refine r_fV (pc1 := 49) rfl ?_
        have s12 := HX_trans s2 u12
        have w := w t12 u12
        refine r_aldn (pc1 := 50) rfl rfl rfl ?_
        refine r_n (pc1 := 51) [.int (J 3), rv 2] _ rfl rfl ?_
        refine r_pfI (pc1 := 54) rfl rfl rfl t12 (lyk t12 rfl) rfl rfl rfl (fun h13 eh13 t13 u13 => ?_)
        have w := w h13 eh13 t13 u13
        have s13 := HX_trans s12 u13
        exact Q5   h13 t13 s13  w
  refine r_ic (t := 29) (pc1 := 12) rfl rfl rfl (rgh _ _ _) (rgk rfl) (fun c19 => ?_) (fun c19 => ?_)
  · have w := w.1 c19
    exact Q3   h1 t1 s1  w
  · have w := w.2 c19
    refine r_n (pc1 := 13) [.int (J p0)] _ rfl rfl ?_
    refine r_n (pc1 := 14) [.int (J 2), .int (J p0)] _ rfl rfl ?_
    refine r_ic (t := 29) (pc1 := 17) rfl rfl rfl rp0 (rgk rfl) (fun c18 => ?_) (fun c18 => ?_)
    · have w := w.1 c18
      exact Q3   h1 t1 s1  w
    · have w := w.2 c18
      refine r_aldn (pc1 := 18) rfl rfl rfl ?_
      refine r_gfC (pc1 := 21) (q := 51) rfl rfl rfl t1 (lyk t1 rfl) rfl rfl (lyR t1 rfl rfl) ?_
      refine r_iv rfl rfl rfl rfl rfl rfl t1 (lyk t1 rfl) rfl (xe_of (xa_r xa_0) rfl rfl) (r_d0 hd rfl) (a_X1_tell  (r_d1 hd rfl)  w t1 (fun h16 t16 u16 w => ?_))
      refine r_fV (pc1 := 24) rfl ?_
      have s16 := HX_trans s1 u16
      have w := w t16 u16
      refine r_aldn (pc1 := 25) rfl rfl rfl ?_
      refine r_n (pc1 := 26) [.int (J 2), rv 2] _ rfl rfl ?_
      refine r_pfI (pc1 := 29) rfl rfl rfl t16 (lyk t16 rfl) rfl rfl rfl (fun h17 eh17 t17 u17 => ?_)
      have w := w h17 eh17 t17 u17
      have s17 := HX_trans s16 u17
      exact Q3   h17 t17 s17  w
def w_X1_literalsOf (p0 : Int) (K : Int → Prop) (h : XH) : Prop :=
  ((0 ≤ p0 ∧ p0 < 3712) ∧ w_J13_bitCount_95d88 (hL h 52 p0.toNat) (fun x2 => rg x2 → (w_J13_bitCount_95d88 (hL h 53 p0.toNat) (fun x3 => rg x3 → (K (wr (x2 + x3)))) h)) h)
set_option maxHeartbeats 4000000 in
theorem a_X1_literalsOf {sc : Nat × (Nat → Int32)} {goal : XO → XH → Prop} {fs : List XF} {h : XH} (p0 : Int) {K : Int → Prop} (hd : fs.length + 1 ≤ 1000) (rp0 : rg p0) (w : w_X1_literalsOf p0 K h) (t0 : HT h) (k : ∀ (r : Int), rg r → K r → XFin xP sc goal fs (.inl (some (.int (J r)))) h) : RR sc goal fs 330 0 [some (rv 51), some (.int (J p0))] [] h := by
  unfold w_X1_literalsOf at w
  refine r_aldn (pc1 := 1) rfl rfl rfl ?_
  refine r_gfC (pc1 := 4) (q := 52) rfl rfl rfl t0 (lyk t0 rfl) rfl rfl (lyR t0 rfl rfl) ?_
  refine r_n (pc1 := 5) [.int (J p0), rv 52] _ rfl rfl ?_
  obtain ⟨c1, w⟩ := w
  refine r_lal (pc1 := 6) rfl rfl t0 (lyk t0 rfl) rp0 c1.1 (lt_len (lyn t0 rfl) c1.2) ?_
  refine r_iq rfl rfl rfl rfl rfl rfl (xe_of (xa_l xa_0) rfl rfl) (r_d0 hd rfl) (a_J13_bitCount_95d88 (hL h 52 p0.toNat) (r_d1 hd rfl)  w t0 (fun x2 rx2 w => ?_))
  refine r_fI (pc1 := 9) rfl ?_
  have w := w rx2
  refine r_aldn (pc1 := 10) rfl rfl rfl ?_
  refine r_gfC (pc1 := 13) (q := 53) rfl rfl rfl t0 (lyk t0 rfl) rfl rfl (lyR t0 rfl rfl) ?_
  refine r_n (pc1 := 14) [.int (J p0), rv 53, .int (J x2)] _ rfl rfl ?_
  refine r_lal (pc1 := 15) rfl rfl t0 (lyk t0 rfl) rp0 c1.1 (lt_len (lyn t0 rfl) c1.2) ?_
  refine r_iq rfl rfl rfl rfl rfl rfl (xe_of (xa_l xa_0) rfl rfl) (r_d0 hd rfl) (a_J13_bitCount_95d88 (hL h 53 p0.toNat) (r_d1 hd rfl)  w t0 (fun x3 rx3 w => ?_))
  refine r_fI (pc1 := 18) rfl ?_
  have w := w rx3
  refine r_iadd (pc1 := 19) rfl rfl ?_
  exact r_retI rfl rfl rfl (k _ (rgw _) w)
def w_X12_coreAt (p0 : Int) (p1 : Int) (K : Int → XH → Prop) (E : Nat → XH → Prop) (h : XH) : Prop :=
  (w_X12_know 3 (fun h1 => HT h1 → HX h h1 → (∃ J2 : Prop, (J2 → (E 2 (nT h1))) ∧ ((p0 < 0 → J2) ∧ (¬ (p0 < 0) → (((p0 < hI h1 70 2 → ((0 ≤ p0 ∧ p0 < 3712) ∧ ∀ x4 : Int, x4 = hI h1 71 p0.toNat → rg x4 → ((p1 < 0 ∨ 4 < p1 → (E 1 (nT h1))) ∧ (p1 = 0 → (K x4 h1)) ∧ (p1 = 1 → ((0 ≤ x4 ∧ x4 < 3712) ∧ K (hI h1 54 x4.toNat) h1)) ∧ (p1 = 2 → ((0 ≤ x4 ∧ x4 < 3712) ∧ K (hI h1 55 x4.toNat) h1)) ∧ (p1 = 3 → ((0 ≤ x4 ∧ x4 < 3712) ∧ K (hI h1 56 x4.toNat) h1)) ∧ (p1 = 4 → (w_X1_literalsOf x4 (fun x9 => rg x9 → (K x9 h1)) h1))))) ∧ (¬ (p0 < hI h1 70 2) → J2))))))) h)
set_option maxHeartbeats 4000000 in
theorem a_X12_coreAt {sc : Nat × (Nat → Int32)} {goal : XO → XH → Prop} {fs : List XF} {h : XH} (p0 : Int) (p1 : Int) {K : Int → XH → Prop} {E : Nat → XH → Prop} (hd : fs.length + 8 ≤ 1000) (rp0 : rg p0) (rp1 : rg p1) (w : w_X12_coreAt p0 p1 K E h) (t0 : HT h) (k : ∀ (r : Int) (h1 : XH), HT h1 → HX h h1 → rg r → K r h1 → XFin xP sc goal fs (.inl (some (.int (J r)))) h1) (kE : ∀ (x : Nat) (h1 : XH), HT h1 → HX h h1 → E x h1 → XFin xP sc goal fs (.inr x) h1) : RR sc goal fs 100 0 [some (rv 2), some (.int (J p0)), some (.int (J p1)), none] [] h := by
  unfold w_X12_coreAt at w
  refine r_aldn (pc1 := 1) rfl rfl rfl ?_
  refine r_n (pc1 := 2) [.int (J 3), rv 2] _ rfl rfl ?_
  refine r_iv rfl rfl rfl rfl rfl rfl t0 (lyk t0 rfl) rfl (xe_of (xa_r (xa_i xa_0)) rfl rfl) (r_d0 hd rfl) (a_X12_know 3 (r_d1 hd rfl) (rgk rfl) w t0 (fun h1 t1 u1 w => ?_))
  refine r_fV (pc1 := 5) rfl ?_
  have s1 := HX_trans (HX_refl h) u1
  have w := w t1 u1
  refine r_n (pc1 := 6) [.int (J p0)] _ rfl rfl ?_
  obtain ⟨J2, j2, w⟩ := w
  have Q2 : J2 → RR sc goal fs 100 20 [some (rv 2), some (.int (J p0)), some (.int (J p1)), none] [] h1 := by
    intro z2
    have w := j2 z2
    exact r_thr rfl rfl rfl rfl rfl rfl (kE _ _ (HT_nT t1).1 (HX_trans s1 (HT_nT t1).2) w)
  refine r_iz (t := 20) (pc1 := 9) rfl rfl rfl rp0 (fun c11 => ?_) (fun c11 => ?_)
  · have w := w.1 c11
    exact Q2     w
  · have w := w.2 c11
    refine r_n (pc1 := 10) [.int (J p0)] _ rfl rfl ?_
    refine r_aldn (pc1 := 11) rfl rfl rfl ?_
    refine r_gfC (pc1 := 14) (q := 70) rfl rfl rfl t1 (lyk t1 rfl) rfl rfl (lyR t1 rfl rfl) ?_
    refine r_gfI (pc1 := 17) rfl rfl rfl t1 (lyk t1 rfl) rfl rfl ?_
    refine r_ic (t := 31) (pc1 := 20) rfl rfl rfl rp0 (rgh _ _ _) (fun c10 => ?_) (fun c10 => ?_)
    · have w := w.1 c10
      refine r_aldn (pc1 := 32) rfl rfl rfl ?_
      refine r_gfC (pc1 := 35) (q := 70) rfl rfl rfl t1 (lyk t1 rfl) rfl rfl (lyR t1 rfl rfl) ?_
      refine r_gfC (pc1 := 38) (q := 71) rfl rfl rfl t1 (lyk t1 rfl) rfl rfl (lyR t1 rfl rfl) ?_
      refine r_n (pc1 := 39) [.int (J p0), rv 71] _ rfl rfl ?_
      obtain ⟨c3, w⟩ := w
      refine r_ial (pc1 := 40) rfl rfl t1 (lyk t1 rfl) rp0 c3.1 (lt_len (lyn t1 rfl) c3.2) ?_
      refine r_vI (rgh _ _ _) (fun x4 ex4 rx4 => ?_)
      have w := w x4 ex4 rx4
      refine r_istn (pc1 := 41) (ls1 := [some (rv 2), some (.int (J p0)), some (.int (J p1)), some (.int (J x4))]) rfl rfl rfl rfl ?_
      refine r_n (pc1 := 42) [.int (J p1)] _ rfl rfl ?_
      refine r_tsw (t0 := 117) rfl rp1 rfl rfl (fun c5 => ?_) ?_
      · have w := w.1 c5
        exact r_thr rfl rfl rfl rfl rfl rfl (kE _ _ (HT_nT t1).1 (HX_trans s1 (HT_nT t1).2) w)
      have w := w.2
      refine ⟨fun c5 => ⟨76, rfl, ?_⟩, ⟨fun c5 => ⟨78, rfl, ?_⟩, ⟨fun c5 => ⟨88, rfl, ?_⟩, ⟨fun c5 => ⟨98, rfl, ?_⟩, ⟨fun c5 => ⟨108, rfl, ?_⟩, trivial⟩⟩⟩⟩⟩
      · have w := w.1 c5
        refine r_n (pc1 := 77) [.int (J x4)] _ rfl rfl ?_
        exact r_retI rfl rfl rfl (k _ _ t1 s1 rx4 w)
      · have w := w.2.1 c5
        refine r_aldn (pc1 := 79) rfl rfl rfl ?_
        refine r_gfC (pc1 := 82) (q := 51) rfl rfl rfl t1 (lyk t1 rfl) rfl rfl (lyR t1 rfl rfl) ?_
        refine r_gfC (pc1 := 85) (q := 54) rfl rfl rfl t1 (lyk t1 rfl) rfl rfl (lyR t1 rfl rfl) ?_
        refine r_n (pc1 := 86) [.int (J x4), rv 54] _ rfl rfl ?_
        obtain ⟨c6, w⟩ := w
        refine r_ial (pc1 := 87) rfl rfl t1 (lyk t1 rfl) rx4 c6.1 (lt_len (lyn t1 rfl) c6.2) ?_
        exact r_retI rfl rfl rfl (k _ _ t1 s1 (rgh _ _ _) w)
      · have w := w.2.2.1 c5
        refine r_aldn (pc1 := 89) rfl rfl rfl ?_
        refine r_gfC (pc1 := 92) (q := 51) rfl rfl rfl t1 (lyk t1 rfl) rfl rfl (lyR t1 rfl rfl) ?_
        refine r_gfC (pc1 := 95) (q := 55) rfl rfl rfl t1 (lyk t1 rfl) rfl rfl (lyR t1 rfl rfl) ?_
        refine r_n (pc1 := 96) [.int (J x4), rv 55] _ rfl rfl ?_
        obtain ⟨c7, w⟩ := w
        refine r_ial (pc1 := 97) rfl rfl t1 (lyk t1 rfl) rx4 c7.1 (lt_len (lyn t1 rfl) c7.2) ?_
        exact r_retI rfl rfl rfl (k _ _ t1 s1 (rgh _ _ _) w)
      · have w := w.2.2.2.1 c5
        refine r_aldn (pc1 := 99) rfl rfl rfl ?_
        refine r_gfC (pc1 := 102) (q := 51) rfl rfl rfl t1 (lyk t1 rfl) rfl rfl (lyR t1 rfl rfl) ?_
        refine r_gfC (pc1 := 105) (q := 56) rfl rfl rfl t1 (lyk t1 rfl) rfl rfl (lyR t1 rfl rfl) ?_
        refine r_n (pc1 := 106) [.int (J x4), rv 56] _ rfl rfl ?_
        obtain ⟨c8, w⟩ := w
        refine r_ial (pc1 := 107) rfl rfl t1 (lyk t1 rfl) rx4 c8.1 (lt_len (lyn t1 rfl) c8.2) ?_
        exact r_retI rfl rfl rfl (k _ _ t1 s1 (rgh _ _ _) w)
      · have w := w.2.2.2.2 c5
        refine r_aldn (pc1 := 109) rfl rfl rfl ?_
        refine r_gfC (pc1 := 112) (q := 51) rfl rfl rfl t1 (lyk t1 rfl) rfl rfl (lyR t1 rfl rfl) ?_
        refine r_n (pc1 := 113) [.int (J x4), rv 51] _ rfl rfl ?_
        refine r_iv rfl rfl rfl rfl rfl rfl t1 (lyk t1 rfl) rfl (xe_of (xa_r (xa_i xa_0)) rfl rfl) (r_d0 hd rfl) (a_X1_literalsOf x4 (r_d1 hd rfl) rx4 w t1 (fun x9 rx9 w => ?_))
        refine r_fI (pc1 := 116) rfl ?_
        have w := w rx9
        exact r_retI rfl rfl rfl (k _ _ t1 s1 rx9 w)
    · have w := w.2 c10
      exact Q2     w
def w_L_coreAt (p1 : Int) (p2 : Int) (K : Int → XH → Prop) (h : XH) : Prop :=
  (w_X12_coreAt p1 p2 (fun x1 h2 => HT h2 → HX h h2 → rg x1 → (∀ h5 : XH, h5 = sL h2 467 0 (i2l x1) → HT h5 → HX h2 h5 → (K 0 h5))) (fun y4 h3 => ((y4 = 2 ∧ K 1 h3) ∨ (y4 = 1 ∧ K 2 h3))) h)
set_option maxHeartbeats 4000000 in
theorem a_L_coreAt {sc : Nat × (Nat → Int32)} {goal : XO → XH → Prop} {fs : List XF} {h : XH} (p1 : Int) (p2 : Int) {K : Int → XH → Prop} (hd : fs.length + 9 ≤ 1000) (rp1 : rg p1) (rp2 : rg p2) (w : w_L_coreAt p1 p2 K h) (t0 : HT h) (k : ∀ (r : Int) (h1 : XH), HT h1 → HX h h1 → rg r → K r h1 → XFin xP sc goal fs (.inl (some (.int (J r)))) h1) : RR sc goal fs 31 0 [some (rv 2), some (.int (J p1)), some (.int (J p2)), some (rv 467), none] [] h := by
  unfold w_L_coreAt at w
  refine r_aldn (pc1 := 1) rfl rfl rfl ?_
  refine r_n (pc1 := 2) [.int (J 0), rv 467] _ rfl rfl ?_
  refine r_aldn (pc1 := 3) rfl rfl rfl ?_
  refine r_n (pc1 := 4) [.int (J p1), rv 2, .int (J 0), rv 467] _ rfl rfl ?_
  refine r_n (pc1 := 5) [.int (J p2), .int (J p1), rv 2, .int (J 0), rv 467] _ rfl rfl ?_
  refine r_iv rfl rfl rfl rfl rfl rfl t0 (lyk t0 rfl) rfl (xe_of (xa_r (xa_i (xa_i xa_0))) rfl rfl) (r_d0 hd rfl) (a_X12_coreAt p1 p2 (r_d1 hd rfl) rp1 rp2 w t0 (fun x1 h2 t2 u2 rx1 w => ?_) (fun y4 h3 ty uy w => ?_))
  · refine r_fI (pc1 := 8) rfl ?_
    have s2 := HX_trans (HX_refl h) u2
    have w := w t2 u2
    have w := w rx1
    refine r_i2l (pc1 := 9) rfl rfl ?_
    refine r_last (pc1 := 10) rfl rfl t2 (lyk t2 rfl) (rgk rfl) (by decide) (lt_len (lyn t2 rfl) (by decide)) (fun h5 eh5 t5 u5 => ?_)
    have w := w h5 eh5 t5 u5
    have s5 := HX_trans s2 u5
    refine r_goto (t := 21) rfl rfl ?_
    refine r_n (pc1 := 22) [.int (J 0)] _ rfl rfl ?_
    exact r_retI rfl rfl rfl (k _ _ t5 s5 (rgk rfl) w)
  · rcases w with ⟨rfl, w⟩ | w
    · exact r_fink (z := 1) rfl (by decide) rfl rfl (k _ _ ty (HX_trans (HX_refl h) uy) (rgk rfl) w)
    obtain ⟨rfl, w⟩ := w
    exact r_fink (z := 2) rfl (by decide) rfl rfl (k _ _ ty (HX_trans (HX_refl h) uy) (rgk rfl) w)
def w_X6_wishesLeft (t : Nat) (K : Int → Prop) (h : XH) : Prop :=
  ((∃ (I3 : Int → Int → Prop) (m3 : Int → Int → Nat), I3 0 0 ∧ ∀ (x1 : Int) (x2 : Int), rg x1 → rg x2 → I3 x1 x2 → (((hI h t 0 ≤ x2 → (K x1)) ∧ (¬ (hI h t 0 ≤ x2) → ((0 ≤ x2 ∧ x2 < 8) ∧ ∃ J6 : Int → Prop, (∀ (x5 : Int), rg x5 → J6 x5 → (∀ x7 : Int, x7 = wr (x1 + x5) → rg x7 → ∀ x8 : Int, x8 = wr (x2 + 1) → rg x8 → (I3 x7 x8 ∧ m3 x7 x8 < m3 x1 x2))) ∧ ((hR h (t + 1) x2.toNat = 0 → (J6 0)) ∧ (¬ (hR h (t + 1) x2.toNat = 0) → (J6 1)))))))))
set_option maxHeartbeats 4000000 in
theorem a_X6_wishesLeft {sc : Nat × (Nat → Int32)} {goal : XO → XH → Prop} {fs : List XF} {h : XH} (t : Nat) {K : Int → Prop} (hd : fs.length + 0 ≤ 1000) (c0 : hk h t = 7) (w : w_X6_wishesLeft t K h) (t0 : HT h) (k : ∀ (r : Int), rg r → K r → XFin xP sc goal fs (.inl (some (.int (J r)))) h) : RR sc goal fs 421 0 [some (rv t), none, none] [] h := by
  unfold w_X6_wishesLeft at w
  refine r_n (pc1 := 1) [.int (J 0)] _ rfl rfl ?_
  refine r_istn (pc1 := 2) (ls1 := [some (rv t), some (.int (J 0)), none]) rfl rfl rfl (xput1_rv rfl rfl) ?_
  refine r_n (pc1 := 3) [.int (J 0)] _ rfl rfl ?_
  refine r_istn (pc1 := 4) (ls1 := [some (rv t), some (.int (J 0)), some (.int (J 0))]) rfl rfl rfl rfl ?_
  obtain ⟨I3, m3, w, y3⟩ := w
  have Q3 : ∀ (n : Nat)  (x1 : Int) (x2 : Int), rg x1 → rg x2 → m3 x1 x2 < n → I3 x1 x2 → RR sc goal fs 421 4 [some (rv t), some (.int (J x1)), some (.int (J x2))] [] h := by
    intro n
    induction n with
    | zero => intro x1 x2 rx1 rx2 q3 _; exact absurd q3 (Nat.not_lt_zero _)
    | succ n ih3 =>
      intro x1 x2 rx1 rx2 q3 z3
      have w := y3 x1 x2 rx1 rx2 z3
      refine r_n (pc1 := 5) [.int (J x2)] _ rfl rfl ?_
      refine r_aldn (pc1 := 6) rfl rfl rfl ?_
      refine r_gfI (pc1 := 9) rfl rfl rfl t0 (HXk (HX_refl h) c0 rfl) rfl rfl ?_
      refine r_ic (t := 35) (pc1 := 12) rfl rfl rfl rx2 (rgh _ _ _) (fun c10 => ?_) (fun c10 => ?_)
      · have w := w.1 c10
        refine r_n (pc1 := 36) [.int (J x1)] _ rfl rfl ?_
        exact r_retI rfl rfl rfl (k _ rx1 w)
      · have w := w.2 c10
        refine r_n (pc1 := 13) [.int (J x1)] _ rfl rfl ?_
        refine r_aldn (pc1 := 14) rfl rfl rfl ?_
        refine r_gfC (pc1 := 17) (q := (t + 1)) rfl rfl rfl t0 (HXk (HX_refl h) c0 rfl) rfl rfl (lyr_7_1 t0 (HXk (HX_refl h) c0 rfl)) ?_
        refine r_n (pc1 := 18) [.int (J x2), rv (t + 1), .int (J x1)] _ rfl rfl ?_
        obtain ⟨c4, w⟩ := w
        refine r_aal (pc1 := 19) (u := 3) rfl rfl t0 (lyo_7_1 t0 (HXk (HX_refl h) c0 rfl)).1 rfl rfl rx2 c4.1 (lt_len (lyo_7_1 t0 (HXk (HX_refl h) c0 rfl)).2 c4.2) ?_
        obtain ⟨J6, j6, w⟩ := w
        have Q6 : ∀ (x5 : Int), rg x5 → J6 x5 → RR sc goal fs 421 27 [some (rv t), some (.int (J x1)), some (.int (J x2))] [.int (J x5), .int (J x1)] h := by
          intro x5 rx5 z6
          have w := j6 x5 rx5 z6
          refine r_iadd (pc1 := 28) rfl rfl ?_
          refine r_vI (rgw _) (fun x7 ex7 rx7 => ?_)
          have w := w x7 ex7 rx7
          refine r_istn (pc1 := 29) (ls1 := [some (rv t), some (.int (J x7)), some (.int (J x2))]) rfl rfl rfl (xput1_rv rfl rfl) ?_
          refine r_inc (pc1 := 32) (g := fun zz => [some (rv t), some (.int (J x7)), some (.int (J zz))]) rfl rfl rfl rfl (fun _ => rfl) (fun x8 ex8 rx8 => ?_)
          have w := w x8 ex8 rx8
          refine r_goto (t := 4) rfl rfl ?_
          exact ih3  x7 x8  rx7 rx8 (Nat.lt_of_lt_of_le w.2 (Nat.le_of_lt_succ q3)) w.1
        refine r_null (t := 26) (pc1 := 22) rfl rfl rfl (fun c9 => ?_) (fun c9 => ?_)
        · have w := w.1 c9
          refine r_n (pc1 := 27) [.int (J 0), .int (J x1)] _ rfl rfl ?_
          exact Q6  0  (rgk rfl) w
        · have w := w.2 c9
          refine r_n (pc1 := 23) [.int (J 1), .int (J x1)] _ rfl rfl ?_
          refine r_goto (t := 27) rfl rfl ?_
          exact Q6  1  (rgk rfl) w
  exact Q3 _  0 0  (rgk rfl) (rgk rfl) (Nat.lt_succ_self _) w
def w_X12_count (p0 : Int) (K : Int → XH → Prop) (E : Nat → XH → Prop) (h : XH) : Prop :=
  (((p0 < 0 ∨ 7 < p0 → (E 1 (nT h))) ∧ (p0 = 0 → (K (hI h 9 0) h)) ∧ (p0 = 1 → (K (hI h 9 1) h)) ∧ (p0 = 2 → (K (hI h 8 6) h)) ∧ (p0 = 3 → (w_X11_atHand (fun a2 => (hk h a2 = 7 ∧ w_X6_wishesLeft a2 (fun x4 => rg x4 → (K x4 h)) h)) h)) ∧ (p0 = 4 → (w_X12_know 2 (fun h5 => HT h5 → HX h h5 → (K (hI h5 51 3) h5)) h)) ∧ (p0 = 5 → (w_X11_atHand (fun a6 => (hk h a6 = 7 ∧ K (hI h a6 7) h)) h)) ∧ (p0 = 6 → (K (hI h 8 7) h)) ∧ (p0 = 7 → (K (hI h 2 10) h))))
set_option maxHeartbeats 4000000 in
theorem a_X12_count {sc : Nat × (Nat → Int32)} {goal : XO → XH → Prop} {fs : List XF} {h : XH} (p0 : Int) {K : Int → XH → Prop} {E : Nat → XH → Prop} (hd : fs.length + 8 ≤ 1000) (rp0 : rg p0) (w : w_X12_count p0 K E h) (t0 : HT h) (k : ∀ (r : Int) (h1 : XH), HT h1 → HX h h1 → rg r → K r h1 → XFin xP sc goal fs (.inl (some (.int (J r)))) h1) (kE : ∀ (x : Nat) (h1 : XH), HT h1 → HX h h1 → E x h1 → XFin xP sc goal fs (.inr x) h1) : RR sc goal fs 101 0 [some (rv 2), some (.int (J p0))] [] h := by
  unfold w_X12_count at w
  refine r_n (pc1 := 1) [.int (J p0)] _ rfl rfl ?_
  refine r_tsw (t0 := 126) rfl rp0 rfl rfl (fun c1 => ?_) ?_
  · have w := w.1 c1
    exact r_thr rfl rfl rfl rfl rfl rfl (kE _ _ (HT_nT t0).1 (HX_trans (HX_refl h) (HT_nT t0).2) w)
  have w := w.2
  refine ⟨fun c1 => ⟨48, rfl, ?_⟩, ⟨fun c1 => ⟨59, rfl, ?_⟩, ⟨fun c1 => ⟨70, rfl, ?_⟩, ⟨fun c1 => ⟨78, rfl, ?_⟩, ⟨fun c1 => ⟨89, rfl, ?_⟩, ⟨fun c1 => ⟨102, rfl, ?_⟩, ⟨fun c1 => ⟨113, rfl, ?_⟩, ⟨fun c1 => ⟨121, rfl, ?_⟩, trivial⟩⟩⟩⟩⟩⟩⟩⟩
  · have w := w.1 c1
    refine r_aldn (pc1 := 49) rfl rfl rfl ?_
    refine r_gfC (pc1 := 52) (q := 8) rfl rfl rfl t0 (lyk t0 rfl) rfl rfl (lyR t0 rfl rfl) ?_
    refine r_gfC (pc1 := 55) (q := 9) rfl rfl rfl t0 (lyk t0 rfl) rfl rfl (lyR t0 rfl rfl) ?_
    refine r_gfI (pc1 := 58) rfl rfl rfl t0 (lyk t0 rfl) rfl rfl ?_
    exact r_retI rfl rfl rfl (k _ _ t0 (HX_refl h) (rgh _ _ _) w)
  · have w := w.2.1 c1
    refine r_aldn (pc1 := 60) rfl rfl rfl ?_
    refine r_gfC (pc1 := 63) (q := 8) rfl rfl rfl t0 (lyk t0 rfl) rfl rfl (lyR t0 rfl rfl) ?_
    refine r_gfC (pc1 := 66) (q := 9) rfl rfl rfl t0 (lyk t0 rfl) rfl rfl (lyR t0 rfl rfl) ?_
    refine r_gfI (pc1 := 69) rfl rfl rfl t0 (lyk t0 rfl) rfl rfl ?_
    exact r_retI rfl rfl rfl (k _ _ t0 (HX_refl h) (rgh _ _ _) w)
  · have w := w.2.2.1 c1
    refine r_aldn (pc1 := 71) rfl rfl rfl ?_
    refine r_gfC (pc1 := 74) (q := 8) rfl rfl rfl t0 (lyk t0 rfl) rfl rfl (lyR t0 rfl rfl) ?_
    refine r_gfI (pc1 := 77) rfl rfl rfl t0 (lyk t0 rfl) rfl rfl ?_
    exact r_retI rfl rfl rfl (k _ _ t0 (HX_refl h) (rgh _ _ _) w)
  · have w := w.2.2.2.1 c1
    refine r_aldn (pc1 := 79) rfl rfl rfl ?_
    refine r_gfC (pc1 := 82) (q := 8) rfl rfl rfl t0 (lyk t0 rfl) rfl rfl (lyR t0 rfl rfl) ?_
    refine r_iv rfl rfl rfl rfl rfl rfl t0 (lyk t0 rfl) rfl (xe_of (xa_r xa_0) rfl rfl) (r_d0 hd rfl) (a_X11_atHand  (r_d1 hd rfl)  w t0 (fun a2 w => ?_))
    refine r_fR (pc1 := 85) rfl ?_
    obtain ⟨c3, w⟩ := w
    refine r_iv rfl rfl rfl rfl rfl rfl t0 c3 rfl (xe_of (xa_r xa_0) rfl rfl) (r_d0 hd rfl) (a_X6_wishesLeft a2 (r_d1 hd rfl) c3  w t0 (fun x4 rx4 w => ?_))
    refine r_fI (pc1 := 88) rfl ?_
    have w := w rx4
    exact r_retI rfl rfl rfl (k _ _ t0 (HX_refl h) rx4 w)
  · have w := w.2.2.2.2.1 c1
    refine r_aldn (pc1 := 90) rfl rfl rfl ?_
    refine r_n (pc1 := 91) [.int (J 2), rv 2] _ rfl rfl ?_
    refine r_iv rfl rfl rfl rfl rfl rfl t0 (lyk t0 rfl) rfl (xe_of (xa_r (xa_i xa_0)) rfl rfl) (r_d0 hd rfl) (a_X12_know 2 (r_d1 hd rfl) (rgk rfl) w t0 (fun h5 t5 u5 w => ?_))
    refine r_fV (pc1 := 94) rfl ?_
    have s5 := HX_trans (HX_refl h) u5
    have w := w t5 u5
    refine r_aldn (pc1 := 95) rfl rfl rfl ?_
    refine r_gfC (pc1 := 98) (q := 51) rfl rfl rfl t5 (lyk t5 rfl) rfl rfl (lyR t5 rfl rfl) ?_
    refine r_gfI (pc1 := 101) rfl rfl rfl t5 (lyk t5 rfl) rfl rfl ?_
    exact r_retI rfl rfl rfl (k _ _ t5 s5 (rgh _ _ _) w)
  · have w := w.2.2.2.2.2.1 c1
    refine r_aldn (pc1 := 103) rfl rfl rfl ?_
    refine r_gfC (pc1 := 106) (q := 8) rfl rfl rfl t0 (lyk t0 rfl) rfl rfl (lyR t0 rfl rfl) ?_
    refine r_iv rfl rfl rfl rfl rfl rfl t0 (lyk t0 rfl) rfl (xe_of (xa_r xa_0) rfl rfl) (r_d0 hd rfl) (a_X11_atHand  (r_d1 hd rfl)  w t0 (fun a6 w => ?_))
    refine r_fR (pc1 := 109) rfl ?_
    obtain ⟨c7, w⟩ := w
    refine r_gfI (pc1 := 112) rfl rfl rfl t0 c7 rfl rfl ?_
    exact r_retI rfl rfl rfl (k _ _ t0 (HX_refl h) (rgh _ _ _) w)
  · have w := w.2.2.2.2.2.2.1 c1
    refine r_aldn (pc1 := 114) rfl rfl rfl ?_
    refine r_gfC (pc1 := 117) (q := 8) rfl rfl rfl t0 (lyk t0 rfl) rfl rfl (lyR t0 rfl rfl) ?_
    refine r_gfI (pc1 := 120) rfl rfl rfl t0 (lyk t0 rfl) rfl rfl ?_
    exact r_retI rfl rfl rfl (k _ _ t0 (HX_refl h) (rgh _ _ _) w)
  · have w := w.2.2.2.2.2.2.2 c1
    refine r_aldn (pc1 := 122) rfl rfl rfl ?_
    refine r_gfI (pc1 := 125) rfl rfl rfl t0 (lyk t0 rfl) rfl rfl ?_
    exact r_retI rfl rfl rfl (k _ _ t0 (HX_refl h) (rgh _ _ _) w)
def w_L_count (p1 : Int) (K : Int → XH → Prop) (h : XH) : Prop :=
  (w_X12_count p1 (fun x1 h2 => HT h2 → HX h h2 → rg x1 → (∀ h5 : XH, h5 = sL h2 467 0 (i2l x1) → HT h5 → HX h2 h5 → (K 0 h5))) (fun y4 h3 => ((y4 = 1 ∧ K 1 h3))) h)
set_option maxHeartbeats 4000000 in
theorem a_L_count {sc : Nat × (Nat → Int32)} {goal : XO → XH → Prop} {fs : List XF} {h : XH} (p1 : Int) {K : Int → XH → Prop} (hd : fs.length + 9 ≤ 1000) (rp1 : rg p1) (w : w_L_count p1 K h) (t0 : HT h) (k : ∀ (r : Int) (h1 : XH), HT h1 → HX h h1 → rg r → K r h1 → XFin xP sc goal fs (.inl (some (.int (J r)))) h1) : RR sc goal fs 32 0 [some (rv 2), some (.int (J p1)), some (rv 467), none] [] h := by
  unfold w_L_count at w
  refine r_aldn (pc1 := 1) rfl rfl rfl ?_
  refine r_n (pc1 := 2) [.int (J 0), rv 467] _ rfl rfl ?_
  refine r_aldn (pc1 := 3) rfl rfl rfl ?_
  refine r_n (pc1 := 4) [.int (J p1), rv 2, .int (J 0), rv 467] _ rfl rfl ?_
  refine r_iv rfl rfl rfl rfl rfl rfl t0 (lyk t0 rfl) rfl (xe_of (xa_r (xa_i xa_0)) rfl rfl) (r_d0 hd rfl) (a_X12_count p1 (r_d1 hd rfl) rp1 w t0 (fun x1 h2 t2 u2 rx1 w => ?_) (fun y4 h3 ty uy w => ?_))
  · refine r_fI (pc1 := 7) rfl ?_
    have s2 := HX_trans (HX_refl h) u2
    have w := w t2 u2
    have w := w rx1
    refine r_i2l (pc1 := 8) rfl rfl ?_
    refine r_last (pc1 := 9) rfl rfl t2 (lyk t2 rfl) (rgk rfl) (by decide) (lt_len (lyn t2 rfl) (by decide)) (fun h5 eh5 t5 u5 => ?_)
    have w := w h5 eh5 t5 u5
    have s5 := HX_trans s2 u5
    refine r_goto (t := 15) rfl rfl ?_
    refine r_n (pc1 := 16) [.int (J 0)] _ rfl rfl ?_
    exact r_retI rfl rfl rfl (k _ _ t5 s5 (rgk rfl) w)
  · obtain ⟨rfl, w⟩ := w
    exact r_fink (z := 1) rfl (by decide) rfl rfl (k _ _ ty (HX_trans (HX_refl h) uy) (rgk rfl) w)
def w_X12_fails (p0 : Int) (p1 : Int) (p2 : Int) (K : Int → XH → Prop) (E : Nat → XH → Prop) (h : XH) : Prop :=
  (w_X12_checkedId p0 p1 (fun x1 => rg x1 → (w_X12_remember (fun h2 => HT h2 → HX h h2 → (w_X12_has (hL h2 9 10) x1 (fun x3 => rg x3 → (x3 = 0 ∨ x3 = 1) → (∀ b4 : BitVec 64, b4 = (hL h2 9 10) &&& ((lshl (1#64) x1) ^^^ (18446744073709551615#64)) → ∃ J6 : BitVec 64 → Prop, (∀ (b5 : BitVec 64), J6 b5 → (∀ h7 : XH, h7 = sL h2 9 10 b5 → HT h7 → HX h2 h7 → K x3 h7)) ∧ ((p2 = 0 → (J6 b4)) ∧ (¬ (p2 = 0) → (J6 (b4 ||| (lshl (1#64) x1))))))) h2)) h)) E h)
set_option maxHeartbeats 4000000 in
theorem a_X12_fails {sc : Nat × (Nat → Int32)} {goal : XO → XH → Prop} {fs : List XF} {h : XH} (p0 : Int) (p1 : Int) (p2 : Int) {K : Int → XH → Prop} {E : Nat → XH → Prop} (hd : fs.length + 4 ≤ 1000) (rp0 : rg p0) (rp1 : rg p1) (rp2 : rg p2) (w : w_X12_fails p0 p1 p2 K E h) (t0 : HT h) (k : ∀ (r : Int) (h1 : XH), HT h1 → HX h h1 → rg r → (r = 0 ∨ r = 1) → K r h1 → XFin xP sc goal fs (.inl (some (.int (J r)))) h1) (kE : ∀ (x : Nat) (h1 : XH), HT h1 → HX h h1 → E x h1 → XFin xP sc goal fs (.inr x) h1) : RR sc goal fs 104 0 [some (rv 2), some (.int (J p0)), some (.int (J p1)), some (.int (J p2)), none, none, none, none] [] h := by
  unfold w_X12_fails at w
  refine r_aldn (pc1 := 1) rfl rfl rfl ?_
  refine r_n (pc1 := 2) [.int (J p0), rv 2] _ rfl rfl ?_
  refine r_n (pc1 := 3) [.int (J p1), .int (J p0), rv 2] _ rfl rfl ?_
  refine r_iv rfl rfl rfl rfl rfl rfl t0 (lyk t0 rfl) rfl (xe_of (xa_r (xa_i (xa_i xa_0))) rfl rfl) (r_d0 hd rfl) (a_X12_checkedId p0 p1 (r_d1 hd rfl) rp0 rp1 w t0 (fun x1 rx1 w => ?_) (fun x y ty uy w => r_finx rfl rfl (kE x y ty (HX_trans (HX_refl h) uy) w)))
  refine r_fI (pc1 := 6) rfl ?_
  have w := w rx1
  refine r_ist (pc1 := 8) (ls1 := [some (rv 2), some (.int (J p0)), some (.int (J p1)), some (.int (J p2)), some (.int (J x1)), none, none, none]) rfl rfl rfl rfl ?_
  refine r_aldn (pc1 := 9) rfl rfl rfl ?_
  refine r_iv rfl rfl rfl rfl rfl rfl t0 (lyk t0 rfl) rfl (xe_of (xa_r xa_0) rfl rfl) (r_d0 hd rfl) (a_X12_remember  (r_d1 hd rfl)  w t0 (fun h2 t2 u2 w => ?_))
  refine r_fV (pc1 := 12) rfl ?_
  have s2 := HX_trans (HX_refl h) u2
  have w := w t2 u2
  refine r_aldn (pc1 := 13) rfl rfl rfl ?_
  refine r_gfC (pc1 := 16) (q := 8) rfl rfl rfl t2 (lyk t2 rfl) rfl rfl (lyR t2 rfl rfl) ?_
  refine r_gfC (pc1 := 19) (q := 9) rfl rfl rfl t2 (lyk t2 rfl) rfl rfl (lyR t2 rfl rfl) ?_
  refine r_gfL (pc1 := 22) rfl rfl rfl t2 (lyk t2 rfl) rfl rfl ?_
  refine r_n (pc1 := 24) [.int (J x1), .long (G (hL h2 9 10))] _ rfl rfl ?_
  refine r_iq rfl rfl rfl rfl rfl rfl (xe_of (xa_l (xa_i xa_0)) rfl rfl) (r_d0 hd rfl) (a_X12_has (hL h2 9 10) x1 (r_d1 hd rfl) rx1 w t2 (fun x3 rx3 vx3 w => ?_))
  refine r_fI (pc1 := 27) rfl ?_
  have w := w rx3 vx3
  refine r_ist (pc1 := 29) (ls1 := [some (rv 2), some (.int (J p0)), some (.int (J p1)), some (.int (J p2)), some (.int (J x1)), some (.int (J x3)), none, none]) rfl rfl rfl rfl ?_
  refine r_aldn (pc1 := 30) rfl rfl rfl ?_
  refine r_gfC (pc1 := 33) (q := 8) rfl rfl rfl t2 (lyk t2 rfl) rfl rfl (lyR t2 rfl rfl) ?_
  refine r_gfC (pc1 := 36) (q := 9) rfl rfl rfl t2 (lyk t2 rfl) rfl rfl (lyR t2 rfl rfl) ?_
  refine r_gfL (pc1 := 39) rfl rfl rfl t2 (lyk t2 rfl) rfl rfl ?_
  refine r_n (pc1 := 40) [.long (G (1#64)), .long (G (hL h2 9 10))] _ rfl rfl ?_
  refine r_n (pc1 := 42) [.int (J x1), .long (G (1#64)), .long (G (hL h2 9 10))] _ rfl rfl ?_
  refine r_lshl (pc1 := 43) rfl rfl ?_
  refine r_n (pc1 := 46) [.long (G (18446744073709551615#64)), .long (G (lshl (1#64) x1)), .long (G (hL h2 9 10))] _ rfl rfl ?_
  refine r_lxor (pc1 := 47) rfl rfl ?_
  refine r_land (pc1 := 48) rfl rfl ?_
  refine r_vL (fun b4 eb4 => ?_)
  have w := w b4 eb4
  refine r_lst (pc1 := 50) (ls1 := [some (rv 2), some (.int (J p0)), some (.int (J p1)), some (.int (J p2)), some (.int (J x1)), some (.int (J x3)), some (.long (G b4)), none]) rfl rfl rfl rfl ?_
  refine r_aldn (pc1 := 51) rfl rfl rfl ?_
  refine r_gfC (pc1 := 54) (q := 8) rfl rfl rfl t2 (lyk t2 rfl) rfl rfl (lyR t2 rfl rfl) ?_
  refine r_gfC (pc1 := 57) (q := 9) rfl rfl rfl t2 (lyk t2 rfl) rfl rfl (lyR t2 rfl rfl) ?_
  refine r_n (pc1 := 58) [.int (J p2), rv 9] _ rfl rfl ?_
  obtain ⟨J6, j6, w⟩ := w
  have Q6 : ∀ (b5 : BitVec 64), J6 b5 → RR sc goal fs 104 73 [some (rv 2), some (.int (J p0)), some (.int (J p1)), some (.int (J p2)), some (.int (J x1)), some (.int (J x3)), some (.long (G b4)), none] [.long (G b5), rv 9] h2 := by
    intro b5 z6
    have w := j6 b5 z6
    refine r_pfL (pc1 := 76) rfl rfl rfl t2 (lyk t2 rfl) rfl rfl rfl (fun h7 eh7 t7 u7 => ?_)
    have w := w h7 eh7 t7 u7
    have s7 := HX_trans s2 u7
    refine r_n (pc1 := 78) [.int (J x3)] _ rfl rfl ?_
    exact r_retB rfl rfl rfl vx3 (k _ _ t7 s7 rx3 vx3 w)
  refine r_iz (t := 71) (pc1 := 61) rfl rfl rfl rp2 (fun c8 => ?_) (fun c8 => ?_)
  · have w := w.1 c8
    refine r_n (pc1 := 73) [.long (G b4), rv 9] _ rfl rfl ?_
    exact Q6  b4   w
  · have w := w.2 c8
    refine r_n (pc1 := 63) [.long (G b4), rv 9] _ rfl rfl ?_
    refine r_n (pc1 := 64) [.long (G (1#64)), .long (G b4), rv 9] _ rfl rfl ?_
    refine r_n (pc1 := 66) [.int (J x1), .long (G (1#64)), .long (G b4), rv 9] _ rfl rfl ?_
    refine r_lshl (pc1 := 67) rfl rfl ?_
    refine r_lor (pc1 := 68) rfl rfl ?_
    refine r_goto (t := 73) rfl rfl ?_
    exact Q6  (b4 ||| (lshl (1#64) x1))   w
