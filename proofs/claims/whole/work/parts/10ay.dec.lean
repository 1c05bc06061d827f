/-! printed by dec.py: what each method wants, and that the machine keeps it -/ 
def w_X12_isBeaten (p0 : BitVec 64) (p1 : Int) (K : Int → Prop) (h : XH) : Prop :=
  (w_X11_atHand (fun a1 => (hk h a1 = 7 ∧ w_X12_changesBetween (hL h a1 6) p0 (fun x3 => rg x3 → (w_X3_setsToGoThrough (fun x4 => rg x4 → ((∃ (I9 : Int → Prop) (m9 : Int → Nat), I9 0 ∧ ∀ (x5 : Int), rg x5 → I9 x5 → (∃ J10 : Prop, (J10 → (w_X3_isFitting p0 (fun x11 => rg x11 → (x11 = 0 ∨ x11 = 1) → (∃ J13 : Int → Prop, (∀ (x12 : Int), rg x12 → J13 x12 → ((x12 = 0 ∨ x12 = 1) ∧ K x12)) ∧ ((¬ x11 = 0 → (J13 0)) ∧ (¬ (¬ x11 = 0) → (J13 1))))) h)) ∧ ((x4 ≤ x5 → J10) ∧ (¬ (x4 ≤ x5) → (((5000 < x4 → J10) ∧ (¬ (5000 < x4) → (w_X3_setNumber x5 (fun b16 => (∃ J18 : Int → Prop, (∀ (x17 : Int), rg x17 → J18 x17 → (∃ J19 : Prop, (J19 → (∀ x20 : Int, x20 = wr (x5 + 1) → rg x20 → (I9 x20 ∧ m9 x20 < m9 x5))) ∧ ((x17 = 0 → J19) ∧ (¬ (x17 = 0) → (w_X3_isFitting b16 (fun x21 => rg x21 → (x21 = 0 ∨ x21 = 1) → (((x21 = 0 → J19) ∧ (¬ (x21 = 0) → (K 1))))) h))))) ∧ ((p1 = 0 → (w_X9_isAhead b16 p0 (fun x24 => rg x24 → (x24 = 0 ∨ x24 = 1) → J18 x24) h)) ∧ (¬ (p1 = 0) → (w_X11_atHand (fun a25 => (hk h a25 = 7 ∧ w_X12_changesBetween (hL h a25 6) b16 (fun x27 => rg x27 → (((x3 ≤ x27 → (J18 0)) ∧ (¬ (x3 ≤ x27) → (J18 1))))) h)) h))))) h)))))))))) h)) h)) h)
set_option maxHeartbeats 4000000 in
theorem a_X12_isBeaten {sc : Nat × (Nat → Int32)} {goal : XO → XH → Prop} {fs : List XF} {h : XH} (p0 : BitVec 64) (p1 : Int) {K : Int → Prop} (hd : fs.length + 5 ≤ 1000) (rp1 : rg p1) (w : w_X12_isBeaten p0 p1 K h) (t0 : HT h) (k : ∀ (r : Int), rg r → (r = 0 ∨ r = 1) → K r → XFin xP sc goal fs (.inl (some (.int (J r)))) h) : RR sc goal fs 116 0 [some (rv 2), some (.long (G p0)), none, some (.int (J p1)), none, none, none, none, none, none] [] h := by
  unfold w_X12_isBeaten at w
  refine r_aldn (pc1 := 1) rfl rfl rfl ?_
  refine r_aldn (pc1 := 2) rfl rfl rfl ?_
  refine r_gfC (pc1 := 5) (q := 8) rfl rfl rfl t0 (lyk t0 rfl) rfl rfl (lyR t0 rfl rfl) ?_
  refine r_iv rfl rfl rfl rfl rfl rfl t0 (lyk t0 rfl) rfl (xe_of (xa_r xa_0) rfl rfl) (r_d0 hd rfl) (a_X11_atHand  (r_d1 hd rfl)  w t0 (fun a1 w => ?_))
  refine r_fR (pc1 := 8) rfl ?_
  obtain ⟨c2, w⟩ := w
  refine r_gfL (pc1 := 11) rfl rfl rfl t0 c2 rfl rfl ?_
  refine r_n (pc1 := 12) [.long (G p0), .long (G (hL h a1 6)), rv 2] _ rfl rfl ?_
  refine r_iv rfl rfl rfl rfl rfl rfl t0 (lyk t0 rfl) rfl (xe_of (xa_r (xa_l (xa_l xa_0))) rfl rfl) (r_d0 hd rfl) (a_X12_changesBetween (hL h a1 6) p0 (r_d1 hd rfl)  w t0 (fun x3 rx3 w => ?_))
  refine r_fI (pc1 := 15) rfl ?_
  have w := w rx3
  refine r_ist (pc1 := 17) (ls1 := [some (rv 2), some (.long (G p0)), none, some (.int (J p1)), some (.int (J x3)), none, none, none, none, none]) rfl rfl rfl rfl ?_
  refine r_aldn (pc1 := 18) rfl rfl rfl ?_
  refine r_gfC (pc1 := 21) (q := 44) rfl rfl rfl t0 (lyk t0 rfl) rfl rfl (lyR t0 rfl rfl) ?_
  refine r_iv rfl rfl rfl rfl rfl rfl t0 (lyk t0 rfl) rfl (xe_of (xa_r xa_0) rfl rfl) (r_d0 hd rfl) (a_X3_setsToGoThrough  (r_d1 hd rfl)  w t0 (fun x4 rx4 w => ?_))
  refine r_fI (pc1 := 24) rfl ?_
  have w := w rx4
  refine r_ist (pc1 := 26) (ls1 := [some (rv 2), some (.long (G p0)), none, some (.int (J p1)), some (.int (J x3)), some (.int (J x4)), none, none, none, none]) rfl rfl rfl rfl ?_
  refine r_n (pc1 := 27) [.int (J 0)] _ rfl rfl ?_
  refine r_ist (pc1 := 29) (ls1 := [some (rv 2), some (.long (G p0)), none, some (.int (J p1)), some (.int (J x3)), some (.int (J x4)), some (.int (J 0)), none, none, none]) rfl rfl rfl rfl ?_
  obtain ⟨I9, m9, w, y9⟩ := w
  have Q9 : ∀ (n : Nat) (d6 : Option Value) (d7 : Option Value) (d8 : Option Value) (x5 : Int), rg x5 → m9 x5 < n → I9 x5 → RR sc goal fs 116 29 [some (rv 2), some (.long (G p0)), none, some (.int (J p1)), some (.int (J x3)), some (.int (J x4)), some (.int (J x5)), d6, d7, d8] [] h := by
    intro n
    induction n with
    | zero => intro d6 d7 d8 x5 rx5 q9 _; exact absurd q9 (Nat.not_lt_zero _)
    | succ n ih9 =>
      intro d6 d7 d8 x5 rx5 q9 z9
      have w := y9 x5 rx5 z9
      refine r_n (pc1 := 31) [.int (J x5)] _ rfl rfl ?_
      refine r_n (pc1 := 33) [.int (J x4), .int (J x5)] _ rfl rfl ?_
      obtain ⟨J10, j10, w⟩ := w
      have Q10 : J10 → RR sc goal fs 116 125 [some (rv 2), some (.long (G p0)), none, some (.int (J p1)), some (.int (J x3)), some (.int (J x4)), some (.int (J x5)), d6, d7, d8] [] h := by
        intro z10
        have w := j10 z10
        refine r_aldn (pc1 := 126) rfl rfl rfl ?_
        refine r_gfC (pc1 := 129) (q := 44) rfl rfl rfl t0 (lyk t0 rfl) rfl rfl (lyR t0 rfl rfl) ?_
        refine r_n (pc1 := 130) [.long (G p0), rv 44] _ rfl rfl ?_
        refine r_iv rfl rfl rfl rfl rfl rfl t0 (lyk t0 rfl) rfl (xe_of (xa_r (xa_l xa_0)) rfl rfl) (r_d0 hd rfl) (a_X3_isFitting p0 (r_d1 hd rfl)  w t0 (fun x11 rx11 vx11 w => ?_))
        refine r_fI (pc1 := 133) rfl ?_
        have w := w rx11 vx11
        obtain ⟨J13, j13, w⟩ := w
        have Q13 : ∀ (x12 : Int), rg x12 → J13 x12 → RR sc goal fs 116 141 [some (rv 2), some (.long (G p0)), none, some (.int (J p1)), some (.int (J x3)), some (.int (J x4)), some (.int (J x5)), d6, d7, d8] [.int (J x12)] h := by
          intro x12 rx12 z13
          have w := j13 x12 rx12 z13
          obtain ⟨c14, w⟩ := w
          exact r_retB rfl rfl rfl c14 (k _ rx12 c14 w)
        refine r_iz (t := 140) (pc1 := 136) rfl rfl rfl rx11 (fun c15 => ?_) (fun c15 => ?_)
        · have w := w.1 c15
          refine r_n (pc1 := 141) [.int (J 0)] _ rfl rfl ?_
          exact Q13  0  (rgk rfl) w
        · have w := w.2 c15
          refine r_n (pc1 := 137) [.int (J 1)] _ rfl rfl ?_
          refine r_goto (t := 141) rfl rfl ?_
          exact Q13  1  (rgk rfl) w
      refine r_ic (t := 125) (pc1 := 36) rfl rfl rfl rx5 rx4 (fun c31 => ?_) (fun c31 => ?_)
      · have w := w.1 c31
        exact Q10     w
      · have w := w.2 c31
        refine r_n (pc1 := 38) [.int (J x4)] _ rfl rfl ?_
        refine r_n (pc1 := 41) [.int (J 5000), .int (J x4)] _ rfl rfl ?_
        refine r_ic (t := 125) (pc1 := 44) rfl rfl rfl rx4 (rgk rfl) (fun c30 => ?_) (fun c30 => ?_)
        · have w := w.1 c30
          exact Q10     w
        · have w := w.2 c30
          refine r_aldn (pc1 := 45) rfl rfl rfl ?_
          refine r_gfC (pc1 := 48) (q := 44) rfl rfl rfl t0 (lyk t0 rfl) rfl rfl (lyR t0 rfl rfl) ?_
          refine r_n (pc1 := 50) [.int (J x5), rv 44] _ rfl rfl ?_
          refine r_iv rfl rfl rfl rfl rfl rfl t0 (lyk t0 rfl) rfl (xe_of (xa_r (xa_i xa_0)) rfl rfl) (r_d0 hd rfl) (a_X3_setNumber x5 (r_d1 hd rfl) rx5 w t0 (fun b16 w => ?_))
          refine r_fL (pc1 := 53) rfl ?_
          refine r_lst (pc1 := 55) (ls1 := [some (rv 2), some (.long (G p0)), none, some (.int (J p1)), some (.int (J x3)), some (.int (J x4)), some (.int (J x5)), some (.long (G b16)), none, d8]) rfl rfl rfl rfl ?_
          refine r_n (pc1 := 56) [.int (J p1)] _ rfl rfl ?_
          obtain ⟨J18, j18, w⟩ := w
          have Q18 : ∀ (x17 : Int), rg x17 → J18 x17 → RR sc goal fs 116 98 [some (rv 2), some (.long (G p0)), none, some (.int (J p1)), some (.int (J x3)), some (.int (J x4)), some (.int (J x5)), some (.long (G b16)), none, d8] [.int (J x17)] h := by
            intro x17 rx17 z18
            have w := j18 x17 rx17 z18
            refine r_ist (pc1 := 100) (ls1 := [some (rv 2), some (.long (G p0)), none, some (.int (J p1)), some (.int (J x3)), some (.int (J x4)), some (.int (J x5)), some (.long (G b16)), none, some (.int (J x17))]) rfl rfl rfl rfl ?_
            refine r_n (pc1 := 102) [.int (J x17)] _ rfl rfl ?_
            obtain ⟨J19, j19, w⟩ := w
            have Q19 : J19 → RR sc goal fs 116 119 [some (rv 2), some (.long (G p0)), none, some (.int (J p1)), some (.int (J x3)), some (.int (J x4)), some (.int (J x5)), some (.long (G b16)), none, some (.int (J x17))] [] h := by
              intro z19
              have w := j19 z19
              refine r_inc (pc1 := 122) (g := fun zz => [some (rv 2), some (.long (G p0)), none, some (.int (J p1)), some (.int (J x3)), some (.int (J x4)), some (.int (J zz)), some (.long (G b16)), none, some (.int (J x17))]) rfl rfl rfl rfl (fun _ => rfl) (fun x20 ex20 rx20 => ?_)
              have w := w x20 ex20 rx20
              refine r_goto (t := 29) rfl rfl ?_
              exact ih9 _ _ _ x20  rx20 (Nat.lt_of_lt_of_le w.2 (Nat.le_of_lt_succ q9)) w.1
            refine r_iz (t := 119) (pc1 := 105) rfl rfl rfl rx17 (fun c23 => ?_) (fun c23 => ?_)
            · have w := w.1 c23
              exact Q19     w
            · have w := w.2 c23
              refine r_aldn (pc1 := 106) rfl rfl rfl ?_
              refine r_gfC (pc1 := 109) (q := 44) rfl rfl rfl t0 (lyk t0 rfl) rfl rfl (lyR t0 rfl rfl) ?_
              refine r_n (pc1 := 111) [.long (G b16), rv 44] _ rfl rfl ?_
              refine r_iv rfl rfl rfl rfl rfl rfl t0 (lyk t0 rfl) rfl (xe_of (xa_r (xa_l xa_0)) rfl rfl) (r_d0 hd rfl) (a_X3_isFitting b16 (r_d1 hd rfl)  w t0 (fun x21 rx21 vx21 w => ?_))
              refine r_fI (pc1 := 114) rfl ?_
              have w := w rx21 vx21
              refine r_iz (t := 119) (pc1 := 117) rfl rfl rfl rx21 (fun c22 => ?_) (fun c22 => ?_)
              · have w := w.1 c22
                exact Q19     w
              · have w := w.2 c22
                refine r_n (pc1 := 118) [.int (J 1)] _ rfl rfl ?_
                exact r_retB rfl rfl rfl (.inr rfl) (k _ (rgk rfl) (.inr rfl) w)
          refine r_iz (t := 88) (pc1 := 59) rfl rfl rfl rp1 (fun c29 => ?_) (fun c29 => ?_)
          · have w := w.1 c29
            refine r_aldn (pc1 := 89) rfl rfl rfl ?_
            refine r_gfC (pc1 := 92) (q := 68) rfl rfl rfl t0 (lyk t0 rfl) rfl rfl (lyR t0 rfl rfl) ?_
            refine r_n (pc1 := 94) [.long (G b16), rv 68] _ rfl rfl ?_
            refine r_n (pc1 := 95) [.long (G p0), .long (G b16), rv 68] _ rfl rfl ?_
            refine r_iv rfl rfl rfl rfl rfl rfl t0 (lyk t0 rfl) rfl (xe_of (xa_r (xa_l (xa_l xa_0))) rfl rfl) (r_d0 hd rfl) (a_X9_isAhead b16 p0 (r_d1 hd rfl)  w t0 (fun x24 rx24 vx24 w => ?_))
            refine r_fI (pc1 := 98) rfl ?_
            have w := w rx24 vx24
            exact Q18  x24  rx24 w
          · have w := w.2 c29
            refine r_aldn (pc1 := 60) rfl rfl rfl ?_
            refine r_aldn (pc1 := 61) rfl rfl rfl ?_
            refine r_gfC (pc1 := 64) (q := 8) rfl rfl rfl t0 (lyk t0 rfl) rfl rfl (lyR t0 rfl rfl) ?_
            refine r_iv rfl rfl rfl rfl rfl rfl t0 (lyk t0 rfl) rfl (xe_of (xa_r xa_0) rfl rfl) (r_d0 hd rfl) (a_X11_atHand  (r_d1 hd rfl)  w t0 (fun a25 w => ?_))
            refine r_fR (pc1 := 67) rfl ?_
            obtain ⟨c26, w⟩ := w
            refine r_gfL (pc1 := 70) rfl rfl rfl t0 c26 rfl rfl ?_
            refine r_n (pc1 := 72) [.long (G b16), .long (G (hL h a25 6)), rv 2] _ rfl rfl ?_
            refine r_iv rfl rfl rfl rfl rfl rfl t0 (lyk t0 rfl) rfl (xe_of (xa_r (xa_l (xa_l xa_0))) rfl rfl) (r_d0 hd rfl) (a_X12_changesBetween (hL h a25 6) b16 (r_d1 hd rfl)  w t0 (fun x27 rx27 w => ?_))
            refine r_fI (pc1 := 75) rfl ?_
            have w := w rx27
            refine r_n (pc1 := 77) [.int (J x3), .int (J x27)] _ rfl rfl ?_
            refine r_ic (t := 84) (pc1 := 80) rfl rfl rfl rx27 rx3 (fun c28 => ?_) (fun c28 => ?_)
            · have w := w.1 c28
              refine r_n (pc1 := 85) [.int (J 0)] _ rfl rfl ?_
              refine r_goto (t := 98) rfl rfl ?_
              exact Q18  0  (rgk rfl) w
            · have w := w.2 c28
              refine r_n (pc1 := 81) [.int (J 1)] _ rfl rfl ?_
              refine r_goto (t := 98) rfl rfl ?_
              exact Q18  1  (rgk rfl) w
  exact Q9 _ _ _ _ 0  (rgk rfl) (Nat.lt_succ_self _) w
def w_X4_isCoreWrong  (K : Int → XH → Prop) (h : XH) : Prop :=
  (((¬ hI h 70 2 = 0 → ((∃ (I3 : Int → XH → Prop) (m3 : Int → XH → Nat), I3 0 h ∧ ∀ (x1 : Int) (h2 : XH), HT h2 → HX h h2 → rg x1 → I3 x1 h2 → (((hI h2 51 3 ≤ x1 → ((∃ (I6 : Int → XH → Prop) (m6 : Int → XH → Nat), I6 0 h2 ∧ ∀ (x4 : Int) (h5 : XH), HT h5 → HX h h5 → rg x4 → I6 x4 h5 → (((hI h5 70 2 ≤ x4 → (w_X4_isRefuted (fun x7 h8 => HT h8 → HX h5 h8 → rg x7 → (x7 = 0 ∨ x7 = 1) → (∃ J10 : Int → Prop, (∀ (x9 : Int), rg x9 → J10 x9 → ((∃ (I14 : Int → Int → XH → Prop) (m14 : Int → Int → XH → Nat), I14 x9 0 h8 ∧ ∀ (x11 : Int) (x12 : Int) (h13 : XH), HT h13 → HX h h13 → rg x11 → rg x12 → I14 x11 x12 h13 → (∃ J15 : Prop, (J15 → (w_X4_takeAll (fun h16 => HT h16 → HX h13 h16 → ((x11 = 0 ∨ x11 = 1) ∧ K x11 h16)) h13)) ∧ ((hI h13 70 2 ≤ x12 → J15) ∧ (¬ (hI h13 70 2 ≤ x12) → (((¬ x11 = 0 → J15) ∧ (¬ (¬ x11 = 0) → ((0 ≤ x12 ∧ x12 < 3712) ∧ (0 ≤ hI h13 71 x12.toNat ∧ hI h13 71 x12.toNat < 3712) ∧ ∀ h20 : XH, h20 = sI h13 58 (hI h13 71 x12.toNat).toNat 1 → HT h20 → HX h13 h20 → w_X4_isRefuted (fun x21 h22 => HT h22 → HX h20 h22 → rg x21 → (x21 = 0 ∨ x21 = 1) → ((0 ≤ hI h22 71 x12.toNat ∧ hI h22 71 x12.toNat < 3712) ∧ ∀ h24 : XH, h24 = sI h22 58 (hI h22 71 x12.toNat).toNat 0 → HT h24 → HX h22 h24 → ∀ x25 : Int, x25 = wr (x12 + 1) → rg x25 → (I14 x21 x25 h24 ∧ m14 x21 x25 h24 < m14 x11 x12 h13))) h20)))))))))) ∧ ((¬ x7 = 0 → (J10 0)) ∧ (¬ (¬ x7 = 0) → (J10 1))))) h5)) ∧ (¬ (hI h5 70 2 ≤ x4) → ((0 ≤ x4 ∧ x4 < 3712) ∧ (0 ≤ hI h5 71 x4.toNat ∧ hI h5 71 x4.toNat < 3712) ∧ ∀ h31 : XH, h31 = sI h5 58 (hI h5 71 x4.toNat).toNat 0 → HT h31 → HX h5 h31 → ∀ x32 : Int, x32 = wr (x4 + 1) → rg x32 → (I6 x32 h31 ∧ m6 x32 h31 < m6 x4 h5)))))))) ∧ (¬ (hI h2 51 3 ≤ x1) → ((0 ≤ x1 ∧ x1 < 3712) ∧ ∀ h35 : XH, h35 = sI h2 58 x1.toNat 1 → HT h35 → HX h2 h35 → ∀ x36 : Int, x36 = wr (x1 + 1) → rg x36 → (I3 x36 h35 ∧ m3 x36 h35 < m3 x1 h2)))))))) ∧ (¬ (¬ hI h 70 2 = 0) → (K 0 h))))
set_option maxHeartbeats 4000000 in
theorem a_X4_isCoreWrong {sc : Nat × (Nat → Int32)} {goal : XO → XH → Prop} {fs : List XF} {h : XH}  {K : Int → XH → Prop} (hd : fs.length + 6 ≤ 1000) (w : w_X4_isCoreWrong  K h) (t0 : HT h) (k : ∀ (r : Int) (h1 : XH), HT h1 → HX h h1 → rg r → (r = 0 ∨ r = 1) → K r h1 → XFin xP sc goal fs (.inl (some (.int (J r)))) h1) : RR sc goal fs 379 0 [some (rv 70), none, none] [] h := by
  unfold w_X4_isCoreWrong at w
  refine r_aldn (pc1 := 1) rfl rfl rfl ?_
  refine r_gfI (pc1 := 4) rfl rfl rfl t0 (lyk t0 rfl) rfl rfl ?_
  refine r_iz (t := 9) (pc1 := 7) rfl rfl rfl (rgh _ _ _) (fun c38 => ?_) (fun c38 => ?_)
  · have w := w.1 c38
    refine r_n (pc1 := 10) [.int (J 0)] _ rfl rfl ?_
    refine r_istn (pc1 := 11) (ls1 := [some (rv 70), some (.int (J 0)), none]) rfl rfl rfl rfl ?_
    obtain ⟨I3, m3, w, y3⟩ := w
    have Q3 : ∀ (n : Nat)  (x1 : Int) (h2 : XH), HT h2 → HX h h2 → rg x1 → m3 x1 h2 < n → I3 x1 h2 → RR sc goal fs 379 11 [some (rv 70), some (.int (J x1)), none] [] h2 := by
      intro n
      induction n with
      | zero => intro x1 h2 t2 s2 rx1 q3 _; exact absurd q3 (Nat.not_lt_zero _)
      | succ n ih3 =>
        intro x1 h2 t2 s2 rx1 q3 z3
        have w := y3 x1 h2 t2 s2 rx1 z3
        refine r_n (pc1 := 12) [.int (J x1)] _ rfl rfl ?_
        refine r_aldn (pc1 := 13) rfl rfl rfl ?_
        refine r_gfC (pc1 := 16) (q := 51) rfl rfl rfl t2 (lyk t2 rfl) rfl rfl (lyR t2 rfl rfl) ?_
        refine r_gfI (pc1 := 19) rfl rfl rfl t2 (lyk t2 rfl) rfl rfl ?_
        refine r_ic (t := 38) (pc1 := 22) rfl rfl rfl rx1 (rgh _ _ _) (fun c37 => ?_) (fun c37 => ?_)
        · have w := w.1 c37
          refine r_n (pc1 := 39) [.int (J 0)] _ rfl rfl ?_
          refine r_istn (pc1 := 40) (ls1 := [some (rv 70), some (.int (J 0)), none]) rfl rfl rfl rfl ?_
          obtain ⟨I6, m6, w, y6⟩ := w
          have Q6 : ∀ (n : Nat)  (x4 : Int) (h5 : XH), HT h5 → HX h h5 → rg x4 → m6 x4 h5 < n → I6 x4 h5 → RR sc goal fs 379 40 [some (rv 70), some (.int (J x4)), none] [] h5 := by
            intro n
            induction n with
            | zero => intro x4 h5 t5 s5 rx4 q6 _; exact absurd q6 (Nat.not_lt_zero _)
            | succ n ih6 =>
              intro x4 h5 t5 s5 rx4 q6 z6
              have w := y6 x4 h5 t5 s5 rx4 z6
              refine r_n (pc1 := 41) [.int (J x4)] _ rfl rfl ?_
              refine r_aldn (pc1 := 42) rfl rfl rfl ?_
              refine r_gfI (pc1 := 45) rfl rfl rfl t5 (lyk t5 rfl) rfl rfl ?_
              refine r_ic (t := 69) (pc1 := 48) rfl rfl rfl rx4 (rgh _ _ _) (fun c33 => ?_) (fun c33 => ?_)
              · have w := w.1 c33
                refine r_aldn (pc1 := 70) rfl rfl rfl ?_
                refine r_iv rfl rfl rfl rfl rfl rfl t5 (lyk t5 rfl) rfl (xe_of (xa_r xa_0) rfl rfl) (r_d0 hd rfl) (a_X4_isRefuted  (r_d1 hd rfl)  w t5 (fun x7 h8 t8 u8 rx7 vx7 w => ?_))
                refine r_fI (pc1 := 73) rfl ?_
                have s8 := HX_trans s5 u8
                have w := w t8 u8
                have w := w rx7 vx7
                obtain ⟨J10, j10, w⟩ := w
                have Q10 : ∀ (x9 : Int), rg x9 → J10 x9 → RR sc goal fs 379 81 [some (rv 70), some (.int (J x4)), none] [.int (J x9)] h8 := by
                  intro x9 rx9 z10
                  have w := j10 x9 rx9 z10
                  refine r_istn (pc1 := 82) (ls1 := [some (rv 70), some (.int (J x9)), none]) rfl rfl rfl rfl ?_
                  refine r_n (pc1 := 83) [.int (J 0)] _ rfl rfl ?_
                  refine r_istn (pc1 := 84) (ls1 := [some (rv 70), some (.int (J x9)), some (.int (J 0))]) rfl rfl rfl rfl ?_
                  obtain ⟨I14, m14, w, y14⟩ := w
                  have Q14 : ∀ (n : Nat)  (x11 : Int) (x12 : Int) (h13 : XH), HT h13 → HX h h13 → rg x11 → rg x12 → m14 x11 x12 h13 < n → I14 x11 x12 h13 → RR sc goal fs 379 84 [some (rv 70), some (.int (J x11)), some (.int (J x12))] [] h13 := by
                    intro n
                    induction n with
                    | zero => intro x11 x12 h13 t13 s13 rx11 rx12 q14 _; exact absurd q14 (Nat.not_lt_zero _)
                    | succ n ih14 =>
                      intro x11 x12 h13 t13 s13 rx11 rx12 q14 z14
                      have w := y14 x11 x12 h13 t13 s13 rx11 rx12 z14
                      refine r_n (pc1 := 85) [.int (J x12)] _ rfl rfl ?_
                      refine r_aldn (pc1 := 86) rfl rfl rfl ?_
                      refine r_gfI (pc1 := 89) rfl rfl rfl t13 (lyk t13 rfl) rfl rfl ?_
                      obtain ⟨J15, j15, w⟩ := w
                      have Q15 : J15 → RR sc goal fs 379 137 [some (rv 70), some (.int (J x11)), some (.int (J x12))] [] h13 := by
                        intro z15
                        have w := j15 z15
                        refine r_aldn (pc1 := 138) rfl rfl rfl ?_
                        refine r_iv rfl rfl rfl rfl rfl rfl t13 (lyk t13 rfl) rfl (xe_of (xa_r xa_0) rfl rfl) (r_d0 hd rfl) (a_X4_takeAll  (r_d1 hd rfl)  w t13 (fun h16 t16 u16 w => ?_))
                        refine r_fV (pc1 := 141) rfl ?_
                        have s16 := HX_trans s13 u16
                        have w := w t16 u16
                        refine r_n (pc1 := 142) [.int (J x11)] _ rfl rfl ?_
                        obtain ⟨c17, w⟩ := w
                        exact r_retB rfl rfl rfl c17 (k _ _ t16 s16 rx11 c17 w)
                      refine r_ic (t := 137) (pc1 := 92) rfl rfl rfl rx12 (rgh _ _ _) (fun c27 => ?_) (fun c27 => ?_)
                      · have w := w.1 c27
                        exact Q15     w
                      · have w := w.2 c27
                        refine r_n (pc1 := 93) [.int (J x11)] _ rfl rfl ?_
                        refine r_iz (t := 137) (pc1 := 96) rfl rfl rfl rx11 (fun c26 => ?_) (fun c26 => ?_)
                        · have w := w.1 c26
                          exact Q15     w
                        · have w := w.2 c26
                          refine r_aldn (pc1 := 97) rfl rfl rfl ?_
                          refine r_gfC (pc1 := 100) (q := 57) rfl rfl rfl t13 (lyk t13 rfl) rfl rfl (lyR t13 rfl rfl) ?_
                          refine r_gfC (pc1 := 103) (q := 58) rfl rfl rfl t13 (lyk t13 rfl) rfl rfl (lyR t13 rfl rfl) ?_
                          refine r_aldn (pc1 := 104) rfl rfl rfl ?_
                          refine r_gfC (pc1 := 107) (q := 71) rfl rfl rfl t13 (lyk t13 rfl) rfl rfl (lyR t13 rfl rfl) ?_
                          refine r_n (pc1 := 108) [.int (J x12), rv 71, rv 58] _ rfl rfl ?_
                          obtain ⟨c18, w⟩ := w
                          refine r_ial (pc1 := 109) rfl rfl t13 (lyk t13 rfl) rx12 c18.1 (lt_len (lyn t13 rfl) c18.2) ?_
                          refine r_n (pc1 := 110) [.int (J 1), .int (J (hI h13 71 x12.toNat)), rv 58] _ rfl rfl ?_
                          obtain ⟨c19, w⟩ := w
                          refine r_bast (pc1 := 111) rfl rfl t13 (lyk t13 rfl) (.inr rfl) (rgh _ _ _) c19.1 (lt_len (lyn t13 rfl) c19.2) (fun h20 eh20 t20 u20 => ?_)
                          have w := w h20 eh20 t20 u20
                          have s20 := HX_trans s13 u20
                          refine r_aldn (pc1 := 112) rfl rfl rfl ?_
                          refine r_iv rfl rfl rfl rfl rfl rfl t20 (lyk t20 rfl) rfl (xe_of (xa_r xa_0) rfl rfl) (r_d0 hd rfl) (a_X4_isRefuted  (r_d1 hd rfl)  w t20 (fun x21 h22 t22 u22 rx21 vx21 w => ?_))
                          refine r_fI (pc1 := 115) rfl ?_
                          have s22 := HX_trans s20 u22
                          have w := w t22 u22
                          have w := w rx21 vx21
                          refine r_istn (pc1 := 116) (ls1 := [some (rv 70), some (.int (J x21)), some (.int (J x12))]) rfl rfl rfl rfl ?_
                          refine r_aldn (pc1 := 117) rfl rfl rfl ?_
                          refine r_gfC (pc1 := 120) (q := 57) rfl rfl rfl t22 (lyk t22 rfl) rfl rfl (lyR t22 rfl rfl) ?_
                          refine r_gfC (pc1 := 123) (q := 58) rfl rfl rfl t22 (lyk t22 rfl) rfl rfl (lyR t22 rfl rfl) ?_
                          refine r_aldn (pc1 := 124) rfl rfl rfl ?_
                          refine r_gfC (pc1 := 127) (q := 71) rfl rfl rfl t22 (lyk t22 rfl) rfl rfl (lyR t22 rfl rfl) ?_
                          refine r_n (pc1 := 128) [.int (J x12), rv 71, rv 58] _ rfl rfl ?_
                          refine r_ial (pc1 := 129) rfl rfl t22 (lyk t22 rfl) rx12 c18.1 (lt_len (lyn t22 rfl) c18.2) ?_
                          refine r_n (pc1 := 130) [.int (J 0), .int (J (hI h22 71 x12.toNat)), rv 58] _ rfl rfl ?_
                          obtain ⟨c23, w⟩ := w
                          refine r_bast (pc1 := 131) rfl rfl t22 (lyk t22 rfl) (.inl rfl) (rgh _ _ _) c23.1 (lt_len (lyn t22 rfl) c23.2) (fun h24 eh24 t24 u24 => ?_)
                          have w := w h24 eh24 t24 u24
                          have s24 := HX_trans s22 u24
                          refine r_inc (pc1 := 134) (g := fun zz => [some (rv 70), some (.int (J x21)), some (.int (J zz))]) rfl rfl rfl rfl (fun _ => rfl) (fun x25 ex25 rx25 => ?_)
                          have w := w x25 ex25 rx25
                          refine r_goto (t := 84) rfl rfl ?_
                          exact ih14  x21 x25 h24 t24 s24 rx21 rx25 (Nat.lt_of_lt_of_le w.2 (Nat.le_of_lt_succ q14)) w.1
                  exact Q14 _  x9 0 h8 t8 s8 rx9 (rgk rfl) (Nat.lt_succ_self _) w
                refine r_iz (t := 80) (pc1 := 76) rfl rfl rfl rx7 (fun c28 => ?_) (fun c28 => ?_)
                · have w := w.1 c28
                  refine r_n (pc1 := 81) [.int (J 0)] _ rfl rfl ?_
                  exact Q10  0  (rgk rfl) w
                · have w := w.2 c28
                  refine r_n (pc1 := 77) [.int (J 1)] _ rfl rfl ?_
                  refine r_goto (t := 81) rfl rfl ?_
                  exact Q10  1  (rgk rfl) w
              · have w := w.2 c33
                refine r_aldn (pc1 := 49) rfl rfl rfl ?_
                refine r_gfC (pc1 := 52) (q := 57) rfl rfl rfl t5 (lyk t5 rfl) rfl rfl (lyR t5 rfl rfl) ?_
                refine r_gfC (pc1 := 55) (q := 58) rfl rfl rfl t5 (lyk t5 rfl) rfl rfl (lyR t5 rfl rfl) ?_
                refine r_aldn (pc1 := 56) rfl rfl rfl ?_
                refine r_gfC (pc1 := 59) (q := 71) rfl rfl rfl t5 (lyk t5 rfl) rfl rfl (lyR t5 rfl rfl) ?_
                refine r_n (pc1 := 60) [.int (J x4), rv 71, rv 58] _ rfl rfl ?_
                obtain ⟨c29, w⟩ := w
                refine r_ial (pc1 := 61) rfl rfl t5 (lyk t5 rfl) rx4 c29.1 (lt_len (lyn t5 rfl) c29.2) ?_
                refine r_n (pc1 := 62) [.int (J 0), .int (J (hI h5 71 x4.toNat)), rv 58] _ rfl rfl ?_
                obtain ⟨c30, w⟩ := w
                refine r_bast (pc1 := 63) rfl rfl t5 (lyk t5 rfl) (.inl rfl) (rgh _ _ _) c30.1 (lt_len (lyn t5 rfl) c30.2) (fun h31 eh31 t31 u31 => ?_)
                have w := w h31 eh31 t31 u31
                have s31 := HX_trans s5 u31
                refine r_inc (pc1 := 66) (g := fun zz => [some (rv 70), some (.int (J zz)), none]) rfl rfl rfl rfl (fun _ => rfl) (fun x32 ex32 rx32 => ?_)
                have w := w x32 ex32 rx32
                refine r_goto (t := 40) rfl rfl ?_
                exact ih6  x32 h31 t31 s31 rx32 (Nat.lt_of_lt_of_le w.2 (Nat.le_of_lt_succ q6)) w.1
          exact Q6 _  0 h2 t2 s2 (rgk rfl) (Nat.lt_succ_self _) w
        · have w := w.2 c37
          refine r_aldn (pc1 := 23) rfl rfl rfl ?_
          refine r_gfC (pc1 := 26) (q := 57) rfl rfl rfl t2 (lyk t2 rfl) rfl rfl (lyR t2 rfl rfl) ?_
          refine r_gfC (pc1 := 29) (q := 58) rfl rfl rfl t2 (lyk t2 rfl) rfl rfl (lyR t2 rfl rfl) ?_
          refine r_n (pc1 := 30) [.int (J x1), rv 58] _ rfl rfl ?_
          refine r_n (pc1 := 31) [.int (J 1), .int (J x1), rv 58] _ rfl rfl ?_
          obtain ⟨c34, w⟩ := w
          refine r_bast (pc1 := 32) rfl rfl t2 (lyk t2 rfl) (.inr rfl) rx1 c34.1 (lt_len (lyn t2 rfl) c34.2) (fun h35 eh35 t35 u35 => ?_)
          have w := w h35 eh35 t35 u35
          have s35 := HX_trans s2 u35
          refine r_inc (pc1 := 35) (g := fun zz => [some (rv 70), some (.int (J zz)), none]) rfl rfl rfl rfl (fun _ => rfl) (fun x36 ex36 rx36 => ?_)
          have w := w x36 ex36 rx36
          refine r_goto (t := 11) rfl rfl ?_
          exact ih3  x36 h35 t35 s35 rx36 (Nat.lt_of_lt_of_le w.2 (Nat.le_of_lt_succ q3)) w.1
    exact Q3 _  0 h t0 (HX_refl h) (rgk rfl) (Nat.lt_succ_self _) w
  · have w := w.2 c38
    refine r_n (pc1 := 8) [.int (J 0)] _ rfl rfl ?_
    exact r_retB rfl rfl rfl (.inl rfl) (k _ _ t0 (HX_refl h) (rgk rfl) (.inl rfl) w)
def w_X4_isProofWrong  (K : Int → XH → Prop) (h : XH) : Prop :=
  ((∃ (I3 : Int → XH → Prop) (m3 : Int → XH → Nat), I3 0 h ∧ ∀ (x1 : Int) (h2 : XH), HT h2 → HX h h2 → rg x1 → I3 x1 h2 → (((hI h2 70 5 ≤ x1 → (∃ J5 : Int → Prop, (∀ (x4 : Int), rg x4 → J5 x4 → ((x4 = 0 ∨ x4 = 1) ∧ K x4 h2)) ∧ ∃ J7 : Prop, (J7 → (J5 0)) ∧ ((hI h2 70 5 ≤ 0 → J7) ∧ (¬ (hI h2 70 5 ≤ 0) → (w_X4_literalsOf (wr ((hI h2 70 5) - 1)) (fun x8 => rg x8 → (((x8 = 0 → J7) ∧ (¬ (x8 = 0) → (J5 1))))) h2))))) ∧ (¬ (hI h2 70 5 ≤ x1) → ((0 ≤ x1 ∧ x1 < 200) ∧ ∃ J13 : XH → Prop, (∀ (h12 : XH), HT h12 → HX h h12 → J13 h12 → (∀ x14 : Int, x14 = wr (x1 + 1) → rg x14 → (I3 x14 h12 ∧ m3 x14 h12 < m3 x1 h2))) ∧ ((hI h2 76 x1.toNat = (-1) → J13 h2) ∧ (¬ (hI h2 76 x1.toNat = (-1)) → (w_X4_isJoinable (hI h2 75 x1.toNat) (hI h2 76 x1.toNat) (fun x15 h16 => HT h16 → HX h2 h16 → rg x15 → (x15 = 0 ∨ x15 = 1) → (∃ J17 : Prop, (J17 → (K 1 h16)) ∧ ((x15 = 0 → J17) ∧ (¬ (x15 = 0) → (((¬ hL h16 70 12 = hL h16 73 x1.toNat → J17) ∧ (¬ (¬ hL h16 70 12 = hL h16 73 x1.toNat) → (((hL h16 70 13 = hL h16 74 x1.toNat → J13 h16) ∧ (¬ (hL h16 70 13 = hL h16 74 x1.toNat) → J17)))))))))) h2)))))))))
set_option maxHeartbeats 4000000 in
theorem a_X4_isProofWrong {sc : Nat × (Nat → Int32)} {goal : XO → XH → Prop} {fs : List XF} {h : XH}  {K : Int → XH → Prop} (hd : fs.length + 2 ≤ 1000) (w : w_X4_isProofWrong  K h) (t0 : HT h) (k : ∀ (r : Int) (h1 : XH), HT h1 → HX h h1 → rg r → (r = 0 ∨ r = 1) → K r h1 → XFin xP sc goal fs (.inl (some (.int (J r)))) h1) : RR sc goal fs 382 0 [some (rv 70), none] [] h := by
  unfold w_X4_isProofWrong at w
  refine r_n (pc1 := 1) [.int (J 0)] _ rfl rfl ?_
  refine r_istn (pc1 := 2) (ls1 := [some (rv 70), some (.int (J 0))]) rfl rfl rfl rfl ?_
  obtain ⟨I3, m3, w, y3⟩ := w
  have Q3 : ∀ (n : Nat)  (x1 : Int) (h2 : XH), HT h2 → HX h h2 → rg x1 → m3 x1 h2 < n → I3 x1 h2 → RR sc goal fs 382 2 [some (rv 70), some (.int (J x1))] [] h2 := by
    intro n
    induction n with
    | zero => intro x1 h2 t2 s2 rx1 q3 _; exact absurd q3 (Nat.not_lt_zero _)
    | succ n ih3 =>
      intro x1 h2 t2 s2 rx1 q3 z3
      have w := y3 x1 h2 t2 s2 rx1 z3
      refine r_n (pc1 := 3) [.int (J x1)] _ rfl rfl ?_
      refine r_aldn (pc1 := 4) rfl rfl rfl ?_
      refine r_gfI (pc1 := 7) rfl rfl rfl t2 (lyk t2 rfl) rfl rfl ?_
      refine r_ic (t := 75) (pc1 := 10) rfl rfl rfl rx1 (rgh _ _ _) (fun c22 => ?_) (fun c22 => ?_)
      · have w := w.1 c22
        refine r_aldn (pc1 := 76) rfl rfl rfl ?_
        refine r_gfI (pc1 := 79) rfl rfl rfl t2 (lyk t2 rfl) rfl rfl ?_
        obtain ⟨J5, j5, w⟩ := w
        have Q5 : ∀ (x4 : Int), rg x4 → J5 x4 → RR sc goal fs 382 100 [some (rv 70), some (.int (J x1))] [.int (J x4)] h2 := by
          intro x4 rx4 z5
          have w := j5 x4 rx4 z5
          obtain ⟨c6, w⟩ := w
          exact r_retB rfl rfl rfl c6 (k _ _ t2 s2 rx4 c6 w)
        obtain ⟨J7, j7, w⟩ := w
        have Q7 : J7 → RR sc goal fs 382 99 [some (rv 70), some (.int (J x1))] [] h2 := by
          intro z7
          have w := j7 z7
          refine r_n (pc1 := 100) [.int (J 0)] _ rfl rfl ?_
          exact Q5  0  (rgk rfl) w
        refine r_iz (t := 99) (pc1 := 82) rfl rfl rfl (rgh _ _ _) (fun c10 => ?_) (fun c10 => ?_)
        · have w := w.1 c10
          exact Q7     w
        · have w := w.2 c10
          refine r_aldn (pc1 := 83) rfl rfl rfl ?_
          refine r_aldn (pc1 := 84) rfl rfl rfl ?_
          refine r_gfI (pc1 := 87) rfl rfl rfl t2 (lyk t2 rfl) rfl rfl ?_
          refine r_n (pc1 := 88) [.int (J 1), .int (J (hI h2 70 5)), rv 70] _ rfl rfl ?_
          refine r_isub (pc1 := 89) rfl rfl ?_
          refine r_iv rfl rfl rfl rfl rfl rfl t2 (lyk t2 rfl) rfl (xe_of (xa_r (xa_i xa_0)) rfl rfl) (r_d0 hd rfl) (a_X4_literalsOf (wr ((hI h2 70 5) - 1)) (r_d1 hd rfl) (rgw _) w t2 (fun x8 rx8 w => ?_))
          refine r_fI (pc1 := 92) rfl ?_
          have w := w rx8
          refine r_iz (t := 99) (pc1 := 95) rfl rfl rfl rx8 (fun c9 => ?_) (fun c9 => ?_)
          · have w := w.1 c9
            exact Q7     w
          · have w := w.2 c9
            refine r_n (pc1 := 96) [.int (J 1)] _ rfl rfl ?_
            refine r_goto (t := 100) rfl rfl ?_
            exact Q5  1  (rgk rfl) w
      · have w := w.2 c22
        refine r_aldn (pc1 := 11) rfl rfl rfl ?_
        refine r_gfC (pc1 := 14) (q := 76) rfl rfl rfl t2 (lyk t2 rfl) rfl rfl (lyR t2 rfl rfl) ?_
        refine r_n (pc1 := 15) [.int (J x1), rv 76] _ rfl rfl ?_
        obtain ⟨c11, w⟩ := w
        refine r_ial (pc1 := 16) rfl rfl t2 (lyk t2 rfl) rx1 c11.1 (lt_len (lyn t2 rfl) c11.2) ?_
        refine r_n (pc1 := 17) [.int (J (-1)), .int (J (hI h2 76 x1.toNat))] _ rfl rfl ?_
        obtain ⟨J13, j13, w⟩ := w
        have Q13 : ∀ (h12 : XH), HT h12 → HX h h12 → J13 h12 → RR sc goal fs 382 69 [some (rv 70), some (.int (J x1))] [] h12 := by
          intro h12 t12 s12 z13
          have w := j13 h12 t12 s12 z13
          refine r_inc (pc1 := 72) (g := fun zz => [some (rv 70), some (.int (J zz))]) rfl rfl rfl rfl (fun _ => rfl) (fun x14 ex14 rx14 => ?_)
          have w := w x14 ex14 rx14
          refine r_goto (t := 2) rfl rfl ?_
          exact ih3  x14 h12 t12 s12 rx14 (Nat.lt_of_lt_of_le w.2 (Nat.le_of_lt_succ q3)) w.1
        refine r_ic (t := 69) (pc1 := 20) rfl rfl rfl (rgh _ _ _) (rgk rfl) (fun c21 => ?_) (fun c21 => ?_)
        · have w := w.1 c21
          exact Q13   h2 t2 s2  w
        · have w := w.2 c21
          refine r_aldn (pc1 := 21) rfl rfl rfl ?_
          refine r_aldn (pc1 := 22) rfl rfl rfl ?_
          refine r_gfC (pc1 := 25) (q := 75) rfl rfl rfl t2 (lyk t2 rfl) rfl rfl (lyR t2 rfl rfl) ?_
          refine r_n (pc1 := 26) [.int (J x1), rv 75, rv 70] _ rfl rfl ?_
          refine r_ial (pc1 := 27) rfl rfl t2 (lyk t2 rfl) rx1 c11.1 (lt_len (lyn t2 rfl) c11.2) ?_
          refine r_aldn (pc1 := 28) rfl rfl rfl ?_
          refine r_gfC (pc1 := 31) (q := 76) rfl rfl rfl t2 (lyk t2 rfl) rfl rfl (lyR t2 rfl rfl) ?_
          refine r_n (pc1 := 32) [.int (J x1), rv 76, .int (J (hI h2 75 x1.toNat)), rv 70] _ rfl rfl ?_
          refine r_ial (pc1 := 33) rfl rfl t2 (lyk t2 rfl) rx1 c11.1 (lt_len (lyn t2 rfl) c11.2) ?_
          refine r_iv rfl rfl rfl rfl rfl rfl t2 (lyk t2 rfl) rfl (xe_of (xa_r (xa_i (xa_i xa_0))) rfl rfl) (r_d0 hd rfl) (a_X4_isJoinable (hI h2 75 x1.toNat) (hI h2 76 x1.toNat) (r_d1 hd rfl) (rgh _ _ _) (rgh _ _ _) w t2 (fun x15 h16 t16 u16 rx15 vx15 w => ?_))
          refine r_fI (pc1 := 36) rfl ?_
          have s16 := HX_trans s2 u16
          have w := w t16 u16
          have w := w rx15 vx15
          obtain ⟨J17, j17, w⟩ := w
          have Q17 : J17 → RR sc goal fs 382 67 [some (rv 70), some (.int (J x1))] [] h16 := by
            intro z17
            have w := j17 z17
            refine r_n (pc1 := 68) [.int (J 1)] _ rfl rfl ?_
            exact r_retB rfl rfl rfl (.inr rfl) (k _ _ t16 s16 (rgk rfl) (.inr rfl) w)
          refine r_iz (t := 67) (pc1 := 39) rfl rfl rfl rx15 (fun c20 => ?_) (fun c20 => ?_)
          · have w := w.1 c20
            exact Q17     w
          · have w := w.2 c20
            refine r_aldn (pc1 := 40) rfl rfl rfl ?_
            refine r_gfL (pc1 := 43) rfl rfl rfl t16 (lyk t16 rfl) rfl rfl ?_
            refine r_aldn (pc1 := 44) rfl rfl rfl ?_
            refine r_gfC (pc1 := 47) (q := 73) rfl rfl rfl t16 (lyk t16 rfl) rfl rfl (lyR t16 rfl rfl) ?_
            refine r_n (pc1 := 48) [.int (J x1), rv 73, .long (G (hL h16 70 12))] _ rfl rfl ?_
            refine r_lal (pc1 := 49) rfl rfl t16 (lyk t16 rfl) rx1 c11.1 (lt_len (lyn t16 rfl) c11.2) ?_
            refine r_lc (pc2 := 50) (t := 67) (pc1 := 53) rfl rfl rfl rfl rfl (fun c19 => ?_) (fun c19 => ?_)
            · have w := w.1 c19
              exact Q17     w
            · have w := w.2 c19
              refine r_aldn (pc1 := 54) rfl rfl rfl ?_
              refine r_gfL (pc1 := 57) rfl rfl rfl t16 (lyk t16 rfl) rfl rfl ?_
              refine r_aldn (pc1 := 58) rfl rfl rfl ?_
              refine r_gfC (pc1 := 61) (q := 74) rfl rfl rfl t16 (lyk t16 rfl) rfl rfl (lyR t16 rfl rfl) ?_
              refine r_n (pc1 := 62) [.int (J x1), rv 74, .long (G (hL h16 70 13))] _ rfl rfl ?_
              refine r_lal (pc1 := 63) rfl rfl t16 (lyk t16 rfl) rx1 c11.1 (lt_len (lyn t16 rfl) c11.2) ?_
              refine r_lc (pc2 := 64) (t := 69) (pc1 := 67) rfl rfl rfl rfl rfl (fun c18 => ?_) (fun c18 => ?_)
              · have w := w.1 c18
                exact Q13   h16 t16 s16  w
              · have w := w.2 c18
                exact Q17     w
  exact Q3 _  0 h t0 (HX_refl h) (rgk rfl) (Nat.lt_succ_self _) w
def w_X12_errors  (K : Int → XH → Prop) (h : XH) : Prop :=
  (w_X12_know 4 (fun h1 => HT h1 → HX h h1 → (w_X12_fitting (fun x2 h3 => HT h3 → HX h1 h3 → rg x2 → (w_X9_find 0 (fun x4 h5 => HT h5 → HX h3 h5 → rg x4 → (x4 = 0 ∨ x4 = 1) → (∃ J7 : Int → Prop, (∀ (x6 : Int), rg x6 → J7 x6 → (∃ J11 : Int → XH → Prop, (∀ (x9 : Int) (h10 : XH), HT h10 → HX h h10 → rg x9 → J11 x9 h10 → (w_X4_isCoreWrong (fun x12 h13 => HT h13 → HX h10 h13 → rg x12 → (x12 = 0 ∨ x12 = 1) → (∃ J15 : Int → Prop, (∀ (x14 : Int), rg x14 → J15 x14 → (∀ x16 : Int, x16 = wr (x9 + x14) → rg x16 → w_X4_isProofWrong (fun x17 h18 => HT h18 → HX h13 h18 → rg x17 → (x17 = 0 ∨ x17 = 1) → (∃ J20 : Int → Prop, (∀ (x19 : Int), rg x19 → J20 x19 → (∀ x21 : Int, x21 = wr (x16 + x19) → rg x21 → K x21 h18)) ∧ ((x17 = 0 → (J20 0)) ∧ (¬ (x17 = 0) → (J20 1))))) h13)) ∧ ((x12 = 0 → (J15 0)) ∧ (¬ (x12 = 0) → (J15 1))))) h10)) ∧ ((x4 = 0 → J11 x6 h5) ∧ (¬ (x4 = 0) → (w_X9_settle (fun h24 => HT h24 → HX h5 h24 → (w_X12_isBeaten (hL h24 68 3) 0 (fun x25 => rg x25 → (x25 = 0 ∨ x25 = 1) → (∃ J27 : Int → Prop, (∀ (x26 : Int), rg x26 → J27 x26 → (∀ x28 : Int, x28 = wr (x6 + x26) → rg x28 → w_X9_find 1 (fun x29 h30 => HT h30 → HX h24 h30 → rg x29 → (x29 = 0 ∨ x29 = 1) → (w_X9_settle (fun h31 => HT h31 → HX h30 h31 → (w_X12_isBeaten (hL h31 68 3) 1 (fun x32 => rg x32 → (x32 = 0 ∨ x32 = 1) → (∃ J34 : Int → Prop, (∀ (x33 : Int), rg x33 → J34 x33 → (∀ x35 : Int, x35 = wr (x28 + x33) → rg x35 → J11 x35 h31)) ∧ ((x32 = 0 → (J34 0)) ∧ (¬ (x32 = 0) → (J34 1))))) h31)) h30)) h24)) ∧ ((x25 = 0 → (J27 0)) ∧ (¬ (x25 = 0) → (J27 1))))) h24)) h5))))) ∧ ∃ J39 : Prop, (J39 → (J7 0)) ∧ ((x2 = (-1) → J39) ∧ (¬ (x2 = (-1)) → (∃ J41 : Int → Prop, (∀ (x40 : Int), rg x40 → J41 x40 → (((x4 = x40 → J39) ∧ (¬ (x4 = x40) → (J7 1))))) ∧ ((x2 ≤ 0 → (J41 0)) ∧ (¬ (x2 ≤ 0) → (J41 1)))))))) h3)) h1)) h)
set_option maxHeartbeats 4000000 in
theorem a_X12_errors {sc : Nat × (Nat → Int32)} {goal : XO → XH → Prop} {fs : List XF} {h : XH}  {K : Int → XH → Prop} (hd : fs.length + 8 ≤ 1000) (w : w_X12_errors  K h) (t0 : HT h) (k : ∀ (r : Int) (h1 : XH), HT h1 → HX h h1 → rg r → K r h1 → XFin xP sc goal fs (.inl (some (.int (J r)))) h1) : RR sc goal fs 103 0 [some (rv 2), none, none, none] [] h := by
  unfold w_X12_errors at w
  refine r_aldn (pc1 := 1) rfl rfl rfl ?_
  refine r_n (pc1 := 2) [.int (J 4), rv 2] _ rfl rfl ?_
  refine r_iv rfl rfl rfl rfl rfl rfl t0 (lyk t0 rfl) rfl (xe_of (xa_r (xa_i xa_0)) rfl rfl) (r_d0 hd rfl) (a_X12_know 4 (r_d1 hd rfl) (rgk rfl) w t0 (fun h1 t1 u1 w => ?_))
  refine r_fV (pc1 := 5) rfl ?_
  have s1 := HX_trans (HX_refl h) u1
  have w := w t1 u1
  refine r_aldn (pc1 := 6) rfl rfl rfl ?_
  refine r_iv rfl rfl rfl rfl rfl rfl t1 (lyk t1 rfl) rfl (xe_of (xa_r xa_0) rfl rfl) (r_d0 hd rfl) (a_X12_fitting  (r_d1 hd rfl)  w t1 (fun x2 h3 t3 u3 rx2 w => ?_))
  refine r_fI (pc1 := 9) rfl ?_
  have s3 := HX_trans s1 u3
  have w := w t3 u3
  have w := w rx2
  refine r_istn (pc1 := 10) (ls1 := [some (rv 2), some (.int (J x2)), none, none]) rfl rfl rfl rfl ?_
  refine r_aldn (pc1 := 11) rfl rfl rfl ?_
  refine r_gfC (pc1 := 14) (q := 68) rfl rfl rfl t3 (lyk t3 rfl) rfl rfl (lyR t3 rfl rfl) ?_
  refine r_n (pc1 := 15) [.int (J 0), rv 68] _ rfl rfl ?_
  refine r_iv rfl rfl rfl rfl rfl rfl t3 (lyk t3 rfl) rfl (xe_of (xa_r (xa_i xa_0)) rfl rfl) (r_d0 hd rfl) (a_X9_find 0 (r_d1 hd rfl) (rgk rfl) w t3 (fun x4 h5 t5 u5 rx4 vx4 w => ?_))
  refine r_fI (pc1 := 18) rfl ?_
  have s5 := HX_trans s3 u5
  have w := w t5 u5
  have w := w rx4 vx4
  refine r_istn (pc1 := 19) (ls1 := [some (rv 2), some (.int (J x2)), some (.int (J x4)), none]) rfl rfl rfl rfl ?_
  refine r_n (pc1 := 20) [.int (J x2)] _ rfl rfl ?_
  refine r_n (pc1 := 21) [.int (J (-1)), .int (J x2)] _ rfl rfl ?_
  obtain ⟨J7, j7, w⟩ := w
  have Q7 : ∀ (x6 : Int), rg x6 → J7 x6 → RR sc goal fs 103 42 [some (rv 2), some (.int (J x2)), some (.int (J x4)), none] [.int (J x6)] h5 := by
    intro x6 rx6 z7
    have w := j7 x6 rx6 z7
    refine r_istn (pc1 := 43) (ls1 := [some (rv 2), some (.int (J x2)), some (.int (J x4)), some (.int (J x6))]) rfl rfl rfl rfl ?_
    refine r_n (pc1 := 44) [.int (J x4)] _ rfl rfl ?_
    obtain ⟨J11, j11, w⟩ := w
    have Q11 : ∀ (d8 : Option Value) (x9 : Int) (h10 : XH), HT h10 → HX h h10 → rg x9 → J11 x9 h10 → RR sc goal fs 103 116 [some (rv 2), some (.int (J x2)), d8, some (.int (J x9))] [] h10 := by
      intro d8 x9 h10 t10 s10 rx9 z11
      have w := j11 x9 h10 t10 s10 rx9 z11
      refine r_n (pc1 := 117) [.int (J x9)] _ rfl rfl ?_
      refine r_aldn (pc1 := 118) rfl rfl rfl ?_
      refine r_gfC (pc1 := 121) (q := 70) rfl rfl rfl t10 (lyk t10 rfl) rfl rfl (lyR t10 rfl rfl) ?_
      refine r_iv rfl rfl rfl rfl rfl rfl t10 (lyk t10 rfl) rfl (xe_of (xa_r xa_0) rfl rfl) (r_d0 hd rfl) (a_X4_isCoreWrong  (r_d1 hd rfl)  w t10 (fun x12 h13 t13 u13 rx12 vx12 w => ?_))
      refine r_fI (pc1 := 124) rfl ?_
      have s13 := HX_trans s10 u13
      have w := w t13 u13
      have w := w rx12 vx12
      obtain ⟨J15, j15, w⟩ := w
      have Q15 : ∀ (x14 : Int), rg x14 → J15 x14 → RR sc goal fs 103 132 [some (rv 2), some (.int (J x2)), d8, some (.int (J x9))] [.int (J x14), .int (J x9)] h13 := by
        intro x14 rx14 z15
        have w := j15 x14 rx14 z15
        refine r_iadd (pc1 := 133) rfl rfl ?_
        refine r_vI (rgw _) (fun x16 ex16 rx16 => ?_)
        have w := w x16 ex16 rx16
        refine r_istn (pc1 := 134) (ls1 := [some (rv 2), some (.int (J x2)), (dcl d8), some (.int (J x16))]) rfl rfl rfl (xput1_d rfl rfl) ?_
        refine r_n (pc1 := 135) [.int (J x16)] _ rfl rfl ?_
        refine r_aldn (pc1 := 136) rfl rfl rfl ?_
        refine r_gfC (pc1 := 139) (q := 70) rfl rfl rfl t13 (lyk t13 rfl) rfl rfl (lyR t13 rfl rfl) ?_
        refine r_iv rfl rfl rfl rfl rfl rfl t13 (lyk t13 rfl) rfl (xe_of (xa_r xa_0) rfl rfl) (r_d0 hd rfl) (a_X4_isProofWrong  (r_d1 hd rfl)  w t13 (fun x17 h18 t18 u18 rx17 vx17 w => ?_))
        refine r_fI (pc1 := 142) rfl ?_
        have s18 := HX_trans s13 u18
        have w := w t18 u18
        have w := w rx17 vx17
        obtain ⟨J20, j20, w⟩ := w
        have Q20 : ∀ (x19 : Int), rg x19 → J20 x19 → RR sc goal fs 103 150 [some (rv 2), some (.int (J x2)), (dcl d8), some (.int (J x16))] [.int (J x19), .int (J x16)] h18 := by
          intro x19 rx19 z20
          have w := j20 x19 rx19 z20
          refine r_iadd (pc1 := 151) rfl rfl ?_
          refine r_vI (rgw _) (fun x21 ex21 rx21 => ?_)
          have w := w x21 ex21 rx21
          refine r_istn (pc1 := 152) (ls1 := [some (rv 2), some (.int (J x2)), (dcl (dcl d8)), some (.int (J x21))]) rfl rfl rfl (xput1_d rfl rfl) ?_
          refine r_n (pc1 := 153) [.int (J x21)] _ rfl rfl ?_
          exact r_retI rfl rfl rfl (k _ _ t18 s18 rx21 w)
        refine r_iz (t := 149) (pc1 := 145) rfl rfl rfl rx17 (fun c22 => ?_) (fun c22 => ?_)
        · have w := w.1 c22
          refine r_n (pc1 := 150) [.int (J 0), .int (J x16)] _ rfl rfl ?_
          exact Q20  0  (rgk rfl) w
        · have w := w.2 c22
          refine r_n (pc1 := 146) [.int (J 1), .int (J x16)] _ rfl rfl ?_
          refine r_goto (t := 150) rfl rfl ?_
          exact Q20  1  (rgk rfl) w
      refine r_iz (t := 131) (pc1 := 127) rfl rfl rfl rx12 (fun c23 => ?_) (fun c23 => ?_)
      · have w := w.1 c23
        refine r_n (pc1 := 132) [.int (J 0), .int (J x9)] _ rfl rfl ?_
        exact Q15  0  (rgk rfl) w
      · have w := w.2 c23
        refine r_n (pc1 := 128) [.int (J 1), .int (J x9)] _ rfl rfl ?_
        refine r_goto (t := 132) rfl rfl ?_
        exact Q15  1  (rgk rfl) w
    refine r_iz (t := 116) (pc1 := 47) rfl rfl rfl rx4 (fun c38 => ?_) (fun c38 => ?_)
    · have w := w.1 c38
      exact Q11 _ x6 h5 t5 s5 rx6 w
    · have w := w.2 c38
      refine r_aldn (pc1 := 48) rfl rfl rfl ?_
      refine r_gfC (pc1 := 51) (q := 68) rfl rfl rfl t5 (lyk t5 rfl) rfl rfl (lyR t5 rfl rfl) ?_
      refine r_iv rfl rfl rfl rfl rfl rfl t5 (lyk t5 rfl) rfl (xe_of (xa_r xa_0) rfl rfl) (r_d0 hd rfl) (a_X9_settle  (r_d1 hd rfl)  w t5 (fun h24 t24 u24 w => ?_))
      refine r_fV (pc1 := 54) rfl ?_
      have s24 := HX_trans s5 u24
      have w := w t24 u24
      refine r_n (pc1 := 55) [.int (J x6)] _ rfl rfl ?_
      refine r_aldn (pc1 := 56) rfl rfl rfl ?_
      refine r_aldn (pc1 := 57) rfl rfl rfl ?_
      refine r_gfC (pc1 := 60) (q := 68) rfl rfl rfl t24 (lyk t24 rfl) rfl rfl (lyR t24 rfl rfl) ?_
      refine r_gfL (pc1 := 63) rfl rfl rfl t24 (lyk t24 rfl) rfl rfl ?_
      refine r_n (pc1 := 64) [.int (J 0), .long (G (hL h24 68 3)), rv 2, .int (J x6)] _ rfl rfl ?_
      refine r_iv rfl rfl rfl rfl rfl rfl t24 (lyk t24 rfl) rfl (xe_of (xa_r (xa_l (xa_i xa_0))) rfl rfl) (r_d0 hd rfl) (a_X12_isBeaten (hL h24 68 3) 0 (r_d1 hd rfl) (rgk rfl) w t24 (fun x25 rx25 vx25 w => ?_))
      refine r_fI (pc1 := 67) rfl ?_
      have w := w rx25 vx25
      obtain ⟨J27, j27, w⟩ := w
      have Q27 : ∀ (x26 : Int), rg x26 → J27 x26 → RR sc goal fs 103 75 [some (rv 2), some (.int (J x2)), some (.int (J x4)), some (.int (J x6))] [.int (J x26), .int (J x6)] h24 := by
        intro x26 rx26 z27
        have w := j27 x26 rx26 z27
        refine r_iadd (pc1 := 76) rfl rfl ?_
        refine r_vI (rgw _) (fun x28 ex28 rx28 => ?_)
        have w := w x28 ex28 rx28
        refine r_istn (pc1 := 77) (ls1 := [some (rv 2), some (.int (J x2)), some (.int (J x4)), some (.int (J x28))]) rfl rfl rfl rfl ?_
        refine r_aldn (pc1 := 78) rfl rfl rfl ?_
        refine r_gfC (pc1 := 81) (q := 68) rfl rfl rfl t24 (lyk t24 rfl) rfl rfl (lyR t24 rfl rfl) ?_
        refine r_n (pc1 := 82) [.int (J 1), rv 68] _ rfl rfl ?_
        refine r_iv rfl rfl rfl rfl rfl rfl t24 (lyk t24 rfl) rfl (xe_of (xa_r (xa_i xa_0)) rfl rfl) (r_d0 hd rfl) (a_X9_find 1 (r_d1 hd rfl) (rgk rfl) w t24 (fun x29 h30 t30 u30 rx29 vx29 w => ?_))
        refine r_fI (pc1 := 85) rfl ?_
        have s30 := HX_trans s24 u30
        have w := w t30 u30
        have w := w rx29 vx29
        refine r_n (pc1 := 86) [] _ rfl rfl ?_
        refine r_aldn (pc1 := 87) rfl rfl rfl ?_
        refine r_gfC (pc1 := 90) (q := 68) rfl rfl rfl t30 (lyk t30 rfl) rfl rfl (lyR t30 rfl rfl) ?_
        refine r_iv rfl rfl rfl rfl rfl rfl t30 (lyk t30 rfl) rfl (xe_of (xa_r xa_0) rfl rfl) (r_d0 hd rfl) (a_X9_settle  (r_d1 hd rfl)  w t30 (fun h31 t31 u31 w => ?_))
        refine r_fV (pc1 := 93) rfl ?_
        have s31 := HX_trans s30 u31
        have w := w t31 u31
        refine r_n (pc1 := 94) [.int (J x28)] _ rfl rfl ?_
        refine r_aldn (pc1 := 95) rfl rfl rfl ?_
        refine r_aldn (pc1 := 96) rfl rfl rfl ?_
        refine r_gfC (pc1 := 99) (q := 68) rfl rfl rfl t31 (lyk t31 rfl) rfl rfl (lyR t31 rfl rfl) ?_
        refine r_gfL (pc1 := 102) rfl rfl rfl t31 (lyk t31 rfl) rfl rfl ?_
        refine r_n (pc1 := 103) [.int (J 1), .long (G (hL h31 68 3)), rv 2, .int (J x28)] _ rfl rfl ?_
        refine r_iv rfl rfl rfl rfl rfl rfl t31 (lyk t31 rfl) rfl (xe_of (xa_r (xa_l (xa_i xa_0))) rfl rfl) (r_d0 hd rfl) (a_X12_isBeaten (hL h31 68 3) 1 (r_d1 hd rfl) (rgk rfl) w t31 (fun x32 rx32 vx32 w => ?_))
        refine r_fI (pc1 := 106) rfl ?_
        have w := w rx32 vx32
        obtain ⟨J34, j34, w⟩ := w
        have Q34 : ∀ (x33 : Int), rg x33 → J34 x33 → RR sc goal fs 103 114 [some (rv 2), some (.int (J x2)), some (.int (J x4)), some (.int (J x28))] [.int (J x33), .int (J x28)] h31 := by
          intro x33 rx33 z34
          have w := j34 x33 rx33 z34
          refine r_iadd (pc1 := 115) rfl rfl ?_
          refine r_vI (rgw _) (fun x35 ex35 rx35 => ?_)
          have w := w x35 ex35 rx35
          refine r_istn (pc1 := 116) (ls1 := [some (rv 2), some (.int (J x2)), some (.int (J x4)), some (.int (J x35))]) rfl rfl rfl rfl ?_
          exact Q11 _ x35 h31 t31 s31 rx35 w
        refine r_iz (t := 113) (pc1 := 109) rfl rfl rfl rx32 (fun c36 => ?_) (fun c36 => ?_)
        · have w := w.1 c36
          refine r_n (pc1 := 114) [.int (J 0), .int (J x28)] _ rfl rfl ?_
          exact Q34  0  (rgk rfl) w
        · have w := w.2 c36
          refine r_n (pc1 := 110) [.int (J 1), .int (J x28)] _ rfl rfl ?_
          refine r_goto (t := 114) rfl rfl ?_
          exact Q34  1  (rgk rfl) w
      refine r_iz (t := 74) (pc1 := 70) rfl rfl rfl rx25 (fun c37 => ?_) (fun c37 => ?_)
      · have w := w.1 c37
        refine r_n (pc1 := 75) [.int (J 0), .int (J x6)] _ rfl rfl ?_
        exact Q27  0  (rgk rfl) w
      · have w := w.2 c37
        refine r_n (pc1 := 71) [.int (J 1), .int (J x6)] _ rfl rfl ?_
        refine r_goto (t := 75) rfl rfl ?_
        exact Q27  1  (rgk rfl) w
  obtain ⟨J39, j39, w⟩ := w
  have Q39 : J39 → RR sc goal fs 103 41 [some (rv 2), some (.int (J x2)), some (.int (J x4)), none] [] h5 := by
    intro z39
    have w := j39 z39
    refine r_n (pc1 := 42) [.int (J 0)] _ rfl rfl ?_
    exact Q7  0  (rgk rfl) w
  refine r_ic (t := 41) (pc1 := 24) rfl rfl rfl rx2 (rgk rfl) (fun c44 => ?_) (fun c44 => ?_)
  · have w := w.1 c44
    exact Q39     w
  · have w := w.2 c44
    refine r_n (pc1 := 25) [.int (J x4)] _ rfl rfl ?_
    refine r_n (pc1 := 26) [.int (J x2), .int (J x4)] _ rfl rfl ?_
    obtain ⟨J41, j41, w⟩ := w
    have Q41 : ∀ (x40 : Int), rg x40 → J41 x40 → RR sc goal fs 103 34 [some (rv 2), some (.int (J x2)), some (.int (J x4)), none] [.int (J x40), .int (J x4)] h5 := by
      intro x40 rx40 z41
      have w := j41 x40 rx40 z41
      refine r_ic (t := 41) (pc1 := 37) rfl rfl rfl rx4 rx40 (fun c42 => ?_) (fun c42 => ?_)
      · have w := w.1 c42
        exact Q39     w
      · have w := w.2 c42
        refine r_n (pc1 := 38) [.int (J 1)] _ rfl rfl ?_
        refine r_goto (t := 42) rfl rfl ?_
        exact Q7  1  (rgk rfl) w
    refine r_iz (t := 33) (pc1 := 29) rfl rfl rfl rx2 (fun c43 => ?_) (fun c43 => ?_)
    · have w := w.1 c43
      refine r_n (pc1 := 34) [.int (J 0), .int (J x4)] _ rfl rfl ?_
      exact Q41  0  (rgk rfl) w
    · have w := w.2 c43
      refine r_n (pc1 := 30) [.int (J 1), .int (J x4)] _ rfl rfl ?_
      refine r_goto (t := 34) rfl rfl ?_
      exact Q41  1  (rgk rfl) w
def w_X14_coreErrors  (K : Int → XH → Prop) (h : XH) : Prop :=
  (w_X14_findCore (fun h1 => HT h1 → HX h h1 → ((∃ (I4 : Int → XH → Prop) (m4 : Int → XH → Nat), I4 0 h1 ∧ ∀ (x2 : Int) (h3 : XH), HT h3 → HX h h3 → rg x2 → I4 x2 h3 → (((hI h3 437 29 ≤ x2 → (∀ a5 : Nat, a5 = hR h3 437 45 → hk h3 a5 = 100 ∧ (hn h3 a5 : Int) < 2147483648 ∧ ∀ x8 : Int, x8 = (hn h3 a5 : Int) → rg x8 → (∃ (I12 : Int → XH → Prop) (m12 : Int → XH → Nat), I12 0 h3 ∧ ∀ (x9 : Int) (h11 : XH), HT h11 → HX h h11 → rg x9 → I12 x9 h11 → (((x8 ≤ x9 → (∀ h13 : XH, h13 = sI h11 437 32 0 → HT h13 → HX h11 h13 → w_X14_search (0#64) (0#64) (fun x14 h15 => HT h15 → HX h13 h15 → rg x14 → (x14 = 0 ∨ x14 = 1) → (∀ a16 : Nat, a16 = hR h15 437 45 → hk h15 a16 = 100 ∧ (hn h15 a16 : Int) < 2147483648 ∧ ∀ x19 : Int, x19 = (hn h15 a16 : Int) → rg x19 → (∃ (I24 : Int → Int → XH → Prop) (m24 : Int → Int → XH → Nat), I24 x14 0 h15 ∧ ∀ (x20 : Int) (x21 : Int) (h23 : XH), HT h23 → HX h h23 → rg x20 → rg x21 → I24 x20 x21 h23 → (((x19 ≤ x21 → (∀ h25 : XH, h25 = sI h23 437 32 1 → HT h25 → HX h23 h25 → ∃ J27 : Int → Prop, (∀ (x26 : Int), rg x26 → J27 x26 → (K x26 h25)) ∧ ((x20 = 0 → (J27 0)) ∧ (¬ (x20 = 0) → (J27 1))))) ∧ (¬ (x19 ≤ x21) → (hk h23 a16 = 100 ∧ (0 ≤ x21 ∧ x21 < (hn h23 a16 : Int)) ∧ ∀ x31 : Int, x31 = hI h23 a16 x21.toNat → rg x31 → hk h23 (hR h23 437 31) = 102 ∧ (0 ≤ x31 ∧ x31 < (hn h23 (hR h23 437 31) : Int)) ∧ ∀ h34 : XH, h34 = sI h23 (hR h23 437 31) x31.toNat 0 → HT h34 → HX h23 h34 → ∃ J37 : Int → XH → Prop, (∀ (x35 : Int) (h36 : XH), HT h36 → HX h h36 → rg x35 → J37 x35 h36 → (hk h36 (hR h36 437 31) = 102 ∧ (0 ≤ x31 ∧ x31 < (hn h36 (hR h36 437 31) : Int)) ∧ ∀ h40 : XH, h40 = sI h36 (hR h36 437 31) x31.toNat 1 → HT h40 → HX h36 h40 → ∀ x41 : Int, x41 = wr (x21 + 1) → rg x41 → (I24 x35 x41 h40 ∧ m24 x35 x41 h40 < m24 x20 x21 h23))) ∧ ∃ J43 : XH → Prop, (∀ (h42 : XH), HT h42 → HX h h42 → J43 h42 → (J37 1 h42)) ∧ ((¬ x20 = 0 → J43 h34) ∧ (¬ (¬ x20 = 0) → (w_X14_search (0#64) (0#64) (fun x44 h45 => HT h45 → HX h34 h45 → rg x44 → (x44 = 0 ∨ x44 = 1) → (((¬ x44 = 0 → (J37 0 h45)) ∧ (¬ (¬ x44 = 0) → J43 h45)))) h34)))))))))) h13)) ∧ (¬ (x8 ≤ x9) → (hk h11 a5 = 100 ∧ (0 ≤ x9 ∧ x9 < (hn h11 a5 : Int)) ∧ ∀ x51 : Int, x51 = hI h11 a5 x9.toNat → rg x51 → hk h11 (hR h11 437 31) = 102 ∧ (0 ≤ x51 ∧ x51 < (hn h11 (hR h11 437 31) : Int)) ∧ ∀ h54 : XH, h54 = sI h11 (hR h11 437 31) x51.toNat 1 → HT h54 → HX h11 h54 → ∀ x55 : Int, x55 = wr (x9 + 1) → rg x55 → (I12 x55 h54 ∧ m12 x55 h54 < m12 x9 h11)))))))) ∧ (¬ (hI h3 437 29 ≤ x2) → (hk h3 (hR h3 437 31) = 102 ∧ (0 ≤ x2 ∧ x2 < (hn h3 (hR h3 437 31) : Int)) ∧ ∀ h59 : XH, h59 = sI h3 (hR h3 437 31) x2.toNat 0 → HT h59 → HX h3 h59 → ∀ x60 : Int, x60 = wr (x2 + 1) → rg x60 → (I4 x60 h59 ∧ m4 x60 h59 < m4 x2 h3)))))))) h)
set_option maxHeartbeats 4000000 in
theorem a_X14_coreErrors {sc : Nat × (Nat → Int32)} {goal : XO → XH → Prop} {fs : List XF} {h : XH}  {K : Int → XH → Prop} (hd : fs.length + 78 ≤ 1000) (w : w_X14_coreErrors  K h) (t0 : HT h) (k : ∀ (r : Int) (h1 : XH), HT h1 → HX h h1 → rg r → K r h1 → XFin xP sc goal fs (.inl (some (.int (J r)))) h1) : RR sc goal fs 189 0 [some (rv 437), none, none, none, none, none] [] h := by
  unfold w_X14_coreErrors at w
  refine r_aldn (pc1 := 1) rfl rfl rfl ?_
  refine r_iv rfl rfl rfl rfl rfl rfl t0 (lyk t0 rfl) rfl (xe_of (xa_r xa_0) rfl rfl) (r_d0 hd rfl) (a_X14_findCore  (r_d1 hd rfl)  w t0 (fun h1 t1 u1 w => ?_))
  refine r_fV (pc1 := 4) rfl ?_
  have s1 := HX_trans (HX_refl h) u1
  have w := w t1 u1
  refine r_n (pc1 := 5) [.int (J 0)] _ rfl rfl ?_
  refine r_istn (pc1 := 6) (ls1 := [some (rv 437), some (.int (J 0)), none, none, none, none]) rfl rfl rfl rfl ?_
  obtain ⟨I4, m4, w, y4⟩ := w
  have Q4 : ∀ (n : Nat)  (x2 : Int) (h3 : XH), HT h3 → HX h h3 → rg x2 → m4 x2 h3 < n → I4 x2 h3 → RR sc goal fs 189 6 [some (rv 437), some (.int (J x2)), none, none, none, none] [] h3 := by
    intro n
    induction n with
    | zero => intro x2 h3 t3 s3 rx2 q4 _; exact absurd q4 (Nat.not_lt_zero _)
    | succ n ih4 =>
      intro x2 h3 t3 s3 rx2 q4 z4
      have w := y4 x2 h3 t3 s3 rx2 z4
      refine r_n (pc1 := 7) [.int (J x2)] _ rfl rfl ?_
      refine r_aldn (pc1 := 8) rfl rfl rfl ?_
      refine r_gfI (pc1 := 11) rfl rfl rfl t3 (lyk t3 rfl) rfl rfl ?_
      refine r_ic (t := 27) (pc1 := 14) rfl rfl rfl rx2 (rgh _ _ _) (fun c61 => ?_) (fun c61 => ?_)
      · have w := w.1 c61
        refine r_aldn (pc1 := 28) rfl rfl rfl ?_
        refine r_gfR (pc1 := 31) rfl rfl rfl t3 (lyk t3 rfl) rfl rfl ?_
        refine r_vR (fun a5 ea5 => ?_)
        have w := w a5 ea5
        refine r_astn (pc1 := 32) (ls1 := [some (rv 437), some (rv a5), none, none, none, none]) rfl rfl rfl rfl ?_
        refine r_aldn (pc1 := 33) rfl rfl rfl ?_
        obtain ⟨c6, w⟩ := w
        obtain ⟨c7, w⟩ := w
        refine r_len (pc1 := 34) (u := 0) rfl rfl t3 c6 (by decide) (fun rc7 => ?_) c7
        refine r_vI rc7 (fun x8 ex8 rx8 => ?_)
        have w := w x8 ex8 rx8
        refine r_istn (pc1 := 35) (ls1 := [some (rv 437), some (rv a5), some (.int (J x8)), none, none, none]) rfl rfl rfl (xput1_rv rfl rfl) ?_
        refine r_n (pc1 := 36) [.int (J 0)] _ rfl rfl ?_
        refine r_istn (pc1 := 37) (ls1 := [some (rv 437), some (rv a5), some (.int (J x8)), some (.int (J 0)), none, none]) rfl rfl rfl rfl ?_
        obtain ⟨I12, m12, w, y12⟩ := w
        have Q12 : ∀ (n : Nat) (d10 : Option Value) (x9 : Int) (h11 : XH), HT h11 → HX h h11 → rg x9 → m12 x9 h11 < n → I12 x9 h11 → RR sc goal fs 189 37 [some (rv 437), some (rv a5), some (.int (J x8)), some (.int (J x9)), d10, none] [] h11 := by
          intro n
          induction n with
          | zero => intro d10 x9 h11 t11 s11 rx9 q12 _; exact absurd q12 (Nat.not_lt_zero _)
          | succ n ih12 =>
            intro d10 x9 h11 t11 s11 rx9 q12 z12
            have w := y12 x9 h11 t11 s11 rx9 z12
            refine r_n (pc1 := 38) [.int (J x9)] _ rfl rfl ?_
            refine r_n (pc1 := 39) [.int (J x8), .int (J x9)] _ rfl rfl ?_
            refine r_ic (t := 61) (pc1 := 42) rfl rfl rfl rx9 rx8 (fun c56 => ?_) (fun c56 => ?_)
            · have w := w.1 c56
              refine r_aldn (pc1 := 62) rfl rfl rfl ?_
              refine r_n (pc1 := 63) [.int (J 0), rv 437] _ rfl rfl ?_
              refine r_pfB (pc1 := 66) rfl rfl rfl t11 (lyk t11 rfl) rfl rfl rfl (.inl rfl) (fun h13 eh13 t13 u13 => ?_)
              have w := w h13 eh13 t13 u13
              have s13 := HX_trans s11 u13
              refine r_aldn (pc1 := 67) rfl rfl rfl ?_
              refine r_n (pc1 := 68) [.long (G (0#64)), rv 437] _ rfl rfl ?_
              refine r_n (pc1 := 69) [.long (G (0#64)), .long (G (0#64)), rv 437] _ rfl rfl ?_
              refine r_iv rfl rfl rfl rfl rfl rfl t13 (lyk t13 rfl) rfl (xe_of (xa_r (xa_l (xa_l xa_0))) rfl rfl) (r_d0 hd rfl) (a_X14_search (0#64) (0#64) (r_d1 hd rfl)  w t13 (fun x14 h15 t15 u15 rx14 vx14 w => ?_))
              refine r_fI (pc1 := 72) rfl ?_
              have s15 := HX_trans s13 u15
              have w := w t15 u15
              have w := w rx14 vx14
              refine r_istn (pc1 := 73) (ls1 := [some (rv 437), some (.int (J x14)), some (.int (J x8)), some (.int (J x9)), d10, none]) rfl rfl rfl rfl ?_
              refine r_aldn (pc1 := 74) rfl rfl rfl ?_
              refine r_gfR (pc1 := 77) rfl rfl rfl t15 (lyk t15 rfl) rfl rfl ?_
              refine r_vR (fun a16 ea16 => ?_)
              have w := w a16 ea16
              refine r_astn (pc1 := 78) (ls1 := [some (rv 437), some (.int (J x14)), some (rv a16), some (.int (J x9)), d10, none]) rfl rfl rfl rfl ?_
              refine r_aldn (pc1 := 79) rfl rfl rfl ?_
              obtain ⟨c17, w⟩ := w
              obtain ⟨c18, w⟩ := w
              refine r_len (pc1 := 80) (u := 0) rfl rfl t15 c17 (by decide) (fun rc18 => ?_) c18
              refine r_vI rc18 (fun x19 ex19 rx19 => ?_)
              have w := w x19 ex19 rx19
              refine r_istn (pc1 := 81) (ls1 := [some (rv 437), some (.int (J x14)), some (rv a16), some (.int (J x19)), d10, none]) rfl rfl rfl (xput1_rv rfl rfl) ?_
              refine r_n (pc1 := 82) [.int (J 0)] _ rfl rfl ?_
              refine r_ist (pc1 := 84) (ls1 := [some (rv 437), some (.int (J x14)), some (rv a16), some (.int (J x19)), some (.int (J 0)), none]) rfl rfl rfl rfl ?_
              obtain ⟨I24, m24, w, y24⟩ := w
              have Q24 : ∀ (n : Nat) (d22 : Option Value) (x20 : Int) (x21 : Int) (h23 : XH), HT h23 → HX h h23 → rg x20 → rg x21 → m24 x20 x21 h23 < n → I24 x20 x21 h23 → RR sc goal fs 189 84 [some (rv 437), some (.int (J x20)), some (rv a16), some (.int (J x19)), some (.int (J x21)), d22] [] h23 := by
                intro n
                induction n with
                | zero => intro d22 x20 x21 h23 t23 s23 rx20 rx21 q24 _; exact absurd q24 (Nat.not_lt_zero _)
                | succ n ih24 =>
                  intro d22 x20 x21 h23 t23 s23 rx20 rx21 q24 z24
                  have w := y24 x20 x21 h23 t23 s23 rx20 rx21 z24
                  refine r_n (pc1 := 86) [.int (J x21)] _ rfl rfl ?_
                  refine r_n (pc1 := 87) [.int (J x19), .int (J x21)] _ rfl rfl ?_
                  refine r_ic (t := 137) (pc1 := 90) rfl rfl rfl rx21 rx19 (fun c48 => ?_) (fun c48 => ?_)
                  · have w := w.1 c48
                    refine r_aldn (pc1 := 138) rfl rfl rfl ?_
                    refine r_n (pc1 := 139) [.int (J 1), rv 437] _ rfl rfl ?_
                    refine r_pfB (pc1 := 142) rfl rfl rfl t23 (lyk t23 rfl) rfl rfl rfl (.inr rfl) (fun h25 eh25 t25 u25 => ?_)
                    have w := w h25 eh25 t25 u25
                    have s25 := HX_trans s23 u25
                    refine r_n (pc1 := 143) [.int (J x20)] _ rfl rfl ?_
                    obtain ⟨J27, j27, w⟩ := w
                    have Q27 : ∀ (x26 : Int), rg x26 → J27 x26 → RR sc goal fs 189 151 [some (rv 437), some (.int (J x20)), some (rv a16), some (.int (J x19)), some (.int (J x21)), d22] [.int (J x26)] h25 := by
                      intro x26 rx26 z27
                      have w := j27 x26 rx26 z27
                      exact r_retI rfl rfl rfl (k _ _ t25 s25 rx26 w)
                    refine r_iz (t := 150) (pc1 := 146) rfl rfl rfl rx20 (fun c28 => ?_) (fun c28 => ?_)
                    · have w := w.1 c28
                      refine r_n (pc1 := 151) [.int (J 0)] _ rfl rfl ?_
                      exact Q27  0  (rgk rfl) w
                    · have w := w.2 c28
                      refine r_n (pc1 := 147) [.int (J 1)] _ rfl rfl ?_
                      refine r_goto (t := 151) rfl rfl ?_
                      exact Q27  1  (rgk rfl) w
                  · have w := w.2 c48
                    refine r_aldn (pc1 := 91) rfl rfl rfl ?_
                    refine r_n (pc1 := 93) [.int (J x21), rv a16] _ rfl rfl ?_
                    obtain ⟨c29, w⟩ := w
                    obtain ⟨c30, w⟩ := w
                    refine r_ial (pc1 := 94) rfl rfl t23 c29 rx21 c30.1 c30.2 ?_
                    refine r_vI (rgh _ _ _) (fun x31 ex31 rx31 => ?_)
                    have w := w x31 ex31 rx31
                    refine r_ist (pc1 := 96) (ls1 := [some (rv 437), some (.int (J x20)), some (rv a16), some (.int (J x19)), some (.int (J x21)), some (.int (J x31))]) rfl rfl rfl rfl ?_
                    refine r_aldn (pc1 := 97) rfl rfl rfl ?_
                    refine r_gfR (pc1 := 100) rfl rfl rfl t23 (lyk t23 rfl) rfl rfl ?_
                    refine r_n (pc1 := 102) [.int (J x31), rv (hR h23 437 31)] _ rfl rfl ?_
                    refine r_n (pc1 := 103) [.int (J 0), .int (J x31), rv (hR h23 437 31)] _ rfl rfl ?_
                    obtain ⟨c32, w⟩ := w
                    obtain ⟨c33, w⟩ := w
                    refine r_bast (pc1 := 104) rfl rfl t23 c32 (.inl rfl) rx31 c33.1 c33.2 (fun h34 eh34 t34 u34 => ?_)
                    have w := w h34 eh34 t34 u34
                    have s34 := HX_trans s23 u34
                    refine r_n (pc1 := 105) [.int (J x20)] _ rfl rfl ?_
                    obtain ⟨J37, j37, w⟩ := w
                    have Q37 : ∀ (x35 : Int) (h36 : XH), HT h36 → HX h h36 → rg x35 → J37 x35 h36 → RR sc goal fs 189 122 [some (rv 437), some (.int (J x20)), some (rv a16), some (.int (J x19)), some (.int (J x21)), some (.int (J x31))] [.int (J x35)] h36 := by
                      intro x35 h36 t36 s36 rx35 z37
                      have w := j37 x35 h36 t36 s36 rx35 z37
                      refine r_istn (pc1 := 123) (ls1 := [some (rv 437), some (.int (J x35)), some (rv a16), some (.int (J x19)), some (.int (J x21)), some (.int (J x31))]) rfl rfl rfl rfl ?_
                      refine r_aldn (pc1 := 124) rfl rfl rfl ?_
                      refine r_gfR (pc1 := 127) rfl rfl rfl t36 (lyk t36 rfl) rfl rfl ?_
                      refine r_n (pc1 := 129) [.int (J x31), rv (hR h36 437 31)] _ rfl rfl ?_
                      refine r_n (pc1 := 130) [.int (J 1), .int (J x31), rv (hR h36 437 31)] _ rfl rfl ?_
                      obtain ⟨c38, w⟩ := w
                      obtain ⟨c39, w⟩ := w
                      refine r_bast (pc1 := 131) rfl rfl t36 c38 (.inr rfl) rx31 c39.1 c39.2 (fun h40 eh40 t40 u40 => ?_)
                      have w := w h40 eh40 t40 u40
                      have s40 := HX_trans s36 u40
                      refine r_inc (pc1 := 134) (g := fun zz => [some (rv 437), some (.int (J x35)), some (rv a16), some (.int (J x19)), some (.int (J zz)), some (.int (J x31))]) rfl rfl rfl rfl (fun _ => rfl) (fun x41 ex41 rx41 => ?_)
                      have w := w x41 ex41 rx41
                      refine r_goto (t := 84) rfl rfl ?_
                      exact ih24 _ x35 x41 h40 t40 s40 rx35 rx41 (Nat.lt_of_lt_of_le w.2 (Nat.le_of_lt_succ q24)) w.1
                    obtain ⟨J43, j43, w⟩ := w
                    have Q43 : ∀ (h42 : XH), HT h42 → HX h h42 → J43 h42 → RR sc goal fs 189 117 [some (rv 437), some (.int (J x20)), some (rv a16), some (.int (J x19)), some (.int (J x21)), some (.int (J x31))] [] h42 := by
                      intro h42 t42 s42 z43
                      have w := j43 h42 t42 s42 z43
                      refine r_n (pc1 := 118) [.int (J 1)] _ rfl rfl ?_
                      refine r_goto (t := 122) rfl rfl ?_
                      exact Q37  1 h42 t42 s42 (rgk rfl) w
                    refine r_iz (t := 117) (pc1 := 108) rfl rfl rfl rx20 (fun c47 => ?_) (fun c47 => ?_)
                    · have w := w.1 c47
                      exact Q43   h34 t34 s34  w
                    · have w := w.2 c47
                      refine r_aldn (pc1 := 109) rfl rfl rfl ?_
                      refine r_n (pc1 := 110) [.long (G (0#64)), rv 437] _ rfl rfl ?_
                      refine r_n (pc1 := 111) [.long (G (0#64)), .long (G (0#64)), rv 437] _ rfl rfl ?_
                      refine r_iv rfl rfl rfl rfl rfl rfl t34 (lyk t34 rfl) rfl (xe_of (xa_r (xa_l (xa_l xa_0))) rfl rfl) (r_d0 hd rfl) (a_X14_search (0#64) (0#64) (r_d1 hd rfl)  w t34 (fun x44 h45 t45 u45 rx44 vx44 w => ?_))
                      refine r_fI (pc1 := 114) rfl ?_
                      have s45 := HX_trans s34 u45
                      have w := w t45 u45
                      have w := w rx44 vx44
                      refine r_iz (t := 121) (pc1 := 117) rfl rfl rfl rx44 (fun c46 => ?_) (fun c46 => ?_)
                      · have w := w.1 c46
                        refine r_n (pc1 := 122) [.int (J 0)] _ rfl rfl ?_
                        exact Q37  0 h45 t45 s45 (rgk rfl) w
                      · have w := w.2 c46
                        exact Q43   h45 t45 s45  w
              exact Q24 _ _ x14 0 h15 t15 s15 rx14 (rgk rfl) (Nat.lt_succ_self _) w
            · have w := w.2 c56
              refine r_aldn (pc1 := 43) rfl rfl rfl ?_
              refine r_n (pc1 := 44) [.int (J x9), rv a5] _ rfl rfl ?_
              obtain ⟨c49, w⟩ := w
              obtain ⟨c50, w⟩ := w
              refine r_ial (pc1 := 45) rfl rfl t11 c49 rx9 c50.1 c50.2 ?_
              refine r_vI (rgh _ _ _) (fun x51 ex51 rx51 => ?_)
              have w := w x51 ex51 rx51
              refine r_ist (pc1 := 47) (ls1 := [some (rv 437), some (rv a5), some (.int (J x8)), some (.int (J x9)), some (.int (J x51)), none]) rfl rfl rfl rfl ?_
              refine r_aldn (pc1 := 48) rfl rfl rfl ?_
              refine r_gfR (pc1 := 51) rfl rfl rfl t11 (lyk t11 rfl) rfl rfl ?_
              refine r_n (pc1 := 53) [.int (J x51), rv (hR h11 437 31)] _ rfl rfl ?_
              refine r_n (pc1 := 54) [.int (J 1), .int (J x51), rv (hR h11 437 31)] _ rfl rfl ?_
              obtain ⟨c52, w⟩ := w
              obtain ⟨c53, w⟩ := w
              refine r_bast (pc1 := 55) rfl rfl t11 c52 (.inr rfl) rx51 c53.1 c53.2 (fun h54 eh54 t54 u54 => ?_)
              have w := w h54 eh54 t54 u54
              have s54 := HX_trans s11 u54
              refine r_inc (pc1 := 58) (g := fun zz => [some (rv 437), some (rv a5), some (.int (J x8)), some (.int (J zz)), some (.int (J x51)), none]) rfl rfl rfl rfl (fun _ => rfl) (fun x55 ex55 rx55 => ?_)
              have w := w x55 ex55 rx55
              refine r_goto (t := 37) rfl rfl ?_
              exact ih12 _ x55 h54 t54 s54 rx55 (Nat.lt_of_lt_of_le w.2 (Nat.le_of_lt_succ q12)) w.1
        exact Q12 _ _ 0 h3 t3 s3 (rgk rfl) (Nat.lt_succ_self _) w
      · have w := w.2 c61
        refine r_aldn (pc1 := 15) rfl rfl rfl ?_
        refine r_gfR (pc1 := 18) rfl rfl rfl t3 (lyk t3 rfl) rfl rfl ?_
        refine r_n (pc1 := 19) [.int (J x2), rv (hR h3 437 31)] _ rfl rfl ?_
        refine r_n (pc1 := 20) [.int (J 0), .int (J x2), rv (hR h3 437 31)] _ rfl rfl ?_
        obtain ⟨c57, w⟩ := w
        obtain ⟨c58, w⟩ := w
        refine r_bast (pc1 := 21) rfl rfl t3 c57 (.inl rfl) rx2 c58.1 c58.2 (fun h59 eh59 t59 u59 => ?_)
        have w := w h59 eh59 t59 u59
        have s59 := HX_trans s3 u59
        refine r_inc (pc1 := 24) (g := fun zz => [some (rv 437), some (.int (J zz)), none, none, none, none]) rfl rfl rfl rfl (fun _ => rfl) (fun x60 ex60 rx60 => ?_)
        have w := w x60 ex60 rx60
        refine r_goto (t := 6) rfl rfl ?_
        exact ih4  x60 h59 t59 s59 rx60 (Nat.lt_of_lt_of_le w.2 (Nat.le_of_lt_succ q4)) w.1
  exact Q4 _  0 h1 t1 s1 (rgk rfl) (Nat.lt_succ_self _) w
def w_X14_proofErrors  (K : Int → XH → Prop) (h : XH) : Prop :=
  (w_X14_findProof (fun h1 => HT h1 → HX h h1 → (∃ J3 : Int → Prop, (∀ (x2 : Int), rg x2 → J3 x2 → ((∃ (I14 : Int → Int → Prop) (m14 : Int → Int → Nat), I14 x2 0 ∧ ∀ (x4 : Int) (x5 : Int), rg x4 → rg x5 → I14 x4 x5 → (((hI h1 437 47 ≤ x5 → (∃ J16 : Int → Prop, (∀ (x15 : Int), rg x15 → J16 x15 → (K x15 h1)) ∧ ((x4 = 0 → (J16 0)) ∧ (¬ (x4 = 0) → (J16 1))))) ∧ (¬ (hI h1 437 47 ≤ x5) → ((0 ≤ x5 ∧ x5 < 200) ∧ ∃ J28 : Int → Prop, (∀ (x19 : Int), rg x19 → J28 x19 → (∀ x29 : Int, x29 = wr (x5 + 1) → rg x29 → (I14 x19 x29 ∧ m14 x19 x29 < m14 x4 x5))) ∧ ((¬ hI h1 456 x5.toNat = (-1) → (∀ x30 : Int, x30 = hI h1 456 x5.toNat → rg x30 → ∀ x31 : Int, x31 = hI h1 457 x5.toNat → rg x31 → (0 ≤ x30 ∧ x30 < 200) ∧ (0 ≤ x31 ∧ x31 < 200) ∧ ∀ b34 : BitVec 64, b34 = ((hL h1 454 x30.toNat) &&& (hL h1 455 x31.toNat)) ||| ((hL h1 455 x30.toNat) &&& (hL h1 454 x31.toNat)) → ∀ b35 : BitVec 64, b35 = ((hL h1 454 x30.toNat) ||| (hL h1 454 x31.toNat)) &&& (b34 ^^^ (18446744073709551615#64)) → ∀ b36 : BitVec 64, b36 = ((hL h1 455 x30.toNat) ||| (hL h1 455 x31.toNat)) &&& (b34 ^^^ (18446744073709551615#64)) → ∃ J38 : Int → Prop, (∀ (x37 : Int), rg x37 → J38 x37 → (J28 x37)) ∧ ∃ J39 : Prop, (J39 → (J38 1)) ∧ ((¬ x4 = 0 → J39) ∧ (¬ (¬ x4 = 0) → (w_J13_bitCount_95d88 b34 (fun x40 => rg x40 → (((¬ x40 = 1 → J39) ∧ (¬ (¬ x40 = 1) → (((¬ b35 = hL h1 454 x5.toNat → J39) ∧ (¬ (¬ b35 = hL h1 454 x5.toNat) → (((b36 = hL h1 455 x5.toNat → (J38 0)) ∧ (¬ (b36 = hL h1 455 x5.toNat) → J39)))))))))) h1))))) ∧ (¬ (¬ hI h1 456 x5.toNat = (-1)) → (J28 x4)))))))))) ∧ ∃ J47 : Prop, (J47 → (J3 0)) ∧ ((hI h1 437 47 ≤ 0 → J47) ∧ (¬ (hI h1 437 47 ≤ 0) → (∀ x48 : Int, x48 = wr ((hI h1 437 47) - 1) → rg x48 → (0 ≤ x48 ∧ x48 < 200) ∧ ∃ J50 : Prop, (J50 → (J3 1)) ∧ ((¬ hL h1 454 x48.toNat = (0#64) → J50) ∧ (¬ (¬ hL h1 454 x48.toNat = (0#64)) → (∀ x51 : Int, x51 = wr ((hI h1 437 47) - 1) → rg x51 → (0 ≤ x51 ∧ x51 < 200) ∧ ((hL h1 455 x51.toNat = (0#64) → J47) ∧ (¬ (hL h1 455 x51.toNat = (0#64)) → J50)))))))))) h)
set_option maxHeartbeats 4000000 in
theorem a_X14_proofErrors {sc : Nat × (Nat → Int32)} {goal : XO → XH → Prop} {fs : List XF} {h : XH}  {K : Int → XH → Prop} (hd : fs.length + 79 ≤ 1000) (w : w_X14_proofErrors  K h) (t0 : HT h) (k : ∀ (r : Int) (h1 : XH), HT h1 → HX h h1 → rg r → K r h1 → XFin xP sc goal fs (.inl (some (.int (J r)))) h1) : RR sc goal fs 274 0 [some (rv 437), none, none, none, none, none, none, none, none, none, none] [] h := by
  unfold w_X14_proofErrors at w
  refine r_aldn (pc1 := 1) rfl rfl rfl ?_
  refine r_iv rfl rfl rfl rfl rfl rfl t0 (lyk t0 rfl) rfl (xe_of (xa_r xa_0) rfl rfl) (r_d0 hd rfl) (a_X14_findProof  (r_d1 hd rfl)  w t0 (fun h1 t1 u1 w => ?_))
  refine r_fV (pc1 := 4) rfl ?_
  have s1 := HX_trans (HX_refl h) u1
  have w := w t1 u1
  refine r_aldn (pc1 := 5) rfl rfl rfl ?_
  refine r_gfI (pc1 := 8) rfl rfl rfl t1 (lyk t1 rfl) rfl rfl ?_
  obtain ⟨J3, j3, w⟩ := w
  have Q3 : ∀ (x2 : Int), rg x2 → J3 x2 → RR sc goal fs 274 48 [some (rv 437), none, none, none, none, none, none, none, none, none, none] [.int (J x2)] h1 := by
    intro x2 rx2 z3
    have w := j3 x2 rx2 z3
    refine r_istn (pc1 := 49) (ls1 := [some (rv 437), some (.int (J x2)), none, none, none, none, none, none, none, none, none]) rfl rfl rfl rfl ?_
    refine r_n (pc1 := 50) [.int (J 0)] _ rfl rfl ?_
    refine r_istn (pc1 := 51) (ls1 := [some (rv 437), some (.int (J x2)), some (.int (J 0)), none, none, none, none, none, none, none, none]) rfl rfl rfl rfl ?_
    obtain ⟨I14, m14, w, y14⟩ := w
    have Q14 : ∀ (n : Nat) (d6 : Option Value) (d7 : Option Value) (d8 : Option Value) (d9 : Option Value) (d10 : Option Value) (d11 : Option Value) (d12 : Option Value) (d13 : Option Value) (x4 : Int) (x5 : Int), rg x4 → rg x5 → m14 x4 x5 < n → I14 x4 x5 → RR sc goal fs 274 51 [some (rv 437), some (.int (J x4)), some (.int (J x5)), d6, d7, d8, d9, d10, d11, d12, d13] [] h1 := by
      intro n
      induction n with
      | zero => intro d6 d7 d8 d9 d10 d11 d12 d13 x4 x5 rx4 rx5 q14 _; exact absurd q14 (Nat.not_lt_zero _)
      | succ n ih14 =>
        intro d6 d7 d8 d9 d10 d11 d12 d13 x4 x5 rx4 rx5 q14 z14
        have w := y14 x4 x5 rx4 rx5 z14
        refine r_n (pc1 := 52) [.int (J x5)] _ rfl rfl ?_
        refine r_aldn (pc1 := 53) rfl rfl rfl ?_
        refine r_gfI (pc1 := 56) rfl rfl rfl t1 (lyk t1 rfl) rfl rfl ?_
        refine r_ic (t := 213) (pc1 := 59) rfl rfl rfl rx5 (rgh _ _ _) (fun c46 => ?_) (fun c46 => ?_)
        · have w := w.1 c46
          refine r_n (pc1 := 214) [.int (J x4)] _ rfl rfl ?_
          obtain ⟨J16, j16, w⟩ := w
          have Q16 : ∀ (x15 : Int), rg x15 → J16 x15 → RR sc goal fs 274 222 [some (rv 437), some (.int (J x4)), some (.int (J x5)), d6, d7, d8, d9, d10, d11, d12, d13] [.int (J x15)] h1 := by
            intro x15 rx15 z16
            have w := j16 x15 rx15 z16
            exact r_retI rfl rfl rfl (k _ _ t1 s1 rx15 w)
          refine r_iz (t := 221) (pc1 := 217) rfl rfl rfl rx4 (fun c17 => ?_) (fun c17 => ?_)
          · have w := w.1 c17
            refine r_n (pc1 := 222) [.int (J 0)] _ rfl rfl ?_
            exact Q16  0  (rgk rfl) w
          · have w := w.2 c17
            refine r_n (pc1 := 218) [.int (J 1)] _ rfl rfl ?_
            refine r_goto (t := 222) rfl rfl ?_
            exact Q16  1  (rgk rfl) w
        · have w := w.2 c46
          refine r_aldn (pc1 := 60) rfl rfl rfl ?_
          refine r_gfC (pc1 := 63) (q := 456) rfl rfl rfl t1 (lyk t1 rfl) rfl rfl (lyR t1 rfl rfl) ?_
          refine r_n (pc1 := 64) [.int (J x5), rv 456] _ rfl rfl ?_
          obtain ⟨c18, w⟩ := w
          refine r_ial (pc1 := 65) rfl rfl t1 (lyk t1 rfl) rx5 c18.1 (lt_len (lyn t1 rfl) c18.2) ?_
          refine r_n (pc1 := 66) [.int (J (-1)), .int (J (hI h1 456 x5.toNat))] _ rfl rfl ?_
          obtain ⟨J28, j28, w⟩ := w
          have Q28 : ∀ (d20 : Option Value) (d21 : Option Value) (d22 : Option Value) (d23 : Option Value) (d24 : Option Value) (d25 : Option Value) (d26 : Option Value) (d27 : Option Value) (x19 : Int), rg x19 → J28 x19 → RR sc goal fs 274 207 [some (rv 437), some (.int (J x19)), some (.int (J x5)), d20, d21, d22, d23, d24, d25, d26, d27] [] h1 := by
            intro d20 d21 d22 d23 d24 d25 d26 d27 x19 rx19 z28
            have w := j28 x19 rx19 z28
            refine r_inc (pc1 := 210) (g := fun zz => [some (rv 437), some (.int (J x19)), some (.int (J zz)), d20, d21, d22, d23, d24, d25, d26, d27]) rfl rfl rfl rfl (fun _ => rfl) (fun x29 ex29 rx29 => ?_)
            have w := w x29 ex29 rx29
            refine r_goto (t := 51) rfl rfl ?_
            exact ih14 _ _ _ _ _ _ _ _ x19 x29  rx19 rx29 (Nat.lt_of_lt_of_le w.2 (Nat.le_of_lt_succ q14)) w.1
          refine r_ic (t := 72) (pc1 := 69) rfl rfl rfl (rgh _ _ _) (rgk rfl) (fun c45 => ?_) (fun c45 => ?_)
          · have w := w.1 c45
            refine r_aldn (pc1 := 73) rfl rfl rfl ?_
            refine r_gfC (pc1 := 76) (q := 456) rfl rfl rfl t1 (lyk t1 rfl) rfl rfl (lyR t1 rfl rfl) ?_
            refine r_n (pc1 := 77) [.int (J x5), rv 456] _ rfl rfl ?_
            refine r_ial (pc1 := 78) rfl rfl t1 (lyk t1 rfl) rx5 c18.1 (lt_len (lyn t1 rfl) c18.2) ?_
            refine r_vI (rgh _ _ _) (fun x30 ex30 rx30 => ?_)
            have w := w x30 ex30 rx30
            refine r_istn (pc1 := 79) (ls1 := [some (rv 437), some (.int (J x4)), some (.int (J x5)), some (.int (J x30)), d7, d8, d9, d10, d11, d12, d13]) rfl rfl rfl rfl ?_
            refine r_aldn (pc1 := 80) rfl rfl rfl ?_
            refine r_gfC (pc1 := 83) (q := 457) rfl rfl rfl t1 (lyk t1 rfl) rfl rfl (lyR t1 rfl rfl) ?_
            refine r_n (pc1 := 84) [.int (J x5), rv 457] _ rfl rfl ?_
            refine r_ial (pc1 := 85) rfl rfl t1 (lyk t1 rfl) rx5 c18.1 (lt_len (lyn t1 rfl) c18.2) ?_
            refine r_vI (rgh _ _ _) (fun x31 ex31 rx31 => ?_)
            have w := w x31 ex31 rx31
            refine r_ist (pc1 := 87) (ls1 := [some (rv 437), some (.int (J x4)), some (.int (J x5)), some (.int (J x30)), some (.int (J x31)), d8, d9, d10, d11, d12, d13]) rfl rfl rfl rfl ?_
            refine r_aldn (pc1 := 88) rfl rfl rfl ?_
            refine r_gfC (pc1 := 91) (q := 454) rfl rfl rfl t1 (lyk t1 rfl) rfl rfl (lyR t1 rfl rfl) ?_
            refine r_n (pc1 := 92) [.int (J x30), rv 454] _ rfl rfl ?_
            obtain ⟨c32, w⟩ := w
            refine r_lal (pc1 := 93) rfl rfl t1 (lyk t1 rfl) rx30 c32.1 (lt_len (lyn t1 rfl) c32.2) ?_
            refine r_aldn (pc1 := 94) rfl rfl rfl ?_
            refine r_gfC (pc1 := 97) (q := 455) rfl rfl rfl t1 (lyk t1 rfl) rfl rfl (lyR t1 rfl rfl) ?_
            refine r_n (pc1 := 99) [.int (J x31), rv 455, .long (G (hL h1 454 x30.toNat))] _ rfl rfl ?_
            obtain ⟨c33, w⟩ := w
            refine r_lal (pc1 := 100) rfl rfl t1 (lyk t1 rfl) rx31 c33.1 (lt_len (lyn t1 rfl) c33.2) ?_
            refine r_land (pc1 := 101) rfl rfl ?_
            refine r_aldn (pc1 := 102) rfl rfl rfl ?_
            refine r_gfC (pc1 := 105) (q := 455) rfl rfl rfl t1 (lyk t1 rfl) rfl rfl (lyR t1 rfl rfl) ?_
            refine r_n (pc1 := 106) [.int (J x30), rv 455, .long (G ((hL h1 454 x30.toNat) &&& (hL h1 455 x31.toNat)))] _ rfl rfl ?_
            refine r_lal (pc1 := 107) rfl rfl t1 (lyk t1 rfl) rx30 c32.1 (lt_len (lyn t1 rfl) c32.2) ?_
            refine r_aldn (pc1 := 108) rfl rfl rfl ?_
            refine r_gfC (pc1 := 111) (q := 454) rfl rfl rfl t1 (lyk t1 rfl) rfl rfl (lyR t1 rfl rfl) ?_
            refine r_n (pc1 := 113) [.int (J x31), rv 454, .long (G (hL h1 455 x30.toNat)), .long (G ((hL h1 454 x30.toNat) &&& (hL h1 455 x31.toNat)))] _ rfl rfl ?_
            refine r_lal (pc1 := 114) rfl rfl t1 (lyk t1 rfl) rx31 c33.1 (lt_len (lyn t1 rfl) c33.2) ?_
            refine r_land (pc1 := 115) rfl rfl ?_
            refine r_lor (pc1 := 116) rfl rfl ?_
            refine r_vL (fun b34 eb34 => ?_)
            have w := w b34 eb34
            refine r_lst (pc1 := 118) (ls1 := [some (rv 437), some (.int (J x4)), some (.int (J x5)), some (.int (J x30)), some (.int (J x31)), some (.long (G b34)), none, d10, d11, d12, d13]) rfl rfl rfl rfl ?_
            refine r_aldn (pc1 := 119) rfl rfl rfl ?_
            refine r_gfC (pc1 := 122) (q := 454) rfl rfl rfl t1 (lyk t1 rfl) rfl rfl (lyR t1 rfl rfl) ?_
            refine r_n (pc1 := 123) [.int (J x30), rv 454] _ rfl rfl ?_
            refine r_lal (pc1 := 124) rfl rfl t1 (lyk t1 rfl) rx30 c32.1 (lt_len (lyn t1 rfl) c32.2) ?_
            refine r_aldn (pc1 := 125) rfl rfl rfl ?_
            refine r_gfC (pc1 := 128) (q := 454) rfl rfl rfl t1 (lyk t1 rfl) rfl rfl (lyR t1 rfl rfl) ?_
            refine r_n (pc1 := 130) [.int (J x31), rv 454, .long (G (hL h1 454 x30.toNat))] _ rfl rfl ?_
            refine r_lal (pc1 := 131) rfl rfl t1 (lyk t1 rfl) rx31 c33.1 (lt_len (lyn t1 rfl) c33.2) ?_
            refine r_lor (pc1 := 132) rfl rfl ?_
            refine r_n (pc1 := 134) [.long (G b34), .long (G ((hL h1 454 x30.toNat) ||| (hL h1 454 x31.toNat)))] _ rfl rfl ?_
            refine r_n (pc1 := 137) [.long (G (18446744073709551615#64)), .long (G b34), .long (G ((hL h1 454 x30.toNat) ||| (hL h1 454 x31.toNat)))] _ rfl rfl ?_
            refine r_lxor (pc1 := 138) rfl rfl ?_
            refine r_land (pc1 := 139) rfl rfl ?_
            refine r_vL (fun b35 eb35 => ?_)
            have w := w b35 eb35
            refine r_lst (pc1 := 141) (ls1 := [some (rv 437), some (.int (J x4)), some (.int (J x5)), some (.int (J x30)), some (.int (J x31)), some (.long (G b34)), none, some (.long (G b35)), none, d12, d13]) rfl rfl rfl rfl ?_
            refine r_aldn (pc1 := 142) rfl rfl rfl ?_
            refine r_gfC (pc1 := 145) (q := 455) rfl rfl rfl t1 (lyk t1 rfl) rfl rfl (lyR t1 rfl rfl) ?_
            refine r_n (pc1 := 146) [.int (J x30), rv 455] _ rfl rfl ?_
            refine r_lal (pc1 := 147) rfl rfl t1 (lyk t1 rfl) rx30 c32.1 (lt_len (lyn t1 rfl) c32.2) ?_
            refine r_aldn (pc1 := 148) rfl rfl rfl ?_
            refine r_gfC (pc1 := 151) (q := 455) rfl rfl rfl t1 (lyk t1 rfl) rfl rfl (lyR t1 rfl rfl) ?_
            refine r_n (pc1 := 153) [.int (J x31), rv 455, .long (G (hL h1 455 x30.toNat))] _ rfl rfl ?_
            refine r_lal (pc1 := 154) rfl rfl t1 (lyk t1 rfl) rx31 c33.1 (lt_len (lyn t1 rfl) c33.2) ?_
            refine r_lor (pc1 := 155) rfl rfl ?_
            refine r_n (pc1 := 157) [.long (G b34), .long (G ((hL h1 455 x30.toNat) ||| (hL h1 455 x31.toNat)))] _ rfl rfl ?_
            refine r_n (pc1 := 160) [.long (G (18446744073709551615#64)), .long (G b34), .long (G ((hL h1 455 x30.toNat) ||| (hL h1 455 x31.toNat)))] _ rfl rfl ?_
            refine r_lxor (pc1 := 161) rfl rfl ?_
            refine r_land (pc1 := 162) rfl rfl ?_
            refine r_vL (fun b36 eb36 => ?_)
            have w := w b36 eb36
            refine r_lst (pc1 := 164) (ls1 := [some (rv 437), some (.int (J x4)), some (.int (J x5)), some (.int (J x30)), some (.int (J x31)), some (.long (G b34)), none, some (.long (G b35)), none, some (.long (G b36)), none]) rfl rfl rfl rfl ?_
            refine r_n (pc1 := 165) [.int (J x4)] _ rfl rfl ?_
            obtain ⟨J38, j38, w⟩ := w
            have Q38 : ∀ (x37 : Int), rg x37 → J38 x37 → RR sc goal fs 274 206 [some (rv 437), some (.int (J x4)), some (.int (J x5)), some (.int (J x30)), some (.int (J x31)), some (.long (G b34)), none, some (.long (G b35)), none, some (.long (G b36)), none] [.int (J x37)] h1 := by
              intro x37 rx37 z38
              have w := j38 x37 rx37 z38
              refine r_istn (pc1 := 207) (ls1 := [some (rv 437), some (.int (J x37)), some (.int (J x5)), some (.int (J x30)), some (.int (J x31)), some (.long (G b34)), none, some (.long (G b35)), none, some (.long (G b36)), none]) rfl rfl rfl rfl ?_
              exact Q28 _ _ _ _ _ _ _ _ x37  rx37 w
            obtain ⟨J39, j39, w⟩ := w
            have Q39 : J39 → RR sc goal fs 274 201 [some (rv 437), some (.int (J x4)), some (.int (J x5)), some (.int (J x30)), some (.int (J x31)), some (.long (G b34)), none, some (.long (G b35)), none, some (.long (G b36)), none] [] h1 := by
              intro z39
              have w := j39 z39
              refine r_n (pc1 := 202) [.int (J 1)] _ rfl rfl ?_
              refine r_goto (t := 206) rfl rfl ?_
              exact Q38  1  (rgk rfl) w
            refine r_iz (t := 201) (pc1 := 168) rfl rfl rfl rx4 (fun c44 => ?_) (fun c44 => ?_)
            · have w := w.1 c44
              exact Q39     w
            · have w := w.2 c44
              refine r_n (pc1 := 170) [.long (G b34)] _ rfl rfl ?_
              refine r_iq rfl rfl rfl rfl rfl rfl (xe_of (xa_l xa_0) rfl rfl) (r_d0 hd rfl) (a_J13_bitCount_95d88 b34 (r_d1 hd rfl)  w t1 (fun x40 rx40 w => ?_))
              refine r_fI (pc1 := 173) rfl ?_
              have w := w rx40
              refine r_n (pc1 := 174) [.int (J 1), .int (J x40)] _ rfl rfl ?_
              refine r_ic (t := 201) (pc1 := 177) rfl rfl rfl rx40 (rgk rfl) (fun c43 => ?_) (fun c43 => ?_)
              · have w := w.1 c43
                exact Q39     w
              · have w := w.2 c43
                refine r_n (pc1 := 179) [.long (G b35)] _ rfl rfl ?_
                refine r_aldn (pc1 := 180) rfl rfl rfl ?_
                refine r_gfC (pc1 := 183) (q := 454) rfl rfl rfl t1 (lyk t1 rfl) rfl rfl (lyR t1 rfl rfl) ?_
                refine r_n (pc1 := 184) [.int (J x5), rv 454, .long (G b35)] _ rfl rfl ?_
                refine r_lal (pc1 := 185) rfl rfl t1 (lyk t1 rfl) rx5 c18.1 (lt_len (lyn t1 rfl) c18.2) ?_
                refine r_lc (pc2 := 186) (t := 201) (pc1 := 189) rfl rfl rfl rfl rfl (fun c42 => ?_) (fun c42 => ?_)
                · have w := w.1 c42
                  exact Q39     w
                · have w := w.2 c42
                  refine r_n (pc1 := 191) [.long (G b36)] _ rfl rfl ?_
                  refine r_aldn (pc1 := 192) rfl rfl rfl ?_
                  refine r_gfC (pc1 := 195) (q := 455) rfl rfl rfl t1 (lyk t1 rfl) rfl rfl (lyR t1 rfl rfl) ?_
                  refine r_n (pc1 := 196) [.int (J x5), rv 455, .long (G b36)] _ rfl rfl ?_
                  refine r_lal (pc1 := 197) rfl rfl t1 (lyk t1 rfl) rx5 c18.1 (lt_len (lyn t1 rfl) c18.2) ?_
                  refine r_lc (pc2 := 198) (t := 205) (pc1 := 201) rfl rfl rfl rfl rfl (fun c41 => ?_) (fun c41 => ?_)
                  · have w := w.1 c41
                    refine r_n (pc1 := 206) [.int (J 0)] _ rfl rfl ?_
                    exact Q38  0  (rgk rfl) w
                  · have w := w.2 c41
                    exact Q39     w
          · have w := w.2 c45
            refine r_goto (t := 207) rfl rfl ?_
            exact Q28 _ _ _ _ _ _ _ _ x4  rx4 w
    exact Q14 _ _ _ _ _ _ _ _ _ x2 0  rx2 (rgk rfl) (Nat.lt_succ_self _) w
  obtain ⟨J47, j47, w⟩ := w
  have Q47 : J47 → RR sc goal fs 274 47 [some (rv 437), none, none, none, none, none, none, none, none, none, none] [] h1 := by
    intro z47
    have w := j47 z47
    refine r_n (pc1 := 48) [.int (J 0)] _ rfl rfl ?_
    exact Q3  0  (rgk rfl) w
  refine r_iz (t := 47) (pc1 := 11) rfl rfl rfl (rgh _ _ _) (fun c55 => ?_) (fun c55 => ?_)
  · have w := w.1 c55
    exact Q47     w
  · have w := w.2 c55
    refine r_aldn (pc1 := 12) rfl rfl rfl ?_
    refine r_gfC (pc1 := 15) (q := 454) rfl rfl rfl t1 (lyk t1 rfl) rfl rfl (lyR t1 rfl rfl) ?_
    refine r_aldn (pc1 := 16) rfl rfl rfl ?_
    refine r_gfI (pc1 := 19) rfl rfl rfl t1 (lyk t1 rfl) rfl rfl ?_
    refine r_n (pc1 := 20) [.int (J 1), .int (J (hI h1 437 47)), rv 454] _ rfl rfl ?_
    refine r_isub (pc1 := 21) rfl rfl ?_
    refine r_vI (rgw _) (fun x48 ex48 rx48 => ?_)
    have w := w x48 ex48 rx48
    obtain ⟨c49, w⟩ := w
    refine r_lal (pc1 := 22) rfl rfl t1 (lyk t1 rfl) rx48 c49.1 (lt_len (lyn t1 rfl) c49.2) ?_
    refine r_n (pc1 := 23) [.long (G (0#64)), .long (G (hL h1 454 x48.toNat))] _ rfl rfl ?_
    obtain ⟨J50, j50, w⟩ := w
    have Q50 : J50 → RR sc goal fs 274 43 [some (rv 437), none, none, none, none, none, none, none, none, none, none] [] h1 := by
      intro z50
      have w := j50 z50
      refine r_n (pc1 := 44) [.int (J 1)] _ rfl rfl ?_
      refine r_goto (t := 48) rfl rfl ?_
      exact Q3  1  (rgk rfl) w
    refine r_lc (pc2 := 24) (t := 43) (pc1 := 27) rfl rfl rfl rfl rfl (fun c54 => ?_) (fun c54 => ?_)
    · have w := w.1 c54
      exact Q50     w
    · have w := w.2 c54
      refine r_aldn (pc1 := 28) rfl rfl rfl ?_
      refine r_gfC (pc1 := 31) (q := 455) rfl rfl rfl t1 (lyk t1 rfl) rfl rfl (lyR t1 rfl rfl) ?_
      refine r_aldn (pc1 := 32) rfl rfl rfl ?_
      refine r_gfI (pc1 := 35) rfl rfl rfl t1 (lyk t1 rfl) rfl rfl ?_
      refine r_n (pc1 := 36) [.int (J 1), .int (J (hI h1 437 47)), rv 455] _ rfl rfl ?_
      refine r_isub (pc1 := 37) rfl rfl ?_
      refine r_vI (rgw _) (fun x51 ex51 rx51 => ?_)
      have w := w x51 ex51 rx51
      obtain ⟨c52, w⟩ := w
      refine r_lal (pc1 := 38) rfl rfl t1 (lyk t1 rfl) rx51 c52.1 (lt_len (lyn t1 rfl) c52.2) ?_
      refine r_n (pc1 := 39) [.long (G (0#64)), .long (G (hL h1 455 x51.toNat))] _ rfl rfl ?_
      refine r_lc (pc2 := 40) (t := 47) (pc1 := 43) rfl rfl rfl rfl rfl (fun c53 => ?_) (fun c53 => ?_)
      · have w := w.1 c53
        exact Q47     w
      · have w := w.2 c53
        exact Q50     w
def w_X14_errors  (K : Int → XH → Prop) (h : XH) : Prop :=
  (∀ h1 : XH, h1 = sI h 437 5 0 → HT h1 → HX h h1 → w_X14_found 0 (fun a2 h3 => HT h3 → HX h1 h3 → (w_X14_found 1 (fun a4 h5 => HT h5 → HX h3 h5 → (w_X14_goThrough a2 a4 (fun x6 h7 => HT h7 → HX h5 h7 → rg x6 → (∃ J9 : Int → Prop, (∀ (x8 : Int), rg x8 → J9 x8 → (((a2 = 0 → (w_X14_coreErrors (fun x10 h11 => HT h11 → HX h7 h11 → rg x10 → (w_X14_proofErrors (fun x12 h13 => HT h13 → HX h11 h13 → rg x12 → (K (wr ((wr (x8 + x10)) + x12)) h13)) h11)) h7)) ∧ (¬ (a2 = 0) → (w_X14_fitsHere a2 (fun x14 => rg x14 → (x14 = 0 ∨ x14 = 1) → (∃ J16 : Int → Prop, (∀ (x15 : Int), rg x15 → J16 x15 → (∀ x17 : Int, x17 = wr (x8 + x15) → rg x17 → w_X14_fitsHere a4 (fun x18 => rg x18 → (x18 = 0 ∨ x18 = 1) → (∃ J20 : Int → Prop, (∀ (x19 : Int), rg x19 → J20 x19 → (∀ x21 : Int, x21 = wr (x17 + x19) → rg x21 → K x21 h7)) ∧ ∃ J22 : Prop, (J22 → (J20 1)) ∧ ((x18 = 0 → J22) ∧ (¬ (x18 = 0) → (((¬ hI h7 437 43 = 0 → J22) ∧ (¬ (¬ hI h7 437 43 = 0) → (J20 0)))))))) h7)) ∧ ∃ J25 : Prop, (J25 → (J16 1)) ∧ ((x14 = 0 → J25) ∧ (¬ (x14 = 0) → (((¬ hI h7 437 42 = 0 → J25) ∧ (¬ (¬ hI h7 437 42 = 0) → (J16 0)))))))) h7))))) ∧ ∃ J29 : Prop, (J29 → (J9 0)) ∧ ((x6 = (-1) → J29) ∧ (¬ (x6 = (-1)) → (∃ J31 : Int → Prop, (∀ (x30 : Int), rg x30 → J31 x30 → (∃ J33 : Int → Prop, (∀ (x32 : Int), rg x32 → J33 x32 → (((¬ x30 = x32 → J29) ∧ (¬ (¬ x30 = x32) → (J9 1))))) ∧ ((a2 = 0 → (J33 0)) ∧ (¬ (a2 = 0) → (J33 1))))) ∧ ((¬ x6 = 0 → (J31 0)) ∧ (¬ (¬ x6 = 0) → (J31 1)))))))) h5)) h3)) h1)
set_option maxHeartbeats 4000000 in
theorem a_X14_errors {sc : Nat × (Nat → Int32)} {goal : XO → XH → Prop} {fs : List XF} {h : XH}  {K : Int → XH → Prop} (hd : fs.length + 80 ≤ 1000) (w : w_X14_errors  K h) (t0 : HT h) (k : ∀ (r : Int) (h1 : XH), HT h1 → HX h h1 → rg r → K r h1 → XFin xP sc goal fs (.inl (some (.int (J r)))) h1) : RR sc goal fs 194 0 [some (rv 437), none, none, none, none] [] h := by
  unfold w_X14_errors at w
  refine r_aldn (pc1 := 1) rfl rfl rfl ?_
  refine r_n (pc1 := 2) [.int (J 0), rv 437] _ rfl rfl ?_
  refine r_pfI (pc1 := 5) rfl rfl rfl t0 (lyk t0 rfl) rfl rfl rfl (fun h1 eh1 t1 u1 => ?_)
  have w := w h1 eh1 t1 u1
  have s1 := HX_trans (HX_refl h) u1
  refine r_aldn (pc1 := 6) rfl rfl rfl ?_
  refine r_n (pc1 := 7) [.int (J 0), rv 437] _ rfl rfl ?_
  refine r_iv rfl rfl rfl rfl rfl rfl t1 (lyk t1 rfl) rfl (xe_of (xa_r (xa_i xa_0)) rfl rfl) (r_d0 hd rfl) (a_X14_found 0 (r_d1 hd rfl) (rgk rfl) w t1 (fun a2 h3 t3 u3 w => ?_))
  refine r_fR (pc1 := 10) rfl ?_
  have s3 := HX_trans s1 u3
  have w := w t3 u3
  refine r_astn (pc1 := 11) (ls1 := [some (rv 437), some (rv a2), none, none, none]) rfl rfl rfl rfl ?_
  refine r_aldn (pc1 := 12) rfl rfl rfl ?_
  refine r_n (pc1 := 13) [.int (J 1), rv 437] _ rfl rfl ?_
  refine r_iv rfl rfl rfl rfl rfl rfl t3 (lyk t3 rfl) rfl (xe_of (xa_r (xa_i xa_0)) rfl rfl) (r_d0 hd rfl) (a_X14_found 1 (r_d1 hd rfl) (rgk rfl) w t3 (fun a4 h5 t5 u5 w => ?_))
  refine r_fR (pc1 := 16) rfl ?_
  have s5 := HX_trans s3 u5
  have w := w t5 u5
  refine r_astn (pc1 := 17) (ls1 := [some (rv 437), some (rv a2), some (rv a4), none, none]) rfl rfl rfl (xput1_rv rfl rfl) ?_
  refine r_aldn (pc1 := 18) rfl rfl rfl ?_
  refine r_aldn (pc1 := 19) rfl rfl rfl ?_
  refine r_aldn (pc1 := 20) rfl rfl rfl ?_
  refine r_iv rfl rfl rfl rfl rfl rfl t5 (lyk t5 rfl) rfl (xe_of (xa_r (xa_r (xa_r xa_0))) rfl rfl) (r_d0 hd rfl) (a_X14_goThrough a2 a4 (r_d1 hd rfl)  w t5 (fun x6 h7 t7 u7 rx6 w => ?_))
  refine r_fI (pc1 := 23) rfl ?_
  have s7 := HX_trans s5 u7
  have w := w t7 u7
  have w := w rx6
  refine r_istn (pc1 := 24) (ls1 := [some (rv 437), some (rv a2), some (rv a4), some (.int (J x6)), none]) rfl rfl rfl (xput1_rv rfl rfl) ?_
  refine r_n (pc1 := 25) [.int (J x6)] _ rfl rfl ?_
  refine r_n (pc1 := 26) [.int (J (-1)), .int (J x6)] _ rfl rfl ?_
  obtain ⟨J9, j9, w⟩ := w
  have Q9 : ∀ (x8 : Int), rg x8 → J9 x8 → RR sc goal fs 194 55 [some (rv 437), some (rv a2), some (rv a4), some (.int (J x6)), none] [.int (J x8)] h7 := by
    intro x8 rx8 z9
    have w := j9 x8 rx8 z9
    refine r_ist (pc1 := 57) (ls1 := [some (rv 437), some (rv a2), some (rv a4), some (.int (J x6)), some (.int (J x8))]) rfl rfl rfl rfl ?_
    refine r_aldn (pc1 := 58) rfl rfl rfl ?_
    refine r_null (t := 114) (pc1 := 61) rfl rfl rfl (fun c28 => ?_) (fun c28 => ?_)
    · have w := w.1 c28
      refine r_n (pc1 := 116) [.int (J x8)] _ rfl rfl ?_
      refine r_aldn (pc1 := 117) rfl rfl rfl ?_
      refine r_iv rfl rfl rfl rfl rfl rfl t7 (lyk t7 rfl) rfl (xe_of (xa_r xa_0) rfl rfl) (r_d0 hd rfl) (a_X14_coreErrors  (r_d1 hd rfl)  w t7 (fun x10 h11 t11 u11 rx10 w => ?_))
      refine r_fI (pc1 := 120) rfl ?_
      have s11 := HX_trans s7 u11
      have w := w t11 u11
      have w := w rx10
      refine r_iadd (pc1 := 121) rfl rfl ?_
      refine r_aldn (pc1 := 122) rfl rfl rfl ?_
      refine r_iv rfl rfl rfl rfl rfl rfl t11 (lyk t11 rfl) rfl (xe_of (xa_r xa_0) rfl rfl) (r_d0 hd rfl) (a_X14_proofErrors  (r_d1 hd rfl)  w t11 (fun x12 h13 t13 u13 rx12 w => ?_))
      refine r_fI (pc1 := 125) rfl ?_
      have s13 := HX_trans s11 u13
      have w := w t13 u13
      have w := w rx12
      refine r_iadd (pc1 := 126) rfl rfl ?_
      exact r_retI rfl rfl rfl (k _ _ t13 s13 (rgw _) w)
    · have w := w.2 c28
      refine r_n (pc1 := 63) [.int (J x8)] _ rfl rfl ?_
      refine r_aldn (pc1 := 64) rfl rfl rfl ?_
      refine r_aldn (pc1 := 65) rfl rfl rfl ?_
      refine r_iv rfl rfl rfl rfl rfl rfl t7 (lyk t7 rfl) rfl (xe_of (xa_r (xa_r xa_0)) rfl rfl) (r_d0 hd rfl) (a_X14_fitsHere a2 (r_d1 hd rfl)  w t7 (fun x14 rx14 vx14 w => ?_))
      refine r_fI (pc1 := 68) rfl ?_
      have w := w rx14 vx14
      obtain ⟨J16, j16, w⟩ := w
      have Q16 : ∀ (x15 : Int), rg x15 → J16 x15 → RR sc goal fs 194 83 [some (rv 437), some (rv a2), some (rv a4), some (.int (J x6)), some (.int (J x8))] [.int (J x15), .int (J x8)] h7 := by
        intro x15 rx15 z16
        have w := j16 x15 rx15 z16
        refine r_iadd (pc1 := 84) rfl rfl ?_
        refine r_vI (rgw _) (fun x17 ex17 rx17 => ?_)
        have w := w x17 ex17 rx17
        refine r_ist (pc1 := 86) (ls1 := [some (rv 437), some (rv a2), some (rv a4), some (.int (J x6)), some (.int (J x17))]) rfl rfl rfl rfl ?_
        refine r_n (pc1 := 88) [.int (J x17)] _ rfl rfl ?_
        refine r_aldn (pc1 := 89) rfl rfl rfl ?_
        refine r_aldn (pc1 := 90) rfl rfl rfl ?_
        refine r_iv rfl rfl rfl rfl rfl rfl t7 (lyk t7 rfl) rfl (xe_of (xa_r (xa_r xa_0)) rfl rfl) (r_d0 hd rfl) (a_X14_fitsHere a4 (r_d1 hd rfl)  w t7 (fun x18 rx18 vx18 w => ?_))
        refine r_fI (pc1 := 93) rfl ?_
        have w := w rx18 vx18
        obtain ⟨J20, j20, w⟩ := w
        have Q20 : ∀ (x19 : Int), rg x19 → J20 x19 → RR sc goal fs 194 108 [some (rv 437), some (rv a2), some (rv a4), some (.int (J x6)), some (.int (J x17))] [.int (J x19), .int (J x17)] h7 := by
          intro x19 rx19 z20
          have w := j20 x19 rx19 z20
          refine r_iadd (pc1 := 109) rfl rfl ?_
          refine r_vI (rgw _) (fun x21 ex21 rx21 => ?_)
          have w := w x21 ex21 rx21
          refine r_ist (pc1 := 111) (ls1 := [some (rv 437), some (rv a2), some (rv a4), some (.int (J x6)), some (.int (J x21))]) rfl rfl rfl rfl ?_
          refine r_n (pc1 := 113) [.int (J x21)] _ rfl rfl ?_
          exact r_retI rfl rfl rfl (k _ _ t7 s7 rx21 w)
        obtain ⟨J22, j22, w⟩ := w
        have Q22 : J22 → RR sc goal fs 194 107 [some (rv 437), some (rv a2), some (rv a4), some (.int (J x6)), some (.int (J x17))] [.int (J x17)] h7 := by
          intro z22
          have w := j22 z22
          refine r_n (pc1 := 108) [.int (J 1), .int (J x17)] _ rfl rfl ?_
          exact Q20  1  (rgk rfl) w
        refine r_iz (t := 107) (pc1 := 96) rfl rfl rfl rx18 (fun c24 => ?_) (fun c24 => ?_)
        · have w := w.1 c24
          exact Q22     w
        · have w := w.2 c24
          refine r_aldn (pc1 := 97) rfl rfl rfl ?_
          refine r_gfI (pc1 := 100) rfl rfl rfl t7 (lyk t7 rfl) rfl rfl ?_
          refine r_iz (t := 107) (pc1 := 103) rfl rfl rfl (rgh _ _ _) (fun c23 => ?_) (fun c23 => ?_)
          · have w := w.1 c23
            exact Q22     w
          · have w := w.2 c23
            refine r_n (pc1 := 104) [.int (J 0), .int (J x17)] _ rfl rfl ?_
            refine r_goto (t := 108) rfl rfl ?_
            exact Q20  0  (rgk rfl) w
      obtain ⟨J25, j25, w⟩ := w
      have Q25 : J25 → RR sc goal fs 194 82 [some (rv 437), some (rv a2), some (rv a4), some (.int (J x6)), some (.int (J x8))] [.int (J x8)] h7 := by
        intro z25
        have w := j25 z25
        refine r_n (pc1 := 83) [.int (J 1), .int (J x8)] _ rfl rfl ?_
        exact Q16  1  (rgk rfl) w
      refine r_iz (t := 82) (pc1 := 71) rfl rfl rfl rx14 (fun c27 => ?_) (fun c27 => ?_)
      · have w := w.1 c27
        exact Q25     w
      · have w := w.2 c27
        refine r_aldn (pc1 := 72) rfl rfl rfl ?_
        refine r_gfI (pc1 := 75) rfl rfl rfl t7 (lyk t7 rfl) rfl rfl ?_
        refine r_iz (t := 82) (pc1 := 78) rfl rfl rfl (rgh _ _ _) (fun c26 => ?_) (fun c26 => ?_)
        · have w := w.1 c26
          exact Q25     w
        · have w := w.2 c26
          refine r_n (pc1 := 79) [.int (J 0), .int (J x8)] _ rfl rfl ?_
          refine r_goto (t := 83) rfl rfl ?_
          exact Q16  0  (rgk rfl) w
  obtain ⟨J29, j29, w⟩ := w
  have Q29 : J29 → RR sc goal fs 194 54 [some (rv 437), some (rv a2), some (rv a4), some (.int (J x6)), none] [] h7 := by
    intro z29
    have w := j29 z29
    refine r_n (pc1 := 55) [.int (J 0)] _ rfl rfl ?_
    exact Q9  0  (rgk rfl) w
  refine r_ic (t := 54) (pc1 := 29) rfl rfl rfl rx6 (rgk rfl) (fun c37 => ?_) (fun c37 => ?_)
  · have w := w.1 c37
    exact Q29     w
  · have w := w.2 c37
    refine r_n (pc1 := 30) [.int (J x6)] _ rfl rfl ?_
    obtain ⟨J31, j31, w⟩ := w
    have Q31 : ∀ (x30 : Int), rg x30 → J31 x30 → RR sc goal fs 194 38 [some (rv 437), some (rv a2), some (rv a4), some (.int (J x6)), none] [.int (J x30)] h7 := by
      intro x30 rx30 z31
      have w := j31 x30 rx30 z31
      refine r_aldn (pc1 := 39) rfl rfl rfl ?_
      obtain ⟨J33, j33, w⟩ := w
      have Q33 : ∀ (x32 : Int), rg x32 → J33 x32 → RR sc goal fs 194 47 [some (rv 437), some (rv a2), some (rv a4), some (.int (J x6)), none] [.int (J x32), .int (J x30)] h7 := by
        intro x32 rx32 z33
        have w := j33 x32 rx32 z33
        refine r_ic (t := 54) (pc1 := 50) rfl rfl rfl rx30 rx32 (fun c34 => ?_) (fun c34 => ?_)
        · have w := w.1 c34
          exact Q29     w
        · have w := w.2 c34
          refine r_n (pc1 := 51) [.int (J 1)] _ rfl rfl ?_
          refine r_goto (t := 55) rfl rfl ?_
          exact Q9  1  (rgk rfl) w
      refine r_null (t := 46) (pc1 := 42) rfl rfl rfl (fun c35 => ?_) (fun c35 => ?_)
      · have w := w.1 c35
        refine r_n (pc1 := 47) [.int (J 0), .int (J x30)] _ rfl rfl ?_
        exact Q33  0  (rgk rfl) w
      · have w := w.2 c35
        refine r_n (pc1 := 43) [.int (J 1), .int (J x30)] _ rfl rfl ?_
        refine r_goto (t := 47) rfl rfl ?_
        exact Q33  1  (rgk rfl) w
    refine r_iz (t := 37) (pc1 := 33) rfl rfl rfl rx6 (fun c36 => ?_) (fun c36 => ?_)
    · have w := w.1 c36
      refine r_n (pc1 := 38) [.int (J 0)] _ rfl rfl ?_
      exact Q31  0  (rgk rfl) w
    · have w := w.2 c36
      refine r_n (pc1 := 34) [.int (J 1)] _ rfl rfl ?_
      refine r_goto (t := 38) rfl rfl ?_
      exact Q31  1  (rgk rfl) w
def w_X12_meanSize  (K : UInt64 → Prop) (h : XH) : Prop :=
  (w_X11_atHand (fun a1 => (hk h a1 = 7 ∧ w_X12_packsIn (hL h a1 6) (fun x3 => rg x3 → (((¬ x3 = 0 → (w_X12_size (fun x4 => rg x4 → (xn64 (FP.ddiv (FP.i2d (J x4)) (FP.i2d (J x3))) = true ∧ K (FP.ddiv (FP.i2d (J x4)) (FP.i2d (J x3))))) h)) ∧ (¬ (¬ x3 = 0) → (K FP.dconst0))))) h)) h)
set_option maxHeartbeats 4000000 in
theorem a_X12_meanSize {sc : Nat × (Nat → Int32)} {goal : XO → XH → Prop} {fs : List XF} {h : XH}  {K : UInt64 → Prop} (hd : fs.length + 3 ≤ 1000) (w : w_X12_meanSize  K h) (t0 : HT h) (k : ∀ (r : UInt64), K r → XFin xP sc goal fs (.inl (some (.double r))) h) : RR sc goal fs 126 0 [some (rv 2), none] [] h := by
  unfold w_X12_meanSize at w
  refine r_aldn (pc1 := 1) rfl rfl rfl ?_
  refine r_gfC (pc1 := 4) (q := 8) rfl rfl rfl t0 (lyk t0 rfl) rfl rfl (lyR t0 rfl rfl) ?_
  refine r_iv rfl rfl rfl rfl rfl rfl t0 (lyk t0 rfl) rfl (xe_of (xa_r xa_0) rfl rfl) (r_d0 hd rfl) (a_X11_atHand  (r_d1 hd rfl)  w t0 (fun a1 w => ?_))
  refine r_fR (pc1 := 7) rfl ?_
  obtain ⟨c2, w⟩ := w
  refine r_gfL (pc1 := 10) rfl rfl rfl t0 c2 rfl rfl ?_
  refine r_iq rfl rfl rfl rfl rfl rfl (xe_of (xa_l xa_0) rfl rfl) (r_d0 hd rfl) (a_X12_packsIn (hL h a1 6) (r_d1 hd rfl)  w t0 (fun x3 rx3 w => ?_))
  refine r_fI (pc1 := 13) rfl ?_
  have w := w rx3
  refine r_istn (pc1 := 14) (ls1 := [some (rv 2), some (.int (J x3))]) rfl rfl rfl rfl ?_
  refine r_n (pc1 := 15) [.int (J x3)] _ rfl rfl ?_
  refine r_iz (t := 20) (pc1 := 18) rfl rfl rfl rx3 (fun c6 => ?_) (fun c6 => ?_)
  · have w := w.1 c6
    refine r_aldn (pc1 := 21) rfl rfl rfl ?_
    refine r_iv rfl rfl rfl rfl rfl rfl t0 (lyk t0 rfl) rfl (xe_of (xa_r xa_0) rfl rfl) (r_d0 hd rfl) (a_X12_size  (r_d1 hd rfl)  w t0 (fun x4 rx4 w => ?_))
    refine r_fI (pc1 := 24) rfl ?_
    have w := w rx4
    refine r_n (pc1 := 25) [.double (FP.i2d (J x4))] _ rfl rfl ?_
    refine r_n (pc1 := 26) [.int (J x3), .double (FP.i2d (J x4))] _ rfl rfl ?_
    refine r_n (pc1 := 27) [.double (FP.i2d (J x3)), .double (FP.i2d (J x4))] _ rfl rfl ?_
    obtain ⟨c5, w⟩ := w
    refine r_ddiv (pc1 := 28) rfl rfl c5 ?_
    exact r_retD rfl rfl rfl (k _ w)
  · have w := w.2 c6
    refine r_n (pc1 := 19) [.double FP.dconst0] _ rfl rfl ?_
    exact r_retD rfl rfl rfl (k _ w)
def w_X14_meanSize  (K : UInt64 → XH → Prop) (h : XH) : Prop :=
  (∀ h1 : XH, h1 = sI h 437 5 0 → HT h1 → HX h h1 → w_X14_installedSet (fun a2 h3 => HT h3 → HX h1 h3 → (w_X14_manyIn a2 (fun x4 => rg x4 → (∃ J6 : UInt64 → Prop, (∀ (f5 : UInt64), J6 f5 → (K f5 h3)) ∧ ((¬ x4 = 0 → (w_X14_sizeOf a2 (fun x7 => rg x7 → (xn64 (FP.ddiv (FP.i2d (J x7)) (FP.i2d (J x4))) = true ∧ J6 (FP.ddiv (FP.i2d (J x7)) (FP.i2d (J x4))))) h3)) ∧ (¬ (¬ x4 = 0) → (J6 FP.dconst0))))) h3)) h1)
set_option maxHeartbeats 4000000 in
theorem a_X14_meanSize {sc : Nat × (Nat → Int32)} {goal : XO → XH → Prop} {fs : List XF} {h : XH}  {K : UInt64 → XH → Prop} (hd : fs.length + 4 ≤ 1000) (w : w_X14_meanSize  K h) (t0 : HT h) (k : ∀ (r : UInt64) (h1 : XH), HT h1 → HX h h1 → K r h1 → XFin xP sc goal fs (.inl (some (.double r))) h1) : RR sc goal fs 251 0 [some (rv 437), none, none] [] h := by
  unfold w_X14_meanSize at w
  refine r_aldn (pc1 := 1) rfl rfl rfl ?_
  refine r_n (pc1 := 2) [.int (J 0), rv 437] _ rfl rfl ?_
  refine r_pfI (pc1 := 5) rfl rfl rfl t0 (lyk t0 rfl) rfl rfl rfl (fun h1 eh1 t1 u1 => ?_)
  have w := w h1 eh1 t1 u1
  have s1 := HX_trans (HX_refl h) u1
  refine r_aldn (pc1 := 6) rfl rfl rfl ?_
  refine r_iv rfl rfl rfl rfl rfl rfl t1 (lyk t1 rfl) rfl (xe_of (xa_r xa_0) rfl rfl) (r_d0 hd rfl) (a_X14_installedSet  (r_d1 hd rfl)  w t1 (fun a2 h3 t3 u3 w => ?_))
  refine r_fR (pc1 := 9) rfl ?_
  have s3 := HX_trans s1 u3
  have w := w t3 u3
  refine r_astn (pc1 := 10) (ls1 := [some (rv 437), some (rv a2), none]) rfl rfl rfl rfl ?_
  refine r_aldn (pc1 := 11) rfl rfl rfl ?_
  refine r_iq rfl rfl rfl rfl rfl rfl (xe_of (xa_r xa_0) rfl rfl) (r_d0 hd rfl) (a_X14_manyIn a2 (r_d1 hd rfl)  w t3 (fun x4 rx4 w => ?_))
  refine r_fI (pc1 := 14) rfl ?_
  have w := w rx4
  refine r_istn (pc1 := 15) (ls1 := [some (rv 437), some (rv a2), some (.int (J x4))]) rfl rfl rfl (xput1_rv rfl rfl) ?_
  refine r_n (pc1 := 16) [.int (J x4)] _ rfl rfl ?_
  obtain ⟨J6, j6, w⟩ := w
  have Q6 : ∀ (f5 : UInt64), J6 f5 → RR sc goal fs 251 32 [some (rv 437), some (rv a2), some (.int (J x4))] [.double f5] h3 := by
    intro f5 z6
    have w := j6 f5 z6
    exact r_retD rfl rfl rfl (k _ _ t3 s3 w)
  refine r_iz (t := 23) (pc1 := 19) rfl rfl rfl rx4 (fun c9 => ?_) (fun c9 => ?_)
  · have w := w.1 c9
    refine r_aldn (pc1 := 24) rfl rfl rfl ?_
    refine r_aldn (pc1 := 25) rfl rfl rfl ?_
    refine r_iv rfl rfl rfl rfl rfl rfl t3 (lyk t3 rfl) rfl (xe_of (xa_r (xa_r xa_0)) rfl rfl) (r_d0 hd rfl) (a_X14_sizeOf a2 (r_d1 hd rfl)  w t3 (fun x7 rx7 w => ?_))
    refine r_fI (pc1 := 28) rfl ?_
    have w := w rx7
    refine r_n (pc1 := 29) [.double (FP.i2d (J x7))] _ rfl rfl ?_
    refine r_n (pc1 := 30) [.int (J x4), .double (FP.i2d (J x7))] _ rfl rfl ?_
    refine r_n (pc1 := 31) [.double (FP.i2d (J x4)), .double (FP.i2d (J x7))] _ rfl rfl ?_
    obtain ⟨c8, w⟩ := w
    refine r_ddiv (pc1 := 32) rfl rfl c8 ?_
    exact Q6  (FP.ddiv (FP.i2d (J x7)) (FP.i2d (J x4)))   w
  · have w := w.2 c9
    refine r_n (pc1 := 20) [.double FP.dconst0] _ rfl rfl ?_
    refine r_goto (t := 32) rfl rfl ?_
    exact Q6  FP.dconst0   w
def w_X12_share  (K : UInt32 → Prop) (h : XH) : Prop :=
  (w_X11_atHand (fun a1 => (hk h a1 = 7 ∧ ∀ x3 : Int, x3 = hI h a1 4 → rg x3 → ((¬ x3 = 0 → (w_X12_size (fun x4 => rg x4 → (xn32 (FP.fdiv (FP.i2f (J x4)) (FP.i2f (J x3))) = true ∧ K (FP.fdiv (FP.i2f (J x4)) (FP.i2f (J x3))))) h)) ∧ (¬ (¬ x3 = 0) → (K FP.fconst0))))) h)
set_option maxHeartbeats 4000000 in
theorem a_X12_share {sc : Nat × (Nat → Int32)} {goal : XO → XH → Prop} {fs : List XF} {h : XH}  {K : UInt32 → Prop} (hd : fs.length + 3 ≤ 1000) (w : w_X12_share  K h) (t0 : HT h) (k : ∀ (r : UInt32), K r → XFin xP sc goal fs (.inl (some (.float r))) h) : RR sc goal fs 149 0 [some (rv 2), none] [] h := by
  unfold w_X12_share at w
  refine r_aldn (pc1 := 1) rfl rfl rfl ?_
  refine r_gfC (pc1 := 4) (q := 8) rfl rfl rfl t0 (lyk t0 rfl) rfl rfl (lyR t0 rfl rfl) ?_
  refine r_iv rfl rfl rfl rfl rfl rfl t0 (lyk t0 rfl) rfl (xe_of (xa_r xa_0) rfl rfl) (r_d0 hd rfl) (a_X11_atHand  (r_d1 hd rfl)  w t0 (fun a1 w => ?_))
  refine r_fR (pc1 := 7) rfl ?_
  obtain ⟨c2, w⟩ := w
  refine r_gfI (pc1 := 10) rfl rfl rfl t0 c2 rfl rfl ?_
  refine r_vI (rgh _ _ _) (fun x3 ex3 rx3 => ?_)
  have w := w x3 ex3 rx3
  refine r_istn (pc1 := 11) (ls1 := [some (rv 2), some (.int (J x3))]) rfl rfl rfl rfl ?_
  refine r_n (pc1 := 12) [.int (J x3)] _ rfl rfl ?_
  refine r_iz (t := 17) (pc1 := 15) rfl rfl rfl rx3 (fun c6 => ?_) (fun c6 => ?_)
  · have w := w.1 c6
    refine r_aldn (pc1 := 18) rfl rfl rfl ?_
    refine r_iv rfl rfl rfl rfl rfl rfl t0 (lyk t0 rfl) rfl (xe_of (xa_r xa_0) rfl rfl) (r_d0 hd rfl) (a_X12_size  (r_d1 hd rfl)  w t0 (fun x4 rx4 w => ?_))
    refine r_fI (pc1 := 21) rfl ?_
    have w := w rx4
    refine r_n (pc1 := 22) [.float (FP.i2f (J x4))] _ rfl rfl ?_
    refine r_n (pc1 := 23) [.int (J x3), .float (FP.i2f (J x4))] _ rfl rfl ?_
    refine r_n (pc1 := 24) [.float (FP.i2f (J x3)), .float (FP.i2f (J x4))] _ rfl rfl ?_
    obtain ⟨c5, w⟩ := w
    refine r_fdiv (pc1 := 25) rfl rfl c5 ?_
    exact r_retF rfl rfl rfl (k _ w)
  · have w := w.2 c6
    refine r_n (pc1 := 16) [.float FP.fconst0] _ rfl rfl ?_
    exact r_retF rfl rfl rfl (k _ w)
def w_X14_share  (K : UInt32 → XH → Prop) (h : XH) : Prop :=
  (∀ h1 : XH, h1 = sI h 437 5 0 → HT h1 → HX h h1 → w_X14_rootAt 22 (fun x2 => rg x2 → (∃ J5 : UInt32 → XH → Prop, (∀ (f3 : UInt32) (h4 : XH), HT h4 → HX h h4 → J5 f3 h4 → (K f3 h4)) ∧ ((¬ x2 = 0 → (w_X14_installedSet (fun a6 h7 => HT h7 → HX h1 h7 → (w_X14_sizeOf a6 (fun x8 => rg x8 → (xn32 (FP.fdiv (FP.i2f (J x8)) (FP.i2f (J x2))) = true ∧ J5 (FP.fdiv (FP.i2f (J x8)) (FP.i2f (J x2))) h7)) h7)) h1)) ∧ (¬ (¬ x2 = 0) → (J5 FP.fconst0 h1))))) h1)
set_option maxHeartbeats 4000000 in
theorem a_X14_share {sc : Nat × (Nat → Int32)} {goal : XO → XH → Prop} {fs : List XF} {h : XH}  {K : UInt32 → XH → Prop} (hd : fs.length + 4 ≤ 1000) (w : w_X14_share  K h) (t0 : HT h) (k : ∀ (r : UInt32) (h1 : XH), HT h1 → HX h h1 → K r h1 → XFin xP sc goal fs (.inl (some (.float r))) h1) : RR sc goal fs 298 0 [some (rv 437), none] [] h := by
  unfold w_X14_share at w
  refine r_aldn (pc1 := 1) rfl rfl rfl ?_
  refine r_n (pc1 := 2) [.int (J 0), rv 437] _ rfl rfl ?_
  refine r_pfI (pc1 := 5) rfl rfl rfl t0 (lyk t0 rfl) rfl rfl rfl (fun h1 eh1 t1 u1 => ?_)
  have w := w h1 eh1 t1 u1
  have s1 := HX_trans (HX_refl h) u1
  refine r_aldn (pc1 := 6) rfl rfl rfl ?_
  refine r_n (pc1 := 8) [.int (J 22), rv 437] _ rfl rfl ?_
  refine r_iv rfl rfl rfl rfl rfl rfl t1 (lyk t1 rfl) rfl (xe_of (xa_r (xa_i xa_0)) rfl rfl) (r_d0 hd rfl) (a_X14_rootAt 22 (r_d1 hd rfl) (rgk rfl) w t1 (fun x2 rx2 w => ?_))
  refine r_fI (pc1 := 11) rfl ?_
  have w := w rx2
  refine r_istn (pc1 := 12) (ls1 := [some (rv 437), some (.int (J x2))]) rfl rfl rfl rfl ?_
  refine r_n (pc1 := 13) [.int (J x2)] _ rfl rfl ?_
  obtain ⟨J5, j5, w⟩ := w
  have Q5 : ∀ (f3 : UInt32) (h4 : XH), HT h4 → HX h h4 → J5 f3 h4 → RR sc goal fs 298 32 [some (rv 437), some (.int (J x2))] [.float f3] h4 := by
    intro f3 h4 t4 s4 z5
    have w := j5 f3 h4 t4 s4 z5
    exact r_retF rfl rfl rfl (k _ _ t4 s4 w)
  refine r_iz (t := 20) (pc1 := 16) rfl rfl rfl rx2 (fun c10 => ?_) (fun c10 => ?_)
  · have w := w.1 c10
    refine r_aldn (pc1 := 21) rfl rfl rfl ?_
    refine r_aldn (pc1 := 22) rfl rfl rfl ?_
    refine r_iv rfl rfl rfl rfl rfl rfl t1 (lyk t1 rfl) rfl (xe_of (xa_r xa_0) rfl rfl) (r_d0 hd rfl) (a_X14_installedSet  (r_d1 hd rfl)  w t1 (fun a6 h7 t7 u7 w => ?_))
    refine r_fR (pc1 := 25) rfl ?_
    have s7 := HX_trans s1 u7
    have w := w t7 u7
    refine r_iv rfl rfl rfl rfl rfl rfl t7 (lyk t7 rfl) rfl (xe_of (xa_r (xa_r xa_0)) rfl rfl) (r_d0 hd rfl) (a_X14_sizeOf a6 (r_d1 hd rfl)  w t7 (fun x8 rx8 w => ?_))
    refine r_fI (pc1 := 28) rfl ?_
    have w := w rx8
    refine r_n (pc1 := 29) [.float (FP.i2f (J x8))] _ rfl rfl ?_
    refine r_n (pc1 := 30) [.int (J x2), .float (FP.i2f (J x8))] _ rfl rfl ?_
    refine r_n (pc1 := 31) [.float (FP.i2f (J x2)), .float (FP.i2f (J x8))] _ rfl rfl ?_
    obtain ⟨c9, w⟩ := w
    refine r_fdiv (pc1 := 32) rfl rfl c9 ?_
    exact Q5  (FP.fdiv (FP.i2f (J x8)) (FP.i2f (J x2))) h7 t7 s7  w
  · have w := w.2 c10
    refine r_n (pc1 := 17) [.float FP.fconst0] _ rfl rfl ?_
    refine r_goto (t := 32) rfl rfl ?_
    exact Q5  FP.fconst0 h1 t1 s1  w
