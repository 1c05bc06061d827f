/-! printed by dec.py: what each method wants, and that the machine keeps it -/ 
def w_X14_isSpanHere  (K : Int → Prop) (h : XH) : Prop :=
  (∃ J2 : Int → Prop, (∀ (x1 : Int), rg x1 → J2 x1 → ((x1 = 0 ∨ x1 = 1) ∧ K x1)) ∧ ∃ J4 : Prop, (J4 → (J2 1)) ∧ ((hI h 437 15 = 1 → J4) ∧ (¬ (hI h 437 15 = 1) → (w_X14_isSign 42 (fun x5 => rg x5 → (x5 = 0 ∨ x5 = 1) → (((¬ x5 = 0 → J4) ∧ (¬ (¬ x5 = 0) → (w_X14_isSign 61 (fun x6 => rg x6 → (x6 = 0 ∨ x6 = 1) → (((¬ x6 = 0 → J4) ∧ (¬ (¬ x6 = 0) → (w_X14_isSign 62 (fun x7 => rg x7 → (x7 = 0 ∨ x7 = 1) → (((¬ x7 = 0 → J4) ∧ (¬ (¬ x7 = 0) → (w_X14_isSign 60 (fun x8 => rg x8 → (x8 = 0 ∨ x8 = 1) → (((¬ x8 = 0 → J4) ∧ (¬ (¬ x8 = 0) → (w_X14_isSign 94 (fun x9 => rg x9 → (x9 = 0 ∨ x9 = 1) → (((¬ x9 = 0 → J4) ∧ (¬ (¬ x9 = 0) → (w_X14_isSign 126 (fun x10 => rg x10 → (x10 = 0 ∨ x10 = 1) → (((x10 = 0 → (J2 0)) ∧ (¬ (x10 = 0) → J4)))) h))))) h))))) h))))) h))))) h))))) h))))
set_option maxHeartbeats 4000000 in
theorem a_X14_isSpanHere {sc : Nat × (Nat → Int32)} {goal : XO → XH → Prop} {fs : List XF} {h : XH}  {K : Int → Prop} (hd : fs.length + 1 ≤ 1000) (w : w_X14_isSpanHere  K h) (t0 : HT h) (k : ∀ (r : Int), rg r → (r = 0 ∨ r = 1) → K r → XFin xP sc goal fs (.inl (some (.int (J r)))) h) : RR sc goal fs 240 0 [some (rv 437)] [] h := by
  unfold w_X14_isSpanHere at w
  refine r_aldn (pc1 := 1) rfl rfl rfl ?_
  refine r_gfI (pc1 := 4) rfl rfl rfl t0 (lyk t0 rfl) rfl rfl ?_
  refine r_n (pc1 := 5) [.int (J 1), .int (J (hI h 437 15))] _ rfl rfl ?_
  obtain ⟨J2, j2, w⟩ := w
  have Q2 : ∀ (x1 : Int), rg x1 → J2 x1 → RR sc goal fs 240 67 [some (rv 437)] [.int (J x1)] h := by
    intro x1 rx1 z2
    have w := j2 x1 rx1 z2
    obtain ⟨c3, w⟩ := w
    exact r_retB rfl rfl rfl c3 (k _ rx1 c3 w)
  obtain ⟨J4, j4, w⟩ := w
  have Q4 : J4 → RR sc goal fs 240 62 [some (rv 437)] [] h := by
    intro z4
    have w := j4 z4
    refine r_n (pc1 := 63) [.int (J 1)] _ rfl rfl ?_
    refine r_goto (t := 67) rfl rfl ?_
    exact Q2  1  (rgk rfl) w
  refine r_ic (t := 62) (pc1 := 8) rfl rfl rfl (rgh _ _ _) (rgk rfl) (fun c17 => ?_) (fun c17 => ?_)
  · have w := w.1 c17
    exact Q4     w
  · have w := w.2 c17
    refine r_aldn (pc1 := 9) rfl rfl rfl ?_
    refine r_n (pc1 := 11) [.int (J 42), rv 437] _ rfl rfl ?_
    refine r_iv rfl rfl rfl rfl rfl rfl t0 (lyk t0 rfl) rfl (xe_of (xa_r (xa_i xa_0)) rfl rfl) (r_d0 hd rfl) (a_X14_isSign 42 (r_d1 hd rfl) (rgk rfl) w t0 (fun x5 rx5 vx5 w => ?_))
    refine r_fI (pc1 := 14) rfl ?_
    have w := w rx5 vx5
    refine r_iz (t := 62) (pc1 := 17) rfl rfl rfl rx5 (fun c16 => ?_) (fun c16 => ?_)
    · have w := w.1 c16
      exact Q4     w
    · have w := w.2 c16
      refine r_aldn (pc1 := 18) rfl rfl rfl ?_
      refine r_n (pc1 := 20) [.int (J 61), rv 437] _ rfl rfl ?_
      refine r_iv rfl rfl rfl rfl rfl rfl t0 (lyk t0 rfl) rfl (xe_of (xa_r (xa_i xa_0)) rfl rfl) (r_d0 hd rfl) (a_X14_isSign 61 (r_d1 hd rfl) (rgk rfl) w t0 (fun x6 rx6 vx6 w => ?_))
      refine r_fI (pc1 := 23) rfl ?_
      have w := w rx6 vx6
      refine r_iz (t := 62) (pc1 := 26) rfl rfl rfl rx6 (fun c15 => ?_) (fun c15 => ?_)
      · have w := w.1 c15
        exact Q4     w
      · have w := w.2 c15
        refine r_aldn (pc1 := 27) rfl rfl rfl ?_
        refine r_n (pc1 := 29) [.int (J 62), rv 437] _ rfl rfl ?_
        refine r_iv rfl rfl rfl rfl rfl rfl t0 (lyk t0 rfl) rfl (xe_of (xa_r (xa_i xa_0)) rfl rfl) (r_d0 hd rfl) (a_X14_isSign 62 (r_d1 hd rfl) (rgk rfl) w t0 (fun x7 rx7 vx7 w => ?_))
        refine r_fI (pc1 := 32) rfl ?_
        have w := w rx7 vx7
        refine r_iz (t := 62) (pc1 := 35) rfl rfl rfl rx7 (fun c14 => ?_) (fun c14 => ?_)
        · have w := w.1 c14
          exact Q4     w
        · have w := w.2 c14
          refine r_aldn (pc1 := 36) rfl rfl rfl ?_
          refine r_n (pc1 := 38) [.int (J 60), rv 437] _ rfl rfl ?_
          refine r_iv rfl rfl rfl rfl rfl rfl t0 (lyk t0 rfl) rfl (xe_of (xa_r (xa_i xa_0)) rfl rfl) (r_d0 hd rfl) (a_X14_isSign 60 (r_d1 hd rfl) (rgk rfl) w t0 (fun x8 rx8 vx8 w => ?_))
          refine r_fI (pc1 := 41) rfl ?_
          have w := w rx8 vx8
          refine r_iz (t := 62) (pc1 := 44) rfl rfl rfl rx8 (fun c13 => ?_) (fun c13 => ?_)
          · have w := w.1 c13
            exact Q4     w
          · have w := w.2 c13
            refine r_aldn (pc1 := 45) rfl rfl rfl ?_
            refine r_n (pc1 := 47) [.int (J 94), rv 437] _ rfl rfl ?_
            refine r_iv rfl rfl rfl rfl rfl rfl t0 (lyk t0 rfl) rfl (xe_of (xa_r (xa_i xa_0)) rfl rfl) (r_d0 hd rfl) (a_X14_isSign 94 (r_d1 hd rfl) (rgk rfl) w t0 (fun x9 rx9 vx9 w => ?_))
            refine r_fI (pc1 := 50) rfl ?_
            have w := w rx9 vx9
            refine r_iz (t := 62) (pc1 := 53) rfl rfl rfl rx9 (fun c12 => ?_) (fun c12 => ?_)
            · have w := w.1 c12
              exact Q4     w
            · have w := w.2 c12
              refine r_aldn (pc1 := 54) rfl rfl rfl ?_
              refine r_n (pc1 := 56) [.int (J 126), rv 437] _ rfl rfl ?_
              refine r_iv rfl rfl rfl rfl rfl rfl t0 (lyk t0 rfl) rfl (xe_of (xa_r (xa_i xa_0)) rfl rfl) (r_d0 hd rfl) (a_X14_isSign 126 (r_d1 hd rfl) (rgk rfl) w t0 (fun x10 rx10 vx10 w => ?_))
              refine r_fI (pc1 := 59) rfl ?_
              have w := w rx10 vx10
              refine r_iz (t := 66) (pc1 := 62) rfl rfl rfl rx10 (fun c11 => ?_) (fun c11 => ?_)
              · have w := w.1 c11
                refine r_n (pc1 := 67) [.int (J 0)] _ rfl rfl ?_
                exact Q2  0  (rgk rfl) w
              · have w := w.2 c11
                exact Q4     w
def w_X14_readAtom  (K : Int → XH → Prop) (h : XH) : Prop :=
  (w_X14_readLetter (fun x1 h2 => HT h2 → HX h h2 → rg x1 → (x1 = 0 ∨ x1 = 1) → (∃ J5 : Int → XH → Prop, (∀ (x3 : Int) (h4 : XH), HT h4 → HX h h4 → rg x3 → J5 x3 h4 → ((x3 = 0 ∨ x3 = 1) ∧ K x3 h4)) ∧ ∃ J8 : XH → Prop, (∀ (h7 : XH), HT h7 → HX h h7 → J8 h7 → (J5 0 h7)) ∧ ((x1 = 0 → J8 h2) ∧ (¬ (x1 = 0) → (w_X14_isSpanHere (fun x9 => rg x9 → (x9 = 0 ∨ x9 = 1) → (∃ J11 : XH → Prop, (∀ (h10 : XH), HT h10 → HX h h10 → J11 h10 → (J5 1 h10)) ∧ ((x9 = 0 → J11 h2) ∧ (¬ (x9 = 0) → (w_X14_readRange (fun x12 h13 => HT h13 → HX h2 h13 → rg x12 → (x12 = 0 ∨ x12 = 1) → (((x12 = 0 → J8 h13) ∧ (¬ (x12 = 0) → J11 h13)))) h2))))) h2))))) h)
set_option maxHeartbeats 4000000 in
theorem a_X14_readAtom {sc : Nat × (Nat → Int32)} {goal : XO → XH → Prop} {fs : List XF} {h : XH}  {K : Int → XH → Prop} (hd : fs.length + 6 ≤ 1000) (w : w_X14_readAtom  K h) (t0 : HT h) (k : ∀ (r : Int) (h1 : XH), HT h1 → HX h h1 → rg r → (r = 0 ∨ r = 1) → K r h1 → XFin xP sc goal fs (.inl (some (.int (J r)))) h1) : RR sc goal fs 281 0 [some (rv 437)] [] h := by
  unfold w_X14_readAtom at w
  refine r_aldn (pc1 := 1) rfl rfl rfl ?_
  refine r_iv rfl rfl rfl rfl rfl rfl t0 (lyk t0 rfl) rfl (xe_of (xa_r xa_0) rfl rfl) (r_d0 hd rfl) (a_X14_readLetter  (r_d1 hd rfl)  w t0 (fun x1 h2 t2 u2 rx1 vx1 w => ?_))
  refine r_fI (pc1 := 4) rfl ?_
  have s2 := HX_trans (HX_refl h) u2
  have w := w t2 u2
  have w := w rx1 vx1
  obtain ⟨J5, j5, w⟩ := w
  have Q5 : ∀ (x3 : Int) (h4 : XH), HT h4 → HX h h4 → rg x3 → J5 x3 h4 → RR sc goal fs 281 26 [some (rv 437)] [.int (J x3)] h4 := by
    intro x3 h4 t4 s4 rx3 z5
    have w := j5 x3 h4 t4 s4 rx3 z5
    obtain ⟨c6, w⟩ := w
    exact r_retB rfl rfl rfl c6 (k _ _ t4 s4 rx3 c6 w)
  obtain ⟨J8, j8, w⟩ := w
  have Q8 : ∀ (h7 : XH), HT h7 → HX h h7 → J8 h7 → RR sc goal fs 281 25 [some (rv 437)] [] h7 := by
    intro h7 t7 s7 z8
    have w := j8 h7 t7 s7 z8
    refine r_n (pc1 := 26) [.int (J 0)] _ rfl rfl ?_
    exact Q5  0 h7 t7 s7 (rgk rfl) w
  refine r_iz (t := 25) (pc1 := 7) rfl rfl rfl rx1 (fun c16 => ?_) (fun c16 => ?_)
  · have w := w.1 c16
    exact Q8   h2 t2 s2  w
  · have w := w.2 c16
    refine r_aldn (pc1 := 8) rfl rfl rfl ?_
    refine r_iv rfl rfl rfl rfl rfl rfl t2 (lyk t2 rfl) rfl (xe_of (xa_r xa_0) rfl rfl) (r_d0 hd rfl) (a_X14_isSpanHere  (r_d1 hd rfl)  w t2 (fun x9 rx9 vx9 w => ?_))
    refine r_fI (pc1 := 11) rfl ?_
    have w := w rx9 vx9
    obtain ⟨J11, j11, w⟩ := w
    have Q11 : ∀ (h10 : XH), HT h10 → HX h h10 → J11 h10 → RR sc goal fs 281 21 [some (rv 437)] [] h10 := by
      intro h10 t10 s10 z11
      have w := j11 h10 t10 s10 z11
      refine r_n (pc1 := 22) [.int (J 1)] _ rfl rfl ?_
      refine r_goto (t := 26) rfl rfl ?_
      exact Q5  1 h10 t10 s10 (rgk rfl) w
    refine r_iz (t := 21) (pc1 := 14) rfl rfl rfl rx9 (fun c15 => ?_) (fun c15 => ?_)
    · have w := w.1 c15
      exact Q11   h2 t2 s2  w
    · have w := w.2 c15
      refine r_aldn (pc1 := 15) rfl rfl rfl ?_
      refine r_iv rfl rfl rfl rfl rfl rfl t2 (lyk t2 rfl) rfl (xe_of (xa_r xa_0) rfl rfl) (r_d0 hd rfl) (a_X14_readRange  (r_d1 hd rfl)  w t2 (fun x12 h13 t13 u13 rx12 vx12 w => ?_))
      refine r_fI (pc1 := 18) rfl ?_
      have s13 := HX_trans s2 u13
      have w := w t13 u13
      have w := w rx12 vx12
      refine r_iz (t := 25) (pc1 := 21) rfl rfl rfl rx12 (fun c14 => ?_) (fun c14 => ?_)
      · have w := w.1 c14
        exact Q8   h13 t13 s13  w
      · have w := w.2 c14
        exact Q11   h13 t13 s13  w
def w_X14_readNeed  (K : Nat → XH → Prop) (h : XH) : Prop :=
  (w_X14_startText (fun h1 => HT h1 → HX h h1 → (w_X14_readLetter (fun x2 h3 => HT h3 → HX h1 h3 → rg x2 → (x2 = 0 ∨ x2 = 1) → (((¬ x2 = 0 → (w_X14_isSign 35 (fun x4 => rg x4 → (x4 = 0 ∨ x4 = 1) → (((x4 = 0 → (w_X14_isSpanHere (fun x5 => rg x5 → (x5 = 0 ∨ x5 = 1) → (∃ J8 : Int → XH → Prop, (∀ (x6 : Int) (h7 : XH), HT h7 → HX h h7 → rg x6 → J8 x6 h7 → ((∃ (I11 : Int → XH → Prop) (m11 : Int → XH → Nat), I11 x6 h7 ∧ ∀ (x9 : Int) (h10 : XH), HT h10 → HX h h10 → rg x9 → I11 x9 h10 → (∃ J12 : Prop, (J12 → (∃ J15 : Int → XH → Prop, (∀ (x13 : Int) (h14 : XH), HT h14 → HX h h14 → rg x13 → J15 x13 h14 → (w_X14_taken x13 0 (fun a16 h17 => HT h17 → HX h14 h17 → (K a16 h17)) h14)) ∧ ∃ J19 : XH → Prop, (∀ (h18 : XH), HT h18 → HX h h18 → J19 h18 → (J15 0 h18)) ∧ ((x9 = 0 → J19 h10) ∧ (¬ (x9 = 0) → (w_X14_isEnd (fun x20 h21 => HT h21 → HX h10 h21 → rg x20 → (x20 = 0 ∨ x20 = 1) → (((x20 = 0 → J19 h21) ∧ (¬ (x20 = 0) → (J15 1 h21))))) h10))))) ∧ ((x9 = 0 → J12) ∧ (¬ (x9 = 0) → (w_X14_isSign 124 (fun x24 => rg x24 → (x24 = 0 ∨ x24 = 1) → (((x24 = 0 → J12) ∧ (¬ (x24 = 0) → (w_X14_next (fun h25 => HT h25 → HX h10 h25 → (w_X14_readAtom (fun x26 h27 => HT h27 → HX h25 h27 → rg x26 → (x26 = 0 ∨ x26 = 1) → ((I11 x26 h27 ∧ m11 x26 h27 < m11 x9 h10))) h25)) h10))))) h10))))))) ∧ ∃ J31 : XH → Prop, (∀ (h30 : XH), HT h30 → HX h h30 → J31 h30 → (J8 1 h30)) ∧ ((x5 = 0 → J31 h3) ∧ (¬ (x5 = 0) → (w_X14_readRange (fun x32 h33 => HT h33 → HX h3 h33 → rg x32 → (x32 = 0 ∨ x32 = 1) → (((x32 = 0 → (J8 0 h33)) ∧ (¬ (x32 = 0) → J31 h33)))) h3))))) h3)) ∧ (¬ (x4 = 0) → (w_X14_next (fun h36 => HT h36 → HX h3 h36 → (∃ J39 : Int → XH → Prop, (∀ (x37 : Int) (h38 : XH), HT h38 → HX h h38 → rg x37 → J39 x37 h38 → (w_X14_taken x37 1 (fun a40 h41 => HT h41 → HX h38 h41 → (K a40 h41)) h38)) ∧ ∃ J43 : XH → Prop, (∀ (h42 : XH), HT h42 → HX h h42 → J43 h42 → (J39 0 h42)) ∧ ∃ J45 : XH → Prop, (∀ (h44 : XH), HT h44 → HX h h44 → J45 h44 → (w_X14_isEnd (fun x46 h47 => HT h47 → HX h44 h47 → rg x46 → (x46 = 0 ∨ x46 = 1) → (((x46 = 0 → J43 h47) ∧ (¬ (x46 = 0) → (J39 1 h47))))) h44)) ∧ ((hI h36 437 15 = 5 → J45 h36) ∧ (¬ (hI h36 437 15 = 5) → (w_X14_readRange (fun x49 h50 => HT h50 → HX h36 h50 → rg x49 → (x49 = 0 ∨ x49 = 1) → (((x49 = 0 → J43 h50) ∧ (¬ (x49 = 0) → J45 h50)))) h36))))) h3))))) h3)) ∧ (¬ (¬ x2 = 0) → (w_X14_taken 0 0 (fun a54 h55 => HT h55 → HX h3 h55 → (K a54 h55)) h3))))) h1)) h)
set_option maxHeartbeats 4000000 in
theorem a_X14_readNeed {sc : Nat × (Nat → Int32)} {goal : XO → XH → Prop} {fs : List XF} {h : XH}  {K : Nat → XH → Prop} (hd : fs.length + 7 ≤ 1000) (w : w_X14_readNeed  K h) (t0 : HT h) (k : ∀ (r : Nat) (h1 : XH), HT h1 → HX h h1 → K r h1 → XFin xP sc goal fs (.inl (some (rv r))) h1) : RR sc goal fs 284 0 [some (rv 437), none] [] h := by
  unfold w_X14_readNeed at w
  refine r_aldn (pc1 := 1) rfl rfl rfl ?_
  refine r_iv rfl rfl rfl rfl rfl rfl t0 (lyk t0 rfl) rfl (xe_of (xa_r xa_0) rfl rfl) (r_d0 hd rfl) (a_X14_startText  (r_d1 hd rfl)  w t0 (fun h1 t1 u1 w => ?_))
  refine r_fV (pc1 := 4) rfl ?_
  have s1 := HX_trans (HX_refl h) u1
  have w := w t1 u1
  refine r_aldn (pc1 := 5) rfl rfl rfl ?_
  refine r_iv rfl rfl rfl rfl rfl rfl t1 (lyk t1 rfl) rfl (xe_of (xa_r xa_0) rfl rfl) (r_d0 hd rfl) (a_X14_readLetter  (r_d1 hd rfl)  w t1 (fun x2 h3 t3 u3 rx2 vx2 w => ?_))
  refine r_fI (pc1 := 8) rfl ?_
  have s3 := HX_trans s1 u3
  have w := w t3 u3
  have w := w rx2 vx2
  refine r_iz (t := 18) (pc1 := 11) rfl rfl rfl rx2 (fun c56 => ?_) (fun c56 => ?_)
  · have w := w.1 c56
    refine r_aldn (pc1 := 19) rfl rfl rfl ?_
    refine r_n (pc1 := 21) [.int (J 35), rv 437] _ rfl rfl ?_
    refine r_iv rfl rfl rfl rfl rfl rfl t3 (lyk t3 rfl) rfl (xe_of (xa_r (xa_i xa_0)) rfl rfl) (r_d0 hd rfl) (a_X14_isSign 35 (r_d1 hd rfl) (rgk rfl) w t3 (fun x4 rx4 vx4 w => ?_))
    refine r_fI (pc1 := 24) rfl ?_
    have w := w rx4 vx4
    refine r_iz (t := 64) (pc1 := 27) rfl rfl rfl rx4 (fun c53 => ?_) (fun c53 => ?_)
    · have w := w.1 c53
      refine r_aldn (pc1 := 65) rfl rfl rfl ?_
      refine r_iv rfl rfl rfl rfl rfl rfl t3 (lyk t3 rfl) rfl (xe_of (xa_r xa_0) rfl rfl) (r_d0 hd rfl) (a_X14_isSpanHere  (r_d1 hd rfl)  w t3 (fun x5 rx5 vx5 w => ?_))
      refine r_fI (pc1 := 68) rfl ?_
      have w := w rx5 vx5
      obtain ⟨J8, j8, w⟩ := w
      have Q8 : ∀ (x6 : Int) (h7 : XH), HT h7 → HX h h7 → rg x6 → J8 x6 h7 → RR sc goal fs 284 83 [some (rv 437), none] [.int (J x6)] h7 := by
        intro x6 h7 t7 s7 rx6 z8
        have w := j8 x6 h7 t7 s7 rx6 z8
        refine r_istn (pc1 := 84) (ls1 := [some (rv 437), some (.int (J x6))]) rfl rfl rfl rfl ?_
        obtain ⟨I11, m11, w, y11⟩ := w
        have Q11 : ∀ (n : Nat)  (x9 : Int) (h10 : XH), HT h10 → HX h h10 → rg x9 → m11 x9 h10 < n → I11 x9 h10 → RR sc goal fs 284 84 [some (rv 437), some (.int (J x9))] [] h10 := by
          intro n
          induction n with
          | zero => intro x9 h10 t10 s10 rx9 q11 _; exact absurd q11 (Nat.not_lt_zero _)
          | succ n ih11 =>
            intro x9 h10 t10 s10 rx9 q11 z11
            have w := y11 x9 h10 t10 s10 rx9 z11
            refine r_n (pc1 := 85) [.int (J x9)] _ rfl rfl ?_
            obtain ⟨J12, j12, w⟩ := w
            have Q12 : J12 → RR sc goal fs 284 109 [some (rv 437), some (.int (J x9))] [] h10 := by
              intro z12
              have w := j12 z12
              refine r_aldn (pc1 := 110) rfl rfl rfl ?_
              refine r_n (pc1 := 111) [.int (J x9), rv 437] _ rfl rfl ?_
              obtain ⟨J15, j15, w⟩ := w
              have Q15 : ∀ (x13 : Int) (h14 : XH), HT h14 → HX h h14 → rg x13 → J15 x13 h14 → RR sc goal fs 284 126 [some (rv 437), some (.int (J x9))] [.int (J x13), rv 437] h14 := by
                intro x13 h14 t14 s14 rx13 z15
                have w := j15 x13 h14 t14 s14 rx13 z15
                refine r_n (pc1 := 127) [.int (J 0), .int (J x13), rv 437] _ rfl rfl ?_
                refine r_iv rfl rfl rfl rfl rfl rfl t14 (lyk t14 rfl) rfl (xe_of (xa_r (xa_i (xa_i xa_0))) rfl rfl) (r_d0 hd rfl) (a_X14_taken x13 0 (r_d1 hd rfl) rx13 (rgk rfl) w t14 (fun a16 h17 t17 u17 w => ?_))
                refine r_fR (pc1 := 130) rfl ?_
                have s17 := HX_trans s14 u17
                have w := w t17 u17
                exact r_retR rfl rfl rfl xok_O xokr_O (k _ _ t17 s17 w)
              obtain ⟨J19, j19, w⟩ := w
              have Q19 : ∀ (h18 : XH), HT h18 → HX h h18 → J19 h18 → RR sc goal fs 284 125 [some (rv 437), some (.int (J x9))] [rv 437] h18 := by
                intro h18 t18 s18 z19
                have w := j19 h18 t18 s18 z19
                refine r_n (pc1 := 126) [.int (J 0), rv 437] _ rfl rfl ?_
                exact Q15  0 h18 t18 s18 (rgk rfl) w
              refine r_iz (t := 125) (pc1 := 114) rfl rfl rfl rx9 (fun c23 => ?_) (fun c23 => ?_)
              · have w := w.1 c23
                exact Q19   h10 t10 s10  w
              · have w := w.2 c23
                refine r_aldn (pc1 := 115) rfl rfl rfl ?_
                refine r_iv rfl rfl rfl rfl rfl rfl t10 (lyk t10 rfl) rfl (xe_of (xa_r xa_0) rfl rfl) (r_d0 hd rfl) (a_X14_isEnd  (r_d1 hd rfl)  w t10 (fun x20 h21 t21 u21 rx20 vx20 w => ?_))
                refine r_fI (pc1 := 118) rfl ?_
                have s21 := HX_trans s10 u21
                have w := w t21 u21
                have w := w rx20 vx20
                refine r_iz (t := 125) (pc1 := 121) rfl rfl rfl rx20 (fun c22 => ?_) (fun c22 => ?_)
                · have w := w.1 c22
                  exact Q19   h21 t21 s21  w
                · have w := w.2 c22
                  refine r_n (pc1 := 122) [.int (J 1), rv 437] _ rfl rfl ?_
                  refine r_goto (t := 126) rfl rfl ?_
                  exact Q15  1 h21 t21 s21 (rgk rfl) w
            refine r_iz (t := 109) (pc1 := 88) rfl rfl rfl rx9 (fun c29 => ?_) (fun c29 => ?_)
            · have w := w.1 c29
              exact Q12     w
            · have w := w.2 c29
              refine r_aldn (pc1 := 89) rfl rfl rfl ?_
              refine r_n (pc1 := 91) [.int (J 124), rv 437] _ rfl rfl ?_
              refine r_iv rfl rfl rfl rfl rfl rfl t10 (lyk t10 rfl) rfl (xe_of (xa_r (xa_i xa_0)) rfl rfl) (r_d0 hd rfl) (a_X14_isSign 124 (r_d1 hd rfl) (rgk rfl) w t10 (fun x24 rx24 vx24 w => ?_))
              refine r_fI (pc1 := 94) rfl ?_
              have w := w rx24 vx24
              refine r_iz (t := 109) (pc1 := 97) rfl rfl rfl rx24 (fun c28 => ?_) (fun c28 => ?_)
              · have w := w.1 c28
                exact Q12     w
              · have w := w.2 c28
                refine r_aldn (pc1 := 98) rfl rfl rfl ?_
                refine r_iv rfl rfl rfl rfl rfl rfl t10 (lyk t10 rfl) rfl (xe_of (xa_r xa_0) rfl rfl) (r_d0 hd rfl) (a_X14_next  (r_d1 hd rfl)  w t10 (fun h25 t25 u25 w => ?_))
                refine r_fV (pc1 := 101) rfl ?_
                have s25 := HX_trans s10 u25
                have w := w t25 u25
                refine r_aldn (pc1 := 102) rfl rfl rfl ?_
                refine r_iv rfl rfl rfl rfl rfl rfl t25 (lyk t25 rfl) rfl (xe_of (xa_r xa_0) rfl rfl) (r_d0 hd rfl) (a_X14_readAtom  (r_d1 hd rfl)  w t25 (fun x26 h27 t27 u27 rx26 vx26 w => ?_))
                refine r_fI (pc1 := 105) rfl ?_
                have s27 := HX_trans s25 u27
                have w := w t27 u27
                have w := w rx26 vx26
                refine r_istn (pc1 := 106) (ls1 := [some (rv 437), some (.int (J x26))]) rfl rfl rfl rfl ?_
                refine r_goto (t := 84) rfl rfl ?_
                exact ih11  x26 h27 t27 s27 rx26 (Nat.lt_of_lt_of_le w.2 (Nat.le_of_lt_succ q11)) w.1
        exact Q11 _  x6 h7 t7 s7 rx6 (Nat.lt_succ_self _) w
      obtain ⟨J31, j31, w⟩ := w
      have Q31 : ∀ (h30 : XH), HT h30 → HX h h30 → J31 h30 → RR sc goal fs 284 78 [some (rv 437), none] [] h30 := by
        intro h30 t30 s30 z31
        have w := j31 h30 t30 s30 z31
        refine r_n (pc1 := 79) [.int (J 1)] _ rfl rfl ?_
        refine r_goto (t := 83) rfl rfl ?_
        exact Q8  1 h30 t30 s30 (rgk rfl) w
      refine r_iz (t := 78) (pc1 := 71) rfl rfl rfl rx5 (fun c35 => ?_) (fun c35 => ?_)
      · have w := w.1 c35
        exact Q31   h3 t3 s3  w
      · have w := w.2 c35
        refine r_aldn (pc1 := 72) rfl rfl rfl ?_
        refine r_iv rfl rfl rfl rfl rfl rfl t3 (lyk t3 rfl) rfl (xe_of (xa_r xa_0) rfl rfl) (r_d0 hd rfl) (a_X14_readRange  (r_d1 hd rfl)  w t3 (fun x32 h33 t33 u33 rx32 vx32 w => ?_))
        refine r_fI (pc1 := 75) rfl ?_
        have s33 := HX_trans s3 u33
        have w := w t33 u33
        have w := w rx32 vx32
        refine r_iz (t := 82) (pc1 := 78) rfl rfl rfl rx32 (fun c34 => ?_) (fun c34 => ?_)
        · have w := w.1 c34
          refine r_n (pc1 := 83) [.int (J 0)] _ rfl rfl ?_
          exact Q8  0 h33 t33 s33 (rgk rfl) w
        · have w := w.2 c34
          exact Q31   h33 t33 s33  w
    · have w := w.2 c53
      refine r_aldn (pc1 := 28) rfl rfl rfl ?_
      refine r_iv rfl rfl rfl rfl rfl rfl t3 (lyk t3 rfl) rfl (xe_of (xa_r xa_0) rfl rfl) (r_d0 hd rfl) (a_X14_next  (r_d1 hd rfl)  w t3 (fun h36 t36 u36 w => ?_))
      refine r_fV (pc1 := 31) rfl ?_
      have s36 := HX_trans s3 u36
      have w := w t36 u36
      refine r_aldn (pc1 := 32) rfl rfl rfl ?_
      refine r_aldn (pc1 := 33) rfl rfl rfl ?_
      refine r_gfI (pc1 := 36) rfl rfl rfl t36 (lyk t36 rfl) rfl rfl ?_
      refine r_n (pc1 := 37) [.int (J 5), .int (J (hI h36 437 15)), rv 437] _ rfl rfl ?_
      obtain ⟨J39, j39, w⟩ := w
      have Q39 : ∀ (x37 : Int) (h38 : XH), HT h38 → HX h h38 → rg x37 → J39 x37 h38 → RR sc goal fs 284 59 [some (rv 437), none] [.int (J x37), rv 437] h38 := by
        intro x37 h38 t38 s38 rx37 z39
        have w := j39 x37 h38 t38 s38 rx37 z39
        refine r_n (pc1 := 60) [.int (J 1), .int (J x37), rv 437] _ rfl rfl ?_
        refine r_iv rfl rfl rfl rfl rfl rfl t38 (lyk t38 rfl) rfl (xe_of (xa_r (xa_i (xa_i xa_0))) rfl rfl) (r_d0 hd rfl) (a_X14_taken x37 1 (r_d1 hd rfl) rx37 (rgk rfl) w t38 (fun a40 h41 t41 u41 w => ?_))
        refine r_fR (pc1 := 63) rfl ?_
        have s41 := HX_trans s38 u41
        have w := w t41 u41
        exact r_retR rfl rfl rfl xok_O xokr_O (k _ _ t41 s41 w)
      obtain ⟨J43, j43, w⟩ := w
      have Q43 : ∀ (h42 : XH), HT h42 → HX h h42 → J43 h42 → RR sc goal fs 284 58 [some (rv 437), none] [rv 437] h42 := by
        intro h42 t42 s42 z43
        have w := j43 h42 t42 s42 z43
        refine r_n (pc1 := 59) [.int (J 0), rv 437] _ rfl rfl ?_
        exact Q39  0 h42 t42 s42 (rgk rfl) w
      obtain ⟨J45, j45, w⟩ := w
      have Q45 : ∀ (h44 : XH), HT h44 → HX h h44 → J45 h44 → RR sc goal fs 284 47 [some (rv 437), none] [rv 437] h44 := by
        intro h44 t44 s44 z45
        have w := j45 h44 t44 s44 z45
        refine r_aldn (pc1 := 48) rfl rfl rfl ?_
        refine r_iv rfl rfl rfl rfl rfl rfl t44 (lyk t44 rfl) rfl (xe_of (xa_r xa_0) rfl rfl) (r_d0 hd rfl) (a_X14_isEnd  (r_d1 hd rfl)  w t44 (fun x46 h47 t47 u47 rx46 vx46 w => ?_))
        refine r_fI (pc1 := 51) rfl ?_
        have s47 := HX_trans s44 u47
        have w := w t47 u47
        have w := w rx46 vx46
        refine r_iz (t := 58) (pc1 := 54) rfl rfl rfl rx46 (fun c48 => ?_) (fun c48 => ?_)
        · have w := w.1 c48
          exact Q43   h47 t47 s47  w
        · have w := w.2 c48
          refine r_n (pc1 := 55) [.int (J 1), rv 437] _ rfl rfl ?_
          refine r_goto (t := 59) rfl rfl ?_
          exact Q39  1 h47 t47 s47 (rgk rfl) w
      refine r_ic (t := 47) (pc1 := 40) rfl rfl rfl (rgh _ _ _) (rgk rfl) (fun c52 => ?_) (fun c52 => ?_)
      · have w := w.1 c52
        exact Q45   h36 t36 s36  w
      · have w := w.2 c52
        refine r_aldn (pc1 := 41) rfl rfl rfl ?_
        refine r_iv rfl rfl rfl rfl rfl rfl t36 (lyk t36 rfl) rfl (xe_of (xa_r xa_0) rfl rfl) (r_d0 hd rfl) (a_X14_readRange  (r_d1 hd rfl)  w t36 (fun x49 h50 t50 u50 rx49 vx49 w => ?_))
        refine r_fI (pc1 := 44) rfl ?_
        have s50 := HX_trans s36 u50
        have w := w t50 u50
        have w := w rx49 vx49
        refine r_iz (t := 58) (pc1 := 47) rfl rfl rfl rx49 (fun c51 => ?_) (fun c51 => ?_)
        · have w := w.1 c51
          exact Q43   h50 t50 s50  w
        · have w := w.2 c51
          exact Q45   h50 t50 s50  w
  · have w := w.2 c56
    refine r_aldn (pc1 := 12) rfl rfl rfl ?_
    refine r_n (pc1 := 13) [.int (J 0), rv 437] _ rfl rfl ?_
    refine r_n (pc1 := 14) [.int (J 0), .int (J 0), rv 437] _ rfl rfl ?_
    refine r_iv rfl rfl rfl rfl rfl rfl t3 (lyk t3 rfl) rfl (xe_of (xa_r (xa_i (xa_i xa_0))) rfl rfl) (r_d0 hd rfl) (a_X14_taken 0 0 (r_d1 hd rfl) (rgk rfl) (rgk rfl) w t3 (fun a54 h55 t55 u55 w => ?_))
    refine r_fR (pc1 := 17) rfl ?_
    have s55 := HX_trans s3 u55
    have w := w t55 u55
    exact r_retR rfl rfl rfl xok_O xokr_O (k _ _ t55 s55 w)
def w_X14_keep (p0 : Nat) (K : Int → XH → Prop) (h : XH) : Prop :=
  (hk h (hR h 437 6) = 106 ∧ (hn h (hR h 437 6) : Int) < 2147483648 ∧ ∃ J5 : XH → Prop, (∀ (h4 : XH), HT h4 → HX h h4 → J5 h4 → (hk h4 (hR h4 437 6) = 106 ∧ (0 ≤ hI h4 437 7 ∧ hI h4 437 7 < (hn h4 (hR h4 437 6) : Int)) ∧ (p0 = 0 ∨ hk h4 p0 = 14) ∧ ∀ h9 : XH, h9 = sR h4 (hR h4 437 6) (hI h4 437 7).toNat p0 → HT h9 → HX h4 h9 → ∀ h10 : XH, h10 = sI h9 437 7 (wr ((hI h9 437 7) + 1)) → HT h10 → HX h9 h10 → K (wr ((hI h10 437 7) - 1)) h10)) ∧ ((¬ hI h 437 7 = (hn h (hR h 437 6) : Int) → J5 h) ∧ (¬ (¬ hI h 437 7 = (hn h (hR h 437 6) : Int)) → ((0 ≤ wr (2 * (hI h 437 7)) ∧ wr (2 * (hI h 437 7)) < 67108864) ∧ ∀ (a12 : Nat) (h13 : XH), a12 = h.length → h13 = nA h 6 (wr (2 * (hI h 437 7))).toNat → HT h13 → HX h h13 → hk h13 a12 = 106 → hn h13 a12 = (wr (2 * (hI h 437 7))).toNat → hk h13 (hR h13 437 6) = 106 ∧ (¬ hR h13 437 6 = a12 ∧ (0 : Int) ≤ 0 ∧ (0 : Int) ≤ 0 ∧ (0 : Int) ≤ hI h13 437 7 ∧ ((0 + (hI h13 437 7) : Int)) ≤ (hn h13 (hR h13 437 6) : Int) ∧ ((0 + (hI h13 437 7) : Int)) ≤ (hn h13 a12 : Int)) ∧ ∀ h16 : XH, h16 = cA h13 (hR h13 437 6) 0 a12 0 (hI h13 437 7).toNat → HT h16 → HX h13 h16 → ∀ h17 : XH, h17 = sR h16 437 6 a12 → HT h17 → HX h16 h17 → J5 h17))))
set_option maxHeartbeats 4000000 in
theorem a_X14_keep {sc : Nat × (Nat → Int32)} {goal : XO → XH → Prop} {fs : List XF} {h : XH} (p0 : Nat) {K : Int → XH → Prop} (hd : fs.length + 0 ≤ 1000) (w : w_X14_keep p0 K h) (t0 : HT h) (k : ∀ (r : Int) (h1 : XH), HT h1 → HX h h1 → rg r → K r h1 → XFin xP sc goal fs (.inl (some (.int (J r)))) h1) : RR sc goal fs 244 0 [some (rv 437), some (rv p0), none] [] h := by
  unfold w_X14_keep at w
  refine r_aldn (pc1 := 1) rfl rfl rfl ?_
  refine r_gfI (pc1 := 4) rfl rfl rfl t0 (lyk t0 rfl) rfl rfl ?_
  refine r_aldn (pc1 := 5) rfl rfl rfl ?_
  refine r_gfR (pc1 := 8) rfl rfl rfl t0 (lyk t0 rfl) rfl rfl ?_
  obtain ⟨c1, w⟩ := w
  obtain ⟨c2, w⟩ := w
  refine r_len (pc1 := 9) (u := 6) rfl rfl t0 c1 (by decide) (fun rc2 => ?_) c2
  obtain ⟨J5, j5, w⟩ := w
  have Q5 : ∀ (d3 : Option Value) (h4 : XH), HT h4 → HX h h4 → J5 h4 → RR sc goal fs 244 41 [some (rv 437), some (rv p0), d3] [] h4 := by
    intro d3 h4 t4 s4 z5
    have w := j5 h4 t4 s4 z5
    refine r_aldn (pc1 := 42) rfl rfl rfl ?_
    refine r_gfR (pc1 := 45) rfl rfl rfl t4 (lyk t4 rfl) rfl rfl ?_
    refine r_aldn (pc1 := 46) rfl rfl rfl ?_
    refine r_gfI (pc1 := 49) rfl rfl rfl t4 (lyk t4 rfl) rfl rfl ?_
    refine r_aldn (pc1 := 50) rfl rfl rfl ?_
    obtain ⟨c6, w⟩ := w
    obtain ⟨c7, w⟩ := w
    obtain ⟨c8, w⟩ := w
    refine r_aast (pc1 := 51) (u := 6) rfl rfl t4 c6 (.inr (.inr (.inl rfl))) (c8.elim .inl (fun q => .inr (.inr (.inr (.inl ⟨rfl, q⟩))))) (rgh _ _ _) c7.1 c7.2 (fun h9 eh9 t9 u9 => ?_)
    have w := w h9 eh9 t9 u9
    have s9 := HX_trans s4 u9
    refine r_aldn (pc1 := 52) rfl rfl rfl ?_
    refine r_dupR (pc1 := 53) rfl rfl ?_
    refine r_gfI (pc1 := 56) rfl rfl rfl t9 (lyk t9 rfl) rfl rfl ?_
    refine r_n (pc1 := 57) [.int (J 1), .int (J (hI h9 437 7)), rv 437] _ rfl rfl ?_
    refine r_iadd (pc1 := 58) rfl rfl ?_
    refine r_pfI (pc1 := 61) rfl rfl rfl t9 (lyk t9 rfl) rfl rfl rfl (fun h10 eh10 t10 u10 => ?_)
    have w := w h10 eh10 t10 u10
    have s10 := HX_trans s9 u10
    refine r_aldn (pc1 := 62) rfl rfl rfl ?_
    refine r_gfI (pc1 := 65) rfl rfl rfl t10 (lyk t10 rfl) rfl rfl ?_
    refine r_n (pc1 := 66) [.int (J 1), .int (J (hI h10 437 7))] _ rfl rfl ?_
    refine r_isub (pc1 := 67) rfl rfl ?_
    exact r_retI rfl rfl rfl (k _ _ t10 s10 (rgw _) w)
  refine r_ic (t := 41) (pc1 := 12) rfl rfl rfl (rgh _ _ _) rc2 (fun c18 => ?_) (fun c18 => ?_)
  · have w := w.1 c18
    exact Q5 _  h t0 (HX_refl h)  w
  · have w := w.2 c18
    refine r_n (pc1 := 13) [.int (J 2)] _ rfl rfl ?_
    refine r_aldn (pc1 := 14) rfl rfl rfl ?_
    refine r_gfI (pc1 := 17) rfl rfl rfl t0 (lyk t0 rfl) rfl rfl ?_
    refine r_imul (pc1 := 18) rfl rfl ?_
    obtain ⟨c11, w⟩ := w
    refine r_an (pc1 := 21) (u := 6) rfl rfl rfl t0 rfl rfl (rgw _) c11.1 c11.2 (fun a12 h13 ea12 eh13 t13 u13 ca12 la12 => ?_)
    have w := w a12 h13 ea12 eh13 t13 u13 ca12 la12
    have s13 := HX_trans (HX_refl h) u13
    refine r_astn (pc1 := 22) (ls1 := [some (rv 437), some (rv p0), some (rv a12)]) rfl rfl rfl (xput1_rv rfl rfl) ?_
    refine r_aldn (pc1 := 23) rfl rfl rfl ?_
    refine r_gfR (pc1 := 26) rfl rfl rfl t13 (lyk t13 rfl) rfl rfl ?_
    refine r_n (pc1 := 27) [.int (J 0), rv (hR h13 437 6)] _ rfl rfl ?_
    refine r_aldn (pc1 := 28) rfl rfl rfl ?_
    refine r_n (pc1 := 29) [.int (J 0), rv a12, .int (J 0), rv (hR h13 437 6)] _ rfl rfl ?_
    refine r_aldn (pc1 := 30) rfl rfl rfl ?_
    refine r_gfI (pc1 := 33) rfl rfl rfl t13 (lyk t13 rfl) rfl rfl ?_
    obtain ⟨c14, w⟩ := w
    obtain ⟨c15, w⟩ := w
    refine r_cp6 (pc1 := 36) (u := 6) rfl rfl rfl rfl t13 c14 ca12 (by decide) (rgk rfl) (rgk rfl) (rgh _ _ _) rfl rfl c15 (fun h16 eh16 t16 u16 => ?_)
    have w := w h16 eh16 t16 u16
    have s16 := HX_trans s13 u16
    refine r_aldn (pc1 := 37) rfl rfl rfl ?_
    refine r_aldn (pc1 := 38) rfl rfl rfl ?_
    refine r_pfA (pc1 := 41) rfl rfl rfl t16 (lyk t16 rfl) rfl rfl rfl (fun h17 eh17 t17 u17 => ?_)
    have w := w h17 eh17 t17 u17
    have s17 := HX_trans s16 u17
    exact Q5 _  h17 t17 s17  w
def w_X14_need (p0 : Int) (p1 : Int) (p2 : Int) (K : Int → XH → Prop) (h : XH) : Prop :=
  (∀ h1 : XH, h1 = sI h 437 5 0 → HT h1 → HX h h1 → w_X14_isVersion p0 p1 (fun x2 => rg x2 → (x2 = 0 ∨ x2 = 1) → (w_X14_refused x2 1 (fun x3 h4 => HT h4 → HX h1 h4 → rg x3 → (x3 = 0 ∨ x3 = 1) → (((x3 = 0 → (w_X14_slotOf p0 p1 (fun x5 => rg x5 → (w_X14_ver x5 7 (fun x6 => rg x6 → (∃ J8 : Int → Prop, (∀ (x7 : Int), rg x7 → J8 x7 → (w_X14_refused x7 2 (fun x9 h10 => HT h10 → HX h4 h10 → rg x9 → (x9 = 0 ∨ x9 = 1) → (((x9 = 0 → (w_X14_readNeed (fun a11 h12 => HT h12 → HX h10 h12 → (∃ J14 : Int → Prop, (∀ (x13 : Int), rg x13 → J14 x13 → (w_X14_refused x13 3 (fun x15 h16 => HT h16 → HX h12 h16 → rg x15 → (x15 = 0 ∨ x15 = 1) → (((x15 = 0 → (w_X14_record (fun h17 => HT h17 → HX h16 h17 → (w_X14_ver x5 7 (fun x18 => rg x18 → (w_X14_keep a11 (fun x19 h20 => HT h20 → HX h17 h20 → rg x19 → (w_X14_put x5 (wr (8 + x18)) x19 (fun h21 => HT h21 → HX h20 h21 → (w_X14_ver x5 11 (fun x22 => rg x22 → (∃ J24 : Int → Prop, (∀ (x23 : Int), rg x23 → J24 x23 → (w_X14_put x5 11 (ior x22 x23) (fun h25 => HT h25 → HX h21 h25 → (w_X14_put x5 7 (wr (x18 + 1)) (fun h26 => HT h26 → HX h25 h26 → (K (wr (x18 + 1)) h26)) h25)) h21)) ∧ ((p2 = 0 → (J24 0)) ∧ (¬ (p2 = 0) → (J24 (ishl 1 x18)))))) h21)) h20)) h17)) h17)) h16)) ∧ (¬ (x15 = 0) → (K 0 h16))))) h12)) ∧ ((a11 = 0 → (J14 0)) ∧ (¬ (a11 = 0) → (J14 1))))) h10)) ∧ (¬ (x9 = 0) → (K 0 h10))))) h4)) ∧ ∃ J31 : Prop, (J31 → (J8 0)) ∧ ((3 ≤ x6 → J31) ∧ (¬ (3 ≤ x6) → (w_X14_isInstalled x5 (fun x32 => rg x32 → (x32 = 0 ∨ x32 = 1) → (((¬ x32 = 0 → J31) ∧ (¬ (¬ x32 = 0) → (J8 1))))) h4))))) h4)) h4)) ∧ (¬ (x3 = 0) → (K 0 h4))))) h1)) h1)
set_option maxHeartbeats 4000000 in
theorem a_X14_need {sc : Nat × (Nat → Int32)} {goal : XO → XH → Prop} {fs : List XF} {h : XH} (p0 : Int) (p1 : Int) (p2 : Int) {K : Int → XH → Prop} (hd : fs.length + 8 ≤ 1000) (rp0 : rg p0) (rp1 : rg p1) (rp2 : rg p2) (w : w_X14_need p0 p1 p2 K h) (t0 : HT h) (k : ∀ (r : Int) (h1 : XH), HT h1 → HX h h1 → rg r → K r h1 → XFin xP sc goal fs (.inl (some (.int (J r)))) h1) : RR sc goal fs 259 0 [some (rv 437), some (.int (J p0)), some (.int (J p1)), some (.int (J p2)), none, none, none] [] h := by
  unfold w_X14_need at w
  refine r_aldn (pc1 := 1) rfl rfl rfl ?_
  refine r_n (pc1 := 2) [.int (J 0), rv 437] _ rfl rfl ?_
  refine r_pfI (pc1 := 5) rfl rfl rfl t0 (lyk t0 rfl) rfl rfl rfl (fun h1 eh1 t1 u1 => ?_)
  have w := w h1 eh1 t1 u1
  have s1 := HX_trans (HX_refl h) u1
  refine r_aldn (pc1 := 6) rfl rfl rfl ?_
  refine r_aldn (pc1 := 7) rfl rfl rfl ?_
  refine r_n (pc1 := 8) [.int (J p0), rv 437, rv 437] _ rfl rfl ?_
  refine r_n (pc1 := 9) [.int (J p1), .int (J p0), rv 437, rv 437] _ rfl rfl ?_
  refine r_iv rfl rfl rfl rfl rfl rfl t1 (lyk t1 rfl) rfl (xe_of (xa_r (xa_i (xa_i xa_0))) rfl rfl) (r_d0 hd rfl) (a_X14_isVersion p0 p1 (r_d1 hd rfl) rp0 rp1 w t1 (fun x2 rx2 vx2 w => ?_))
  refine r_fI (pc1 := 12) rfl ?_
  have w := w rx2 vx2
  refine r_n (pc1 := 13) [.int (J 1), .int (J x2), rv 437] _ rfl rfl ?_
  refine r_iv rfl rfl rfl rfl rfl rfl t1 (lyk t1 rfl) rfl (xe_of (xa_r (xa_i (xa_i xa_0))) rfl rfl) (r_d0 hd rfl) (a_X14_refused x2 1 (r_d1 hd rfl) rx2 (rgk rfl) w t1 (fun x3 h4 t4 u4 rx3 vx3 w => ?_))
  refine r_fI (pc1 := 16) rfl ?_
  have s4 := HX_trans s1 u4
  have w := w t4 u4
  have w := w rx3 vx3
  refine r_iz (t := 21) (pc1 := 19) rfl rfl rfl rx3 (fun c35 => ?_) (fun c35 => ?_)
  · have w := w.1 c35
    refine r_aldn (pc1 := 22) rfl rfl rfl ?_
    refine r_n (pc1 := 23) [.int (J p0), rv 437] _ rfl rfl ?_
    refine r_n (pc1 := 24) [.int (J p1), .int (J p0), rv 437] _ rfl rfl ?_
    refine r_iv rfl rfl rfl rfl rfl rfl t4 (lyk t4 rfl) rfl (xe_of (xa_r (xa_i (xa_i xa_0))) rfl rfl) (r_d0 hd rfl) (a_X14_slotOf p0 p1 (r_d1 hd rfl) rp0 rp1 w t4 (fun x5 rx5 w => ?_))
    refine r_fI (pc1 := 27) rfl ?_
    have w := w rx5
    refine r_ist (pc1 := 29) (ls1 := [some (rv 437), some (.int (J p0)), some (.int (J p1)), some (.int (J p2)), some (.int (J x5)), none, none]) rfl rfl rfl rfl ?_
    refine r_aldn (pc1 := 30) rfl rfl rfl ?_
    refine r_aldn (pc1 := 31) rfl rfl rfl ?_
    refine r_n (pc1 := 33) [.int (J x5), rv 437, rv 437] _ rfl rfl ?_
    refine r_n (pc1 := 35) [.int (J 7), .int (J x5), rv 437, rv 437] _ rfl rfl ?_
    refine r_iv rfl rfl rfl rfl rfl rfl t4 (lyk t4 rfl) rfl (xe_of (xa_r (xa_i (xa_i xa_0))) rfl rfl) (r_d0 hd rfl) (a_X14_ver x5 7 (r_d1 hd rfl) rx5 (rgk rfl) w t4 (fun x6 rx6 w => ?_))
    refine r_fI (pc1 := 38) rfl ?_
    have w := w rx6
    refine r_n (pc1 := 39) [.int (J 3), .int (J x6), rv 437] _ rfl rfl ?_
    obtain ⟨J8, j8, w⟩ := w
    have Q8 : ∀ (x7 : Int), rg x7 → J8 x7 → RR sc goal fs 259 56 [some (rv 437), some (.int (J p0)), some (.int (J p1)), some (.int (J p2)), some (.int (J x5)), none, none] [.int (J x7), rv 437] h4 := by
      intro x7 rx7 z8
      have w := j8 x7 rx7 z8
      refine r_n (pc1 := 57) [.int (J 2), .int (J x7), rv 437] _ rfl rfl ?_
      refine r_iv rfl rfl rfl rfl rfl rfl t4 (lyk t4 rfl) rfl (xe_of (xa_r (xa_i (xa_i xa_0))) rfl rfl) (r_d0 hd rfl) (a_X14_refused x7 2 (r_d1 hd rfl) rx7 (rgk rfl) w t4 (fun x9 h10 t10 u10 rx9 vx9 w => ?_))
      refine r_fI (pc1 := 60) rfl ?_
      have s10 := HX_trans s4 u10
      have w := w t10 u10
      have w := w rx9 vx9
      refine r_iz (t := 65) (pc1 := 63) rfl rfl rfl rx9 (fun c30 => ?_) (fun c30 => ?_)
      · have w := w.1 c30
        refine r_aldn (pc1 := 66) rfl rfl rfl ?_
        refine r_iv rfl rfl rfl rfl rfl rfl t10 (lyk t10 rfl) rfl (xe_of (xa_r xa_0) rfl rfl) (r_d0 hd rfl) (a_X14_readNeed  (r_d1 hd rfl)  w t10 (fun a11 h12 t12 u12 w => ?_))
        refine r_fR (pc1 := 69) rfl ?_
        have s12 := HX_trans s10 u12
        have w := w t12 u12
        refine r_ast (pc1 := 71) (ls1 := [some (rv 437), some (.int (J p0)), some (.int (J p1)), some (.int (J p2)), some (.int (J x5)), some (rv a11), none]) rfl rfl rfl rfl ?_
        refine r_aldn (pc1 := 72) rfl rfl rfl ?_
        refine r_ald (pc1 := 74) rfl rfl rfl ?_
        obtain ⟨J14, j14, w⟩ := w
        have Q14 : ∀ (x13 : Int), rg x13 → J14 x13 → RR sc goal fs 259 82 [some (rv 437), some (.int (J p0)), some (.int (J p1)), some (.int (J p2)), some (.int (J x5)), some (rv a11), none] [.int (J x13), rv 437] h12 := by
          intro x13 rx13 z14
          have w := j14 x13 rx13 z14
          refine r_n (pc1 := 83) [.int (J 3), .int (J x13), rv 437] _ rfl rfl ?_
          refine r_iv rfl rfl rfl rfl rfl rfl t12 (lyk t12 rfl) rfl (xe_of (xa_r (xa_i (xa_i xa_0))) rfl rfl) (r_d0 hd rfl) (a_X14_refused x13 3 (r_d1 hd rfl) rx13 (rgk rfl) w t12 (fun x15 h16 t16 u16 rx15 vx15 w => ?_))
          refine r_fI (pc1 := 86) rfl ?_
          have s16 := HX_trans s12 u16
          have w := w t16 u16
          have w := w rx15 vx15
          refine r_iz (t := 91) (pc1 := 89) rfl rfl rfl rx15 (fun c28 => ?_) (fun c28 => ?_)
          · have w := w.1 c28
            refine r_aldn (pc1 := 92) rfl rfl rfl ?_
            refine r_iv rfl rfl rfl rfl rfl rfl t16 (lyk t16 rfl) rfl (xe_of (xa_r xa_0) rfl rfl) (r_d0 hd rfl) (a_X14_record  (r_d1 hd rfl)  w t16 (fun h17 t17 u17 w => ?_))
            refine r_fV (pc1 := 95) rfl ?_
            have s17 := HX_trans s16 u17
            have w := w t17 u17
            refine r_aldn (pc1 := 96) rfl rfl rfl ?_
            refine r_n (pc1 := 98) [.int (J x5), rv 437] _ rfl rfl ?_
            refine r_n (pc1 := 100) [.int (J 7), .int (J x5), rv 437] _ rfl rfl ?_
            refine r_iv rfl rfl rfl rfl rfl rfl t17 (lyk t17 rfl) rfl (xe_of (xa_r (xa_i (xa_i xa_0))) rfl rfl) (r_d0 hd rfl) (a_X14_ver x5 7 (r_d1 hd rfl) rx5 (rgk rfl) w t17 (fun x18 rx18 w => ?_))
            refine r_fI (pc1 := 103) rfl ?_
            have w := w rx18
            refine r_ist (pc1 := 105) (ls1 := [some (rv 437), some (.int (J p0)), some (.int (J p1)), some (.int (J p2)), some (.int (J x5)), some (rv a11), some (.int (J x18))]) rfl rfl rfl (xput1_rv rfl rfl) ?_
            refine r_aldn (pc1 := 106) rfl rfl rfl ?_
            refine r_n (pc1 := 108) [.int (J x5), rv 437] _ rfl rfl ?_
            refine r_n (pc1 := 110) [.int (J 8), .int (J x5), rv 437] _ rfl rfl ?_
            refine r_n (pc1 := 112) [.int (J x18), .int (J 8), .int (J x5), rv 437] _ rfl rfl ?_
            refine r_iadd (pc1 := 113) rfl rfl ?_
            refine r_aldn (pc1 := 114) rfl rfl rfl ?_
            refine r_ald (pc1 := 116) rfl rfl rfl ?_
            refine r_iv rfl rfl rfl rfl rfl rfl t17 (lyk t17 rfl) rfl (xe_of (xa_r (xa_r xa_0)) rfl rfl) (r_d0 hd rfl) (a_X14_keep a11 (r_d1 hd rfl)  w t17 (fun x19 h20 t20 u20 rx19 w => ?_))
            refine r_fI (pc1 := 119) rfl ?_
            have s20 := HX_trans s17 u20
            have w := w t20 u20
            have w := w rx19
            refine r_iv rfl rfl rfl rfl rfl rfl t20 (lyk t20 rfl) rfl (xe_of (xa_r (xa_i (xa_i (xa_i xa_0)))) rfl rfl) (r_d0 hd rfl) (a_X14_put x5 (wr (8 + x18)) x19 (r_d1 hd rfl) rx5 (rgw _) rx19 w t20 (fun h21 t21 u21 w => ?_))
            refine r_fV (pc1 := 122) rfl ?_
            have s21 := HX_trans s20 u21
            have w := w t21 u21
            refine r_aldn (pc1 := 123) rfl rfl rfl ?_
            refine r_n (pc1 := 125) [.int (J x5), rv 437] _ rfl rfl ?_
            refine r_n (pc1 := 127) [.int (J 11), .int (J x5), rv 437] _ rfl rfl ?_
            refine r_aldn (pc1 := 128) rfl rfl rfl ?_
            refine r_n (pc1 := 130) [.int (J x5), rv 437, .int (J 11), .int (J x5), rv 437] _ rfl rfl ?_
            refine r_n (pc1 := 132) [.int (J 11), .int (J x5), rv 437, .int (J 11), .int (J x5), rv 437] _ rfl rfl ?_
            refine r_iv rfl rfl rfl rfl rfl rfl t21 (lyk t21 rfl) rfl (xe_of (xa_r (xa_i (xa_i xa_0))) rfl rfl) (r_d0 hd rfl) (a_X14_ver x5 11 (r_d1 hd rfl) rx5 (rgk rfl) w t21 (fun x22 rx22 w => ?_))
            refine r_fI (pc1 := 135) rfl ?_
            have w := w rx22
            refine r_n (pc1 := 136) [.int (J p2), .int (J x22), .int (J 11), .int (J x5), rv 437] _ rfl rfl ?_
            obtain ⟨J24, j24, w⟩ := w
            have Q24 : ∀ (x23 : Int), rg x23 → J24 x23 → RR sc goal fs 259 147 [some (rv 437), some (.int (J p0)), some (.int (J p1)), some (.int (J p2)), some (.int (J x5)), some (rv a11), some (.int (J x18))] [.int (J x23), .int (J x22), .int (J 11), .int (J x5), rv 437] h21 := by
              intro x23 rx23 z24
              have w := j24 x23 rx23 z24
              refine r_ior (pc1 := 148) rfl rfl ?_
              refine r_iv rfl rfl rfl rfl rfl rfl t21 (lyk t21 rfl) rfl (xe_of (xa_r (xa_i (xa_i (xa_i xa_0)))) rfl rfl) (r_d0 hd rfl) (a_X14_put x5 11 (ior x22 x23) (r_d1 hd rfl) rx5 (rgk rfl) (rgt _) w t21 (fun h25 t25 u25 w => ?_))
              refine r_fV (pc1 := 151) rfl ?_
              have s25 := HX_trans s21 u25
              have w := w t25 u25
              refine r_aldn (pc1 := 152) rfl rfl rfl ?_
              refine r_n (pc1 := 154) [.int (J x5), rv 437] _ rfl rfl ?_
              refine r_n (pc1 := 156) [.int (J 7), .int (J x5), rv 437] _ rfl rfl ?_
              refine r_n (pc1 := 158) [.int (J x18), .int (J 7), .int (J x5), rv 437] _ rfl rfl ?_
              refine r_n (pc1 := 159) [.int (J 1), .int (J x18), .int (J 7), .int (J x5), rv 437] _ rfl rfl ?_
              refine r_iadd (pc1 := 160) rfl rfl ?_
              refine r_iv rfl rfl rfl rfl rfl rfl t25 (lyk t25 rfl) rfl (xe_of (xa_r (xa_i (xa_i (xa_i xa_0)))) rfl rfl) (r_d0 hd rfl) (a_X14_put x5 7 (wr (x18 + 1)) (r_d1 hd rfl) rx5 (rgk rfl) (rgw _) w t25 (fun h26 t26 u26 w => ?_))
              refine r_fV (pc1 := 163) rfl ?_
              have s26 := HX_trans s25 u26
              have w := w t26 u26
              refine r_n (pc1 := 165) [.int (J x18)] _ rfl rfl ?_
              refine r_n (pc1 := 166) [.int (J 1), .int (J x18)] _ rfl rfl ?_
              refine r_iadd (pc1 := 167) rfl rfl ?_
              exact r_retI rfl rfl rfl (k _ _ t26 s26 (rgw _) w)
            refine r_iz (t := 146) (pc1 := 139) rfl rfl rfl rp2 (fun c27 => ?_) (fun c27 => ?_)
            · have w := w.1 c27
              refine r_n (pc1 := 147) [.int (J 0), .int (J x22), .int (J 11), .int (J x5), rv 437] _ rfl rfl ?_
              exact Q24  0  (rgk rfl) w
            · have w := w.2 c27
              refine r_n (pc1 := 140) [.int (J 1), .int (J x22), .int (J 11), .int (J x5), rv 437] _ rfl rfl ?_
              refine r_n (pc1 := 142) [.int (J x18), .int (J 1), .int (J x22), .int (J 11), .int (J x5), rv 437] _ rfl rfl ?_
              refine r_ishl (pc1 := 143) rfl rfl ?_
              refine r_goto (t := 147) rfl rfl ?_
              exact Q24  (ishl 1 x18)  (rgt _) w
          · have w := w.2 c28
            refine r_n (pc1 := 90) [.int (J 0)] _ rfl rfl ?_
            exact r_retI rfl rfl rfl (k _ _ t16 s16 (rgk rfl) w)
        refine r_null (t := 81) (pc1 := 77) rfl rfl rfl (fun c29 => ?_) (fun c29 => ?_)
        · have w := w.1 c29
          refine r_n (pc1 := 82) [.int (J 0), rv 437] _ rfl rfl ?_
          exact Q14  0  (rgk rfl) w
        · have w := w.2 c29
          refine r_n (pc1 := 78) [.int (J 1), rv 437] _ rfl rfl ?_
          refine r_goto (t := 82) rfl rfl ?_
          exact Q14  1  (rgk rfl) w
      · have w := w.2 c30
        refine r_n (pc1 := 64) [.int (J 0)] _ rfl rfl ?_
        exact r_retI rfl rfl rfl (k _ _ t10 s10 (rgk rfl) w)
    obtain ⟨J31, j31, w⟩ := w
    have Q31 : J31 → RR sc goal fs 259 55 [some (rv 437), some (.int (J p0)), some (.int (J p1)), some (.int (J p2)), some (.int (J x5)), none, none] [rv 437] h4 := by
      intro z31
      have w := j31 z31
      refine r_n (pc1 := 56) [.int (J 0), rv 437] _ rfl rfl ?_
      exact Q8  0  (rgk rfl) w
    refine r_ic (t := 55) (pc1 := 42) rfl rfl rfl rx6 (rgk rfl) (fun c34 => ?_) (fun c34 => ?_)
    · have w := w.1 c34
      exact Q31     w
    · have w := w.2 c34
      refine r_aldn (pc1 := 43) rfl rfl rfl ?_
      refine r_n (pc1 := 45) [.int (J x5), rv 437, rv 437] _ rfl rfl ?_
      refine r_iv rfl rfl rfl rfl rfl rfl t4 (lyk t4 rfl) rfl (xe_of (xa_r (xa_i xa_0)) rfl rfl) (r_d0 hd rfl) (a_X14_isInstalled x5 (r_d1 hd rfl) rx5 w t4 (fun x32 rx32 vx32 w => ?_))
      refine r_fI (pc1 := 48) rfl ?_
      have w := w rx32 vx32
      refine r_iz (t := 55) (pc1 := 51) rfl rfl rfl rx32 (fun c33 => ?_) (fun c33 => ?_)
      · have w := w.1 c33
        exact Q31     w
      · have w := w.2 c33
        refine r_n (pc1 := 52) [.int (J 1), rv 437] _ rfl rfl ?_
        refine r_goto (t := 56) rfl rfl ?_
        exact Q8  1  (rgk rfl) w
  · have w := w.2 c35
    refine r_n (pc1 := 20) [.int (J 0)] _ rfl rfl ?_
    exact r_retI rfl rfl rfl (k _ _ t4 s4 (rgk rfl) w)
def w_X14_readBan  (K : Nat → XH → Prop) (h : XH) : Prop :=
  (w_X14_startText (fun h1 => HT h1 → HX h h1 → (w_X14_readAtom (fun x2 h3 => HT h3 → HX h1 h3 → rg x2 → (x2 = 0 ∨ x2 = 1) → (∃ J6 : Int → XH → Prop, (∀ (x4 : Int) (h5 : XH), HT h5 → HX h h5 → rg x4 → J6 x4 h5 → (w_X14_taken x4 0 (fun a7 h8 => HT h8 → HX h5 h8 → (K a7 h8)) h5)) ∧ ∃ J10 : XH → Prop, (∀ (h9 : XH), HT h9 → HX h h9 → J10 h9 → (J6 0 h9)) ∧ ((x2 = 0 → J10 h3) ∧ (¬ (x2 = 0) → (w_X14_isEnd (fun x11 h12 => HT h12 → HX h3 h12 → rg x11 → (x11 = 0 ∨ x11 = 1) → (((x11 = 0 → J10 h12) ∧ (¬ (x11 = 0) → (J6 1 h12))))) h3))))) h1)) h)
set_option maxHeartbeats 4000000 in
theorem a_X14_readBan {sc : Nat × (Nat → Int32)} {goal : XO → XH → Prop} {fs : List XF} {h : XH}  {K : Nat → XH → Prop} (hd : fs.length + 7 ≤ 1000) (w : w_X14_readBan  K h) (t0 : HT h) (k : ∀ (r : Nat) (h1 : XH), HT h1 → HX h h1 → K r h1 → XFin xP sc goal fs (.inl (some (rv r))) h1) : RR sc goal fs 282 0 [some (rv 437)] [] h := by
  unfold w_X14_readBan at w
  refine r_aldn (pc1 := 1) rfl rfl rfl ?_
  refine r_iv rfl rfl rfl rfl rfl rfl t0 (lyk t0 rfl) rfl (xe_of (xa_r xa_0) rfl rfl) (r_d0 hd rfl) (a_X14_startText  (r_d1 hd rfl)  w t0 (fun h1 t1 u1 w => ?_))
  refine r_fV (pc1 := 4) rfl ?_
  have s1 := HX_trans (HX_refl h) u1
  have w := w t1 u1
  refine r_aldn (pc1 := 5) rfl rfl rfl ?_
  refine r_aldn (pc1 := 6) rfl rfl rfl ?_
  refine r_iv rfl rfl rfl rfl rfl rfl t1 (lyk t1 rfl) rfl (xe_of (xa_r xa_0) rfl rfl) (r_d0 hd rfl) (a_X14_readAtom  (r_d1 hd rfl)  w t1 (fun x2 h3 t3 u3 rx2 vx2 w => ?_))
  refine r_fI (pc1 := 9) rfl ?_
  have s3 := HX_trans s1 u3
  have w := w t3 u3
  have w := w rx2 vx2
  obtain ⟨J6, j6, w⟩ := w
  have Q6 : ∀ (x4 : Int) (h5 : XH), HT h5 → HX h h5 → rg x4 → J6 x4 h5 → RR sc goal fs 282 24 [some (rv 437)] [.int (J x4), rv 437] h5 := by
    intro x4 h5 t5 s5 rx4 z6
    have w := j6 x4 h5 t5 s5 rx4 z6
    refine r_n (pc1 := 25) [.int (J 0), .int (J x4), rv 437] _ rfl rfl ?_
    refine r_iv rfl rfl rfl rfl rfl rfl t5 (lyk t5 rfl) rfl (xe_of (xa_r (xa_i (xa_i xa_0))) rfl rfl) (r_d0 hd rfl) (a_X14_taken x4 0 (r_d1 hd rfl) rx4 (rgk rfl) w t5 (fun a7 h8 t8 u8 w => ?_))
    refine r_fR (pc1 := 28) rfl ?_
    have s8 := HX_trans s5 u8
    have w := w t8 u8
    exact r_retR rfl rfl rfl xok_O xokr_O (k _ _ t8 s8 w)
  obtain ⟨J10, j10, w⟩ := w
  have Q10 : ∀ (h9 : XH), HT h9 → HX h h9 → J10 h9 → RR sc goal fs 282 23 [some (rv 437)] [rv 437] h9 := by
    intro h9 t9 s9 z10
    have w := j10 h9 t9 s9 z10
    refine r_n (pc1 := 24) [.int (J 0), rv 437] _ rfl rfl ?_
    exact Q6  0 h9 t9 s9 (rgk rfl) w
  refine r_iz (t := 23) (pc1 := 12) rfl rfl rfl rx2 (fun c14 => ?_) (fun c14 => ?_)
  · have w := w.1 c14
    exact Q10   h3 t3 s3  w
  · have w := w.2 c14
    refine r_aldn (pc1 := 13) rfl rfl rfl ?_
    refine r_iv rfl rfl rfl rfl rfl rfl t3 (lyk t3 rfl) rfl (xe_of (xa_r xa_0) rfl rfl) (r_d0 hd rfl) (a_X14_isEnd  (r_d1 hd rfl)  w t3 (fun x11 h12 t12 u12 rx11 vx11 w => ?_))
    refine r_fI (pc1 := 16) rfl ?_
    have s12 := HX_trans s3 u12
    have w := w t12 u12
    have w := w rx11 vx11
    refine r_iz (t := 23) (pc1 := 19) rfl rfl rfl rx11 (fun c13 => ?_) (fun c13 => ?_)
    · have w := w.1 c13
      exact Q10   h12 t12 s12  w
    · have w := w.2 c13
      refine r_n (pc1 := 20) [.int (J 1), rv 437] _ rfl rfl ?_
      refine r_goto (t := 24) rfl rfl ?_
      exact Q6  1 h12 t12 s12 (rgk rfl) w
def w_X14_ban (p0 : Int) (p1 : Int) (K : Int → XH → Prop) (h : XH) : Prop :=
  (∀ h1 : XH, h1 = sI h 437 5 0 → HT h1 → HX h h1 → w_X14_isVersion p0 p1 (fun x2 => rg x2 → (x2 = 0 ∨ x2 = 1) → (w_X14_refused x2 1 (fun x3 h4 => HT h4 → HX h1 h4 → rg x3 → (x3 = 0 ∨ x3 = 1) → (((x3 = 0 → (w_X14_slotOf p0 p1 (fun x5 => rg x5 → (w_X14_ver x5 12 (fun x6 => rg x6 → (∃ J8 : Int → Prop, (∀ (x7 : Int), rg x7 → J8 x7 → (w_X14_refused x7 2 (fun x9 h10 => HT h10 → HX h4 h10 → rg x9 → (x9 = 0 ∨ x9 = 1) → (((x9 = 0 → (w_X14_readBan (fun a11 h12 => HT h12 → HX h10 h12 → (∃ J14 : Int → Prop, (∀ (x13 : Int), rg x13 → J14 x13 → (w_X14_refused x13 3 (fun x15 h16 => HT h16 → HX h12 h16 → rg x15 → (x15 = 0 ∨ x15 = 1) → (((x15 = 0 → (w_X14_record (fun h17 => HT h17 → HX h16 h17 → (w_X14_ver x5 12 (fun x18 => rg x18 → (w_X14_keep a11 (fun x19 h20 => HT h20 → HX h17 h20 → rg x19 → (w_X14_put x5 (wr (13 + x18)) x19 (fun h21 => HT h21 → HX h20 h21 → (w_X14_put x5 12 (wr (x18 + 1)) (fun h22 => HT h22 → HX h21 h22 → (K (wr (x18 + 1)) h22)) h21)) h20)) h17)) h17)) h16)) ∧ (¬ (x15 = 0) → (K 0 h16))))) h12)) ∧ ((a11 = 0 → (J14 0)) ∧ (¬ (a11 = 0) → (J14 1))))) h10)) ∧ (¬ (x9 = 0) → (K 0 h10))))) h4)) ∧ ∃ J26 : Prop, (J26 → (J8 0)) ∧ ((2 ≤ x6 → J26) ∧ (¬ (2 ≤ x6) → (w_X14_isInstalled x5 (fun x27 => rg x27 → (x27 = 0 ∨ x27 = 1) → (((¬ x27 = 0 → J26) ∧ (¬ (¬ x27 = 0) → (J8 1))))) h4))))) h4)) h4)) ∧ (¬ (x3 = 0) → (K 0 h4))))) h1)) h1)
set_option maxHeartbeats 4000000 in
theorem a_X14_ban {sc : Nat × (Nat → Int32)} {goal : XO → XH → Prop} {fs : List XF} {h : XH} (p0 : Int) (p1 : Int) {K : Int → XH → Prop} (hd : fs.length + 8 ≤ 1000) (rp0 : rg p0) (rp1 : rg p1) (w : w_X14_ban p0 p1 K h) (t0 : HT h) (k : ∀ (r : Int) (h1 : XH), HT h1 → HX h h1 → rg r → K r h1 → XFin xP sc goal fs (.inl (some (.int (J r)))) h1) : RR sc goal fs 174 0 [some (rv 437), some (.int (J p0)), some (.int (J p1)), none, none, none] [] h := by
  unfold w_X14_ban at w
  refine r_aldn (pc1 := 1) rfl rfl rfl ?_
  refine r_n (pc1 := 2) [.int (J 0), rv 437] _ rfl rfl ?_
  refine r_pfI (pc1 := 5) rfl rfl rfl t0 (lyk t0 rfl) rfl rfl rfl (fun h1 eh1 t1 u1 => ?_)
  have w := w h1 eh1 t1 u1
  have s1 := HX_trans (HX_refl h) u1
  refine r_aldn (pc1 := 6) rfl rfl rfl ?_
  refine r_aldn (pc1 := 7) rfl rfl rfl ?_
  refine r_n (pc1 := 8) [.int (J p0), rv 437, rv 437] _ rfl rfl ?_
  refine r_n (pc1 := 9) [.int (J p1), .int (J p0), rv 437, rv 437] _ rfl rfl ?_
  refine r_iv rfl rfl rfl rfl rfl rfl t1 (lyk t1 rfl) rfl (xe_of (xa_r (xa_i (xa_i xa_0))) rfl rfl) (r_d0 hd rfl) (a_X14_isVersion p0 p1 (r_d1 hd rfl) rp0 rp1 w t1 (fun x2 rx2 vx2 w => ?_))
  refine r_fI (pc1 := 12) rfl ?_
  have w := w rx2 vx2
  refine r_n (pc1 := 13) [.int (J 1), .int (J x2), rv 437] _ rfl rfl ?_
  refine r_iv rfl rfl rfl rfl rfl rfl t1 (lyk t1 rfl) rfl (xe_of (xa_r (xa_i (xa_i xa_0))) rfl rfl) (r_d0 hd rfl) (a_X14_refused x2 1 (r_d1 hd rfl) rx2 (rgk rfl) w t1 (fun x3 h4 t4 u4 rx3 vx3 w => ?_))
  refine r_fI (pc1 := 16) rfl ?_
  have s4 := HX_trans s1 u4
  have w := w t4 u4
  have w := w rx3 vx3
  refine r_iz (t := 21) (pc1 := 19) rfl rfl rfl rx3 (fun c30 => ?_) (fun c30 => ?_)
  · have w := w.1 c30
    refine r_aldn (pc1 := 22) rfl rfl rfl ?_
    refine r_n (pc1 := 23) [.int (J p0), rv 437] _ rfl rfl ?_
    refine r_n (pc1 := 24) [.int (J p1), .int (J p0), rv 437] _ rfl rfl ?_
    refine r_iv rfl rfl rfl rfl rfl rfl t4 (lyk t4 rfl) rfl (xe_of (xa_r (xa_i (xa_i xa_0))) rfl rfl) (r_d0 hd rfl) (a_X14_slotOf p0 p1 (r_d1 hd rfl) rp0 rp1 w t4 (fun x5 rx5 w => ?_))
    refine r_fI (pc1 := 27) rfl ?_
    have w := w rx5
    refine r_istn (pc1 := 28) (ls1 := [some (rv 437), some (.int (J p0)), some (.int (J p1)), some (.int (J x5)), none, none]) rfl rfl rfl rfl ?_
    refine r_aldn (pc1 := 29) rfl rfl rfl ?_
    refine r_aldn (pc1 := 30) rfl rfl rfl ?_
    refine r_n (pc1 := 31) [.int (J x5), rv 437, rv 437] _ rfl rfl ?_
    refine r_n (pc1 := 33) [.int (J 12), .int (J x5), rv 437, rv 437] _ rfl rfl ?_
    refine r_iv rfl rfl rfl rfl rfl rfl t4 (lyk t4 rfl) rfl (xe_of (xa_r (xa_i (xa_i xa_0))) rfl rfl) (r_d0 hd rfl) (a_X14_ver x5 12 (r_d1 hd rfl) rx5 (rgk rfl) w t4 (fun x6 rx6 w => ?_))
    refine r_fI (pc1 := 36) rfl ?_
    have w := w rx6
    refine r_n (pc1 := 37) [.int (J 2), .int (J x6), rv 437] _ rfl rfl ?_
    obtain ⟨J8, j8, w⟩ := w
    have Q8 : ∀ (x7 : Int), rg x7 → J8 x7 → RR sc goal fs 174 53 [some (rv 437), some (.int (J p0)), some (.int (J p1)), some (.int (J x5)), none, none] [.int (J x7), rv 437] h4 := by
      intro x7 rx7 z8
      have w := j8 x7 rx7 z8
      refine r_n (pc1 := 54) [.int (J 2), .int (J x7), rv 437] _ rfl rfl ?_
      refine r_iv rfl rfl rfl rfl rfl rfl t4 (lyk t4 rfl) rfl (xe_of (xa_r (xa_i (xa_i xa_0))) rfl rfl) (r_d0 hd rfl) (a_X14_refused x7 2 (r_d1 hd rfl) rx7 (rgk rfl) w t4 (fun x9 h10 t10 u10 rx9 vx9 w => ?_))
      refine r_fI (pc1 := 57) rfl ?_
      have s10 := HX_trans s4 u10
      have w := w t10 u10
      have w := w rx9 vx9
      refine r_iz (t := 62) (pc1 := 60) rfl rfl rfl rx9 (fun c25 => ?_) (fun c25 => ?_)
      · have w := w.1 c25
        refine r_aldn (pc1 := 63) rfl rfl rfl ?_
        refine r_iv rfl rfl rfl rfl rfl rfl t10 (lyk t10 rfl) rfl (xe_of (xa_r xa_0) rfl rfl) (r_d0 hd rfl) (a_X14_readBan  (r_d1 hd rfl)  w t10 (fun a11 h12 t12 u12 w => ?_))
        refine r_fR (pc1 := 66) rfl ?_
        have s12 := HX_trans s10 u12
        have w := w t12 u12
        refine r_ast (pc1 := 68) (ls1 := [some (rv 437), some (.int (J p0)), some (.int (J p1)), some (.int (J x5)), some (rv a11), none]) rfl rfl rfl rfl ?_
        refine r_aldn (pc1 := 69) rfl rfl rfl ?_
        refine r_ald (pc1 := 71) rfl rfl rfl ?_
        obtain ⟨J14, j14, w⟩ := w
        have Q14 : ∀ (x13 : Int), rg x13 → J14 x13 → RR sc goal fs 174 79 [some (rv 437), some (.int (J p0)), some (.int (J p1)), some (.int (J x5)), some (rv a11), none] [.int (J x13), rv 437] h12 := by
          intro x13 rx13 z14
          have w := j14 x13 rx13 z14
          refine r_n (pc1 := 80) [.int (J 3), .int (J x13), rv 437] _ rfl rfl ?_
          refine r_iv rfl rfl rfl rfl rfl rfl t12 (lyk t12 rfl) rfl (xe_of (xa_r (xa_i (xa_i xa_0))) rfl rfl) (r_d0 hd rfl) (a_X14_refused x13 3 (r_d1 hd rfl) rx13 (rgk rfl) w t12 (fun x15 h16 t16 u16 rx15 vx15 w => ?_))
          refine r_fI (pc1 := 83) rfl ?_
          have s16 := HX_trans s12 u16
          have w := w t16 u16
          have w := w rx15 vx15
          refine r_iz (t := 88) (pc1 := 86) rfl rfl rfl rx15 (fun c23 => ?_) (fun c23 => ?_)
          · have w := w.1 c23
            refine r_aldn (pc1 := 89) rfl rfl rfl ?_
            refine r_iv rfl rfl rfl rfl rfl rfl t16 (lyk t16 rfl) rfl (xe_of (xa_r xa_0) rfl rfl) (r_d0 hd rfl) (a_X14_record  (r_d1 hd rfl)  w t16 (fun h17 t17 u17 w => ?_))
            refine r_fV (pc1 := 92) rfl ?_
            have s17 := HX_trans s16 u17
            have w := w t17 u17
            refine r_aldn (pc1 := 93) rfl rfl rfl ?_
            refine r_n (pc1 := 94) [.int (J x5), rv 437] _ rfl rfl ?_
            refine r_n (pc1 := 96) [.int (J 12), .int (J x5), rv 437] _ rfl rfl ?_
            refine r_iv rfl rfl rfl rfl rfl rfl t17 (lyk t17 rfl) rfl (xe_of (xa_r (xa_i (xa_i xa_0))) rfl rfl) (r_d0 hd rfl) (a_X14_ver x5 12 (r_d1 hd rfl) rx5 (rgk rfl) w t17 (fun x18 rx18 w => ?_))
            refine r_fI (pc1 := 99) rfl ?_
            have w := w rx18
            refine r_ist (pc1 := 101) (ls1 := [some (rv 437), some (.int (J p0)), some (.int (J p1)), some (.int (J x5)), some (rv a11), some (.int (J x18))]) rfl rfl rfl (xput1_rv rfl rfl) ?_
            refine r_aldn (pc1 := 102) rfl rfl rfl ?_
            refine r_n (pc1 := 103) [.int (J x5), rv 437] _ rfl rfl ?_
            refine r_n (pc1 := 105) [.int (J 13), .int (J x5), rv 437] _ rfl rfl ?_
            refine r_n (pc1 := 107) [.int (J x18), .int (J 13), .int (J x5), rv 437] _ rfl rfl ?_
            refine r_iadd (pc1 := 108) rfl rfl ?_
            refine r_aldn (pc1 := 109) rfl rfl rfl ?_
            refine r_ald (pc1 := 111) rfl rfl rfl ?_
            refine r_iv rfl rfl rfl rfl rfl rfl t17 (lyk t17 rfl) rfl (xe_of (xa_r (xa_r xa_0)) rfl rfl) (r_d0 hd rfl) (a_X14_keep a11 (r_d1 hd rfl)  w t17 (fun x19 h20 t20 u20 rx19 w => ?_))
            refine r_fI (pc1 := 114) rfl ?_
            have s20 := HX_trans s17 u20
            have w := w t20 u20
            have w := w rx19
            refine r_iv rfl rfl rfl rfl rfl rfl t20 (lyk t20 rfl) rfl (xe_of (xa_r (xa_i (xa_i (xa_i xa_0)))) rfl rfl) (r_d0 hd rfl) (a_X14_put x5 (wr (13 + x18)) x19 (r_d1 hd rfl) rx5 (rgw _) rx19 w t20 (fun h21 t21 u21 w => ?_))
            refine r_fV (pc1 := 117) rfl ?_
            have s21 := HX_trans s20 u21
            have w := w t21 u21
            refine r_aldn (pc1 := 118) rfl rfl rfl ?_
            refine r_n (pc1 := 119) [.int (J x5), rv 437] _ rfl rfl ?_
            refine r_n (pc1 := 121) [.int (J 12), .int (J x5), rv 437] _ rfl rfl ?_
            refine r_n (pc1 := 123) [.int (J x18), .int (J 12), .int (J x5), rv 437] _ rfl rfl ?_
            refine r_n (pc1 := 124) [.int (J 1), .int (J x18), .int (J 12), .int (J x5), rv 437] _ rfl rfl ?_
            refine r_iadd (pc1 := 125) rfl rfl ?_
            refine r_iv rfl rfl rfl rfl rfl rfl t21 (lyk t21 rfl) rfl (xe_of (xa_r (xa_i (xa_i (xa_i xa_0)))) rfl rfl) (r_d0 hd rfl) (a_X14_put x5 12 (wr (x18 + 1)) (r_d1 hd rfl) rx5 (rgk rfl) (rgw _) w t21 (fun h22 t22 u22 w => ?_))
            refine r_fV (pc1 := 128) rfl ?_
            have s22 := HX_trans s21 u22
            have w := w t22 u22
            refine r_n (pc1 := 130) [.int (J x18)] _ rfl rfl ?_
            refine r_n (pc1 := 131) [.int (J 1), .int (J x18)] _ rfl rfl ?_
            refine r_iadd (pc1 := 132) rfl rfl ?_
            exact r_retI rfl rfl rfl (k _ _ t22 s22 (rgw _) w)
          · have w := w.2 c23
            refine r_n (pc1 := 87) [.int (J 0)] _ rfl rfl ?_
            exact r_retI rfl rfl rfl (k _ _ t16 s16 (rgk rfl) w)
        refine r_null (t := 78) (pc1 := 74) rfl rfl rfl (fun c24 => ?_) (fun c24 => ?_)
        · have w := w.1 c24
          refine r_n (pc1 := 79) [.int (J 0), rv 437] _ rfl rfl ?_
          exact Q14  0  (rgk rfl) w
        · have w := w.2 c24
          refine r_n (pc1 := 75) [.int (J 1), rv 437] _ rfl rfl ?_
          refine r_goto (t := 79) rfl rfl ?_
          exact Q14  1  (rgk rfl) w
      · have w := w.2 c25
        refine r_n (pc1 := 61) [.int (J 0)] _ rfl rfl ?_
        exact r_retI rfl rfl rfl (k _ _ t10 s10 (rgk rfl) w)
    obtain ⟨J26, j26, w⟩ := w
    have Q26 : J26 → RR sc goal fs 174 52 [some (rv 437), some (.int (J p0)), some (.int (J p1)), some (.int (J x5)), none, none] [rv 437] h4 := by
      intro z26
      have w := j26 z26
      refine r_n (pc1 := 53) [.int (J 0), rv 437] _ rfl rfl ?_
      exact Q8  0  (rgk rfl) w
    refine r_ic (t := 52) (pc1 := 40) rfl rfl rfl rx6 (rgk rfl) (fun c29 => ?_) (fun c29 => ?_)
    · have w := w.1 c29
      exact Q26     w
    · have w := w.2 c29
      refine r_aldn (pc1 := 41) rfl rfl rfl ?_
      refine r_n (pc1 := 42) [.int (J x5), rv 437, rv 437] _ rfl rfl ?_
      refine r_iv rfl rfl rfl rfl rfl rfl t4 (lyk t4 rfl) rfl (xe_of (xa_r (xa_i xa_0)) rfl rfl) (r_d0 hd rfl) (a_X14_isInstalled x5 (r_d1 hd rfl) rx5 w t4 (fun x27 rx27 vx27 w => ?_))
      refine r_fI (pc1 := 45) rfl ?_
      have w := w rx27 vx27
      refine r_iz (t := 52) (pc1 := 48) rfl rfl rfl rx27 (fun c28 => ?_) (fun c28 => ?_)
      · have w := w.1 c28
        exact Q26     w
      · have w := w.2 c28
        refine r_n (pc1 := 49) [.int (J 1), rv 437] _ rfl rfl ?_
        refine r_goto (t := 53) rfl rfl ?_
        exact Q8  1  (rgk rfl) w
  · have w := w.2 c30
    refine r_n (pc1 := 20) [.int (J 0)] _ rfl rfl ?_
    exact r_retI rfl rfl rfl (k _ _ t4 s4 (rgk rfl) w)
def w_X8_addGiven (p0 : Int) (p1 : Int) (p2 : Int) (K : Int → XH → Prop) (h : XH) : Prop :=
  ((0 ≤ p0 ∧ p0 < 40) ∧ ∀ x2 : Int, x2 = wr ((wr (p0 * 2)) + (hI h 23 p0.toNat)) → rg x2 → (0 ≤ x2 ∧ x2 < 80) ∧ ∀ h4 : XH, h4 = sI h 24 x2.toNat p1 → HT h4 → HX h h4 → ∀ h5 : XH, h5 = sI h4 25 x2.toNat p2 → HT h5 → HX h4 h5 → ∀ h6 : XH, h6 = sI h5 23 p0.toNat (wr ((hI h5 23 p0.toNat) + 1)) → HT h6 → HX h5 h6 → K (hI h6 23 p0.toNat) h6)
set_option maxHeartbeats 4000000 in
theorem a_X8_addGiven {sc : Nat × (Nat → Int32)} {goal : XO → XH → Prop} {fs : List XF} {h : XH} (p0 : Int) (p1 : Int) (p2 : Int) {K : Int → XH → Prop} (hd : fs.length + 0 ≤ 1000) (rp0 : rg p0) (rp1 : rg p1) (rp2 : rg p2) (w : w_X8_addGiven p0 p1 p2 K h) (t0 : HT h) (k : ∀ (r : Int) (h1 : XH), HT h1 → HX h h1 → rg r → K r h1 → XFin xP sc goal fs (.inl (some (.int (J r)))) h1) : RR sc goal fs 450 0 [some (rv 9), some (.int (J p0)), some (.int (J p1)), some (.int (J p2)), none] [] h := by
  unfold w_X8_addGiven at w
  refine r_n (pc1 := 1) [.int (J p0)] _ rfl rfl ?_
  refine r_n (pc1 := 2) [.int (J 2), .int (J p0)] _ rfl rfl ?_
  refine r_imul (pc1 := 3) rfl rfl ?_
  refine r_aldn (pc1 := 4) rfl rfl rfl ?_
  refine r_gfC (pc1 := 7) (q := 23) rfl rfl rfl t0 (lyk t0 rfl) rfl rfl (lyR t0 rfl rfl) ?_
  refine r_n (pc1 := 8) [.int (J p0), rv 23, .int (J (wr (p0 * 2)))] _ rfl rfl ?_
  obtain ⟨c1, w⟩ := w
  refine r_ial (pc1 := 9) rfl rfl t0 (lyk t0 rfl) rp0 c1.1 (lt_len (lyn t0 rfl) c1.2) ?_
  refine r_iadd (pc1 := 10) rfl rfl ?_
  refine r_vI (rgw _) (fun x2 ex2 rx2 => ?_)
  have w := w x2 ex2 rx2
  refine r_ist (pc1 := 12) (ls1 := [some (rv 9), some (.int (J p0)), some (.int (J p1)), some (.int (J p2)), some (.int (J x2))]) rfl rfl rfl rfl ?_
  refine r_aldn (pc1 := 13) rfl rfl rfl ?_
  refine r_gfC (pc1 := 16) (q := 24) rfl rfl rfl t0 (lyk t0 rfl) rfl rfl (lyR t0 rfl rfl) ?_
  refine r_n (pc1 := 18) [.int (J x2), rv 24] _ rfl rfl ?_
  refine r_n (pc1 := 19) [.int (J p1), .int (J x2), rv 24] _ rfl rfl ?_
  obtain ⟨c3, w⟩ := w
  refine r_iast (pc1 := 20) rfl rfl t0 (lyk t0 rfl) rx2 c3.1 (lt_len (lyn t0 rfl) c3.2) (fun h4 eh4 t4 u4 => ?_)
  have w := w h4 eh4 t4 u4
  have s4 := HX_trans (HX_refl h) u4
  refine r_aldn (pc1 := 21) rfl rfl rfl ?_
  refine r_gfC (pc1 := 24) (q := 25) rfl rfl rfl t4 (lyk t4 rfl) rfl rfl (lyR t4 rfl rfl) ?_
  refine r_n (pc1 := 26) [.int (J x2), rv 25] _ rfl rfl ?_
  refine r_n (pc1 := 27) [.int (J p2), .int (J x2), rv 25] _ rfl rfl ?_
  refine r_iast (pc1 := 28) rfl rfl t4 (lyk t4 rfl) rx2 c3.1 (lt_len (lyn t4 rfl) c3.2) (fun h5 eh5 t5 u5 => ?_)
  have w := w h5 eh5 t5 u5
  have s5 := HX_trans s4 u5
  refine r_aldn (pc1 := 29) rfl rfl rfl ?_
  refine r_gfC (pc1 := 32) (q := 23) rfl rfl rfl t5 (lyk t5 rfl) rfl rfl (lyR t5 rfl rfl) ?_
  refine r_n (pc1 := 33) [.int (J p0), rv 23] _ rfl rfl ?_
  refine r_dup2 (pc1 := 34) rfl rfl ?_
  refine r_ial (pc1 := 35) rfl rfl t5 (lyk t5 rfl) rp0 c1.1 (lt_len (lyn t5 rfl) c1.2) ?_
  refine r_n (pc1 := 36) [.int (J 1), .int (J (hI h5 23 p0.toNat)), .int (J p0), rv 23] _ rfl rfl ?_
  refine r_iadd (pc1 := 37) rfl rfl ?_
  refine r_iast (pc1 := 38) rfl rfl t5 (lyk t5 rfl) rp0 c1.1 (lt_len (lyn t5 rfl) c1.2) (fun h6 eh6 t6 u6 => ?_)
  have w := w h6 eh6 t6 u6
  have s6 := HX_trans s5 u6
  refine r_aldn (pc1 := 39) rfl rfl rfl ?_
  refine r_gfC (pc1 := 42) (q := 23) rfl rfl rfl t6 (lyk t6 rfl) rfl rfl (lyR t6 rfl rfl) ?_
  refine r_n (pc1 := 43) [.int (J p0), rv 23] _ rfl rfl ?_
  refine r_ial (pc1 := 44) rfl rfl t6 (lyk t6 rfl) rp0 c1.1 (lt_len (lyn t6 rfl) c1.2) ?_
  exact r_retI rfl rfl rfl (k _ _ t6 s6 (rgh _ _ _) w)
def w_X12_provide (p0 : Int) (p1 : Int) (p2 : Int) (p3 : Int) (K : Int → XH → Prop) (E : Nat → XH → Prop) (h : XH) : Prop :=
  (w_X12_checkedId p0 p1 (fun x1 => rg x1 → (w_X12_checkPack p2 ((∃ J2 : Prop, (J2 → (E 1 (nT h))) ∧ ((p2 = p0 → J2) ∧ (¬ (p2 = p0) → (w_X12_isCode p3 (fun x3 => rg x3 → (x3 = 0 ∨ x3 = 1) → (((¬ x3 = 0 → ((0 ≤ x1 ∧ x1 < 40) ∧ ∃ J5 : Prop, (J5 → (E 0 (nT h))) ∧ ((2 ≤ hI h 23 x1.toNat → J5) ∧ (¬ (2 ≤ hI h 23 x1.toNat) → (w_X11_isInUse x1 (fun x6 => rg x6 → (x6 = 0 ∨ x6 = 1) → (((x6 = 0 → (w_X12_remember (fun h7 => HT h7 → HX h h7 → (w_X8_addGiven x1 p2 p3 (fun x8 h9 => HT h9 → HX h7 h9 → rg x8 → (K x8 h9)) h7)) h)) ∧ (¬ (x6 = 0) → J5)))) h))))) ∧ (¬ (¬ x3 = 0) → J2)))) h))))) E h)) E h)
set_option maxHeartbeats 4000000 in
theorem a_X12_provide {sc : Nat × (Nat → Int32)} {goal : XO → XH → Prop} {fs : List XF} {h : XH} (p0 : Int) (p1 : Int) (p2 : Int) (p3 : Int) {K : Int → XH → Prop} {E : Nat → XH → Prop} (hd : fs.length + 4 ≤ 1000) (rp0 : rg p0) (rp1 : rg p1) (rp2 : rg p2) (rp3 : rg p3) (w : w_X12_provide p0 p1 p2 p3 K E h) (t0 : HT h) (k : ∀ (r : Int) (h1 : XH), HT h1 → HX h h1 → rg r → K r h1 → XFin xP sc goal fs (.inl (some (.int (J r)))) h1) (kE : ∀ (x : Nat) (h1 : XH), HT h1 → HX h h1 → E x h1 → XFin xP sc goal fs (.inr x) h1) : RR sc goal fs 143 0 [some (rv 2), some (.int (J p0)), some (.int (J p1)), some (.int (J p2)), some (.int (J p3)), none] [] h := by
  unfold w_X12_provide at w
  refine r_aldn (pc1 := 1) rfl rfl rfl ?_
  refine r_n (pc1 := 2) [.int (J p0), rv 2] _ rfl rfl ?_
  refine r_n (pc1 := 3) [.int (J p1), .int (J p0), rv 2] _ rfl rfl ?_
  refine r_iv rfl rfl rfl rfl rfl rfl t0 (lyk t0 rfl) rfl (xe_of (xa_r (xa_i (xa_i xa_0))) rfl rfl) (r_d0 hd rfl) (a_X12_checkedId p0 p1 (r_d1 hd rfl) rp0 rp1 w t0 (fun x1 rx1 w => ?_) (fun x y ty uy w => r_finx rfl rfl (kE x y ty (HX_trans (HX_refl h) uy) w)))
  refine r_fI (pc1 := 6) rfl ?_
  have w := w rx1
  refine r_ist (pc1 := 8) (ls1 := [some (rv 2), some (.int (J p0)), some (.int (J p1)), some (.int (J p2)), some (.int (J p3)), some (.int (J x1))]) rfl rfl rfl rfl ?_
  refine r_aldn (pc1 := 9) rfl rfl rfl ?_
  refine r_n (pc1 := 10) [.int (J p2), rv 2] _ rfl rfl ?_
  refine r_iv rfl rfl rfl rfl rfl rfl t0 (lyk t0 rfl) rfl (xe_of (xa_r (xa_i xa_0)) rfl rfl) (r_d0 hd rfl) (a_X12_checkPack p2 (r_d1 hd rfl) rp2 w t0 (fun w => ?_) (fun x y ty uy w => r_finx rfl rfl (kE x y ty (HX_trans (HX_refl h) uy) w)))
  refine r_fV (pc1 := 13) rfl ?_
  refine r_n (pc1 := 14) [.int (J p2)] _ rfl rfl ?_
  refine r_n (pc1 := 15) [.int (J p0), .int (J p2)] _ rfl rfl ?_
  obtain ⟨J2, j2, w⟩ := w
  have Q2 : J2 → RR sc goal fs 143 26 [some (rv 2), some (.int (J p0)), some (.int (J p1)), some (.int (J p2)), some (.int (J p3)), some (.int (J x1))] [] h := by
    intro z2
    have w := j2 z2
    exact r_thr rfl rfl rfl rfl rfl rfl (kE _ _ (HT_nT t0).1 (HX_trans (HX_refl h) (HT_nT t0).2) w)
  refine r_ic (t := 26) (pc1 := 18) rfl rfl rfl rp2 rp0 (fun c13 => ?_) (fun c13 => ?_)
  · have w := w.1 c13
    exact Q2     w
  · have w := w.2 c13
    refine r_n (pc1 := 20) [.int (J p3)] _ rfl rfl ?_
    refine r_iq rfl rfl rfl rfl rfl rfl (xe_of (xa_i xa_0) rfl rfl) (r_d0 hd rfl) (a_X12_isCode p3 (r_d1 hd rfl) rp3 w t0 (fun x3 rx3 vx3 w => ?_))
    refine r_fI (pc1 := 23) rfl ?_
    have w := w rx3 vx3
    refine r_iz (t := 36) (pc1 := 26) rfl rfl rfl rx3 (fun c12 => ?_) (fun c12 => ?_)
    · have w := w.1 c12
      refine r_aldn (pc1 := 37) rfl rfl rfl ?_
      refine r_gfC (pc1 := 40) (q := 8) rfl rfl rfl t0 (lyk t0 rfl) rfl rfl (lyR t0 rfl rfl) ?_
      refine r_gfC (pc1 := 43) (q := 9) rfl rfl rfl t0 (lyk t0 rfl) rfl rfl (lyR t0 rfl rfl) ?_
      refine r_gfC (pc1 := 46) (q := 23) rfl rfl rfl t0 (lyk t0 rfl) rfl rfl (lyR t0 rfl rfl) ?_
      refine r_n (pc1 := 48) [.int (J x1), rv 23] _ rfl rfl ?_
      obtain ⟨c4, w⟩ := w
      refine r_ial (pc1 := 49) rfl rfl t0 (lyk t0 rfl) rx1 c4.1 (lt_len (lyn t0 rfl) c4.2) ?_
      refine r_n (pc1 := 50) [.int (J 2), .int (J (hI h 23 x1.toNat))] _ rfl rfl ?_
      obtain ⟨J5, j5, w⟩ := w
      have Q5 : J5 → RR sc goal fs 143 65 [some (rv 2), some (.int (J p0)), some (.int (J p1)), some (.int (J p2)), some (.int (J p3)), some (.int (J x1))] [] h := by
        intro z5
        have w := j5 z5
        exact r_thr rfl rfl rfl rfl rfl rfl (kE _ _ (HT_nT t0).1 (HX_trans (HX_refl h) (HT_nT t0).2) w)
      refine r_ic (t := 65) (pc1 := 53) rfl rfl rfl (rgh _ _ _) (rgk rfl) (fun c11 => ?_) (fun c11 => ?_)
      · have w := w.1 c11
        exact Q5     w
      · have w := w.2 c11
        refine r_aldn (pc1 := 54) rfl rfl rfl ?_
        refine r_gfC (pc1 := 57) (q := 8) rfl rfl rfl t0 (lyk t0 rfl) rfl rfl (lyR t0 rfl rfl) ?_
        refine r_n (pc1 := 59) [.int (J x1), rv 8] _ rfl rfl ?_
        refine r_iv rfl rfl rfl rfl rfl rfl t0 (lyk t0 rfl) rfl (xe_of (xa_r (xa_i xa_0)) rfl rfl) (r_d0 hd rfl) (a_X11_isInUse x1 (r_d1 hd rfl) rx1 w t0 (fun x6 rx6 vx6 w => ?_))
        refine r_fI (pc1 := 62) rfl ?_
        have w := w rx6 vx6
        refine r_iz (t := 75) (pc1 := 65) rfl rfl rfl rx6 (fun c10 => ?_) (fun c10 => ?_)
        · have w := w.1 c10
          refine r_aldn (pc1 := 76) rfl rfl rfl ?_
          refine r_iv rfl rfl rfl rfl rfl rfl t0 (lyk t0 rfl) rfl (xe_of (xa_r xa_0) rfl rfl) (r_d0 hd rfl) (a_X12_remember  (r_d1 hd rfl)  w t0 (fun h7 t7 u7 w => ?_))
          refine r_fV (pc1 := 79) rfl ?_
          have s7 := HX_trans (HX_refl h) u7
          have w := w t7 u7
          refine r_aldn (pc1 := 80) rfl rfl rfl ?_
          refine r_gfC (pc1 := 83) (q := 8) rfl rfl rfl t7 (lyk t7 rfl) rfl rfl (lyR t7 rfl rfl) ?_
          refine r_gfC (pc1 := 86) (q := 9) rfl rfl rfl t7 (lyk t7 rfl) rfl rfl (lyR t7 rfl rfl) ?_
          refine r_n (pc1 := 88) [.int (J x1), rv 9] _ rfl rfl ?_
          refine r_n (pc1 := 89) [.int (J p2), .int (J x1), rv 9] _ rfl rfl ?_
          refine r_n (pc1 := 91) [.int (J p3), .int (J p2), .int (J x1), rv 9] _ rfl rfl ?_
          refine r_iv rfl rfl rfl rfl rfl rfl t7 (lyk t7 rfl) rfl (xe_of (xa_r (xa_i (xa_i (xa_i xa_0)))) rfl rfl) (r_d0 hd rfl) (a_X8_addGiven x1 p2 p3 (r_d1 hd rfl) rx1 rp2 rp3 w t7 (fun x8 h9 t9 u9 rx8 w => ?_))
          refine r_fI (pc1 := 94) rfl ?_
          have s9 := HX_trans s7 u9
          have w := w t9 u9
          have w := w rx8
          exact r_retI rfl rfl rfl (k _ _ t9 s9 rx8 w)
        · have w := w.2 c10
          exact Q5     w
    · have w := w.2 c12
      exact Q2     w
def w_L_provide (p1 : Int) (p2 : Int) (p3 : Int) (p4 : Int) (K : Int → XH → Prop) (h : XH) : Prop :=
  (w_X12_provide p1 p2 p3 p4 (fun x1 h2 => HT h2 → HX h h2 → rg x1 → (∀ h5 : XH, h5 = sL h2 467 0 (i2l x1) → HT h5 → HX h2 h5 → (K 0 h5))) (fun y4 h3 => ((y4 = 2 ∧ K 1 h3) ∨ (y4 = 1 ∧ K 2 h3) ∨ (y4 = 0 ∧ K 3 h3))) h)
set_option maxHeartbeats 4000000 in
theorem a_L_provide {sc : Nat × (Nat → Int32)} {goal : XO → XH → Prop} {fs : List XF} {h : XH} (p1 : Int) (p2 : Int) (p3 : Int) (p4 : Int) {K : Int → XH → Prop} (hd : fs.length + 5 ≤ 1000) (rp1 : rg p1) (rp2 : rg p2) (rp3 : rg p3) (rp4 : rg p4) (w : w_L_provide p1 p2 p3 p4 K h) (t0 : HT h) (k : ∀ (r : Int) (h1 : XH), HT h1 → HX h h1 → rg r → K r h1 → XFin xP sc goal fs (.inl (some (.int (J r)))) h1) : RR sc goal fs 57 0 [some (rv 2), some (.int (J p1)), some (.int (J p2)), some (.int (J p3)), some (.int (J p4)), some (rv 467), none] [] h := by
  unfold w_L_provide at w
  refine r_ald (pc1 := 2) rfl rfl rfl ?_
  refine r_n (pc1 := 3) [.int (J 0), rv 467] _ rfl rfl ?_
  refine r_aldn (pc1 := 4) rfl rfl rfl ?_
  refine r_n (pc1 := 5) [.int (J p1), rv 2, .int (J 0), rv 467] _ rfl rfl ?_
  refine r_n (pc1 := 6) [.int (J p2), .int (J p1), rv 2, .int (J 0), rv 467] _ rfl rfl ?_
  refine r_n (pc1 := 7) [.int (J p3), .int (J p2), .int (J p1), rv 2, .int (J 0), rv 467] _ rfl rfl ?_
  refine r_n (pc1 := 9) [.int (J p4), .int (J p3), .int (J p2), .int (J p1), rv 2, .int (J 0), rv 467] _ rfl rfl ?_
  refine r_iv rfl rfl rfl rfl rfl rfl t0 (lyk t0 rfl) rfl (xe_of (xa_r (xa_i (xa_i (xa_i (xa_i xa_0))))) rfl rfl) (r_d0 hd rfl) (a_X12_provide p1 p2 p3 p4 (r_d1 hd rfl) rp1 rp2 rp3 rp4 w t0 (fun x1 h2 t2 u2 rx1 w => ?_) (fun y4 h3 ty uy w => ?_))
  · refine r_fI (pc1 := 12) rfl ?_
    have s2 := HX_trans (HX_refl h) u2
    have w := w t2 u2
    have w := w rx1
    refine r_i2l (pc1 := 13) rfl rfl ?_
    refine r_last (pc1 := 14) rfl rfl t2 (lyk t2 rfl) (rgk rfl) (by decide) (lt_len (lyn t2 rfl) (by decide)) (fun h5 eh5 t5 u5 => ?_)
    have w := w h5 eh5 t5 u5
    have s5 := HX_trans s2 u5
    refine r_goto (t := 29) rfl rfl ?_
    refine r_n (pc1 := 30) [.int (J 0)] _ rfl rfl ?_
    exact r_retI rfl rfl rfl (k _ _ t5 s5 (rgk rfl) w)
  · rcases w with ⟨rfl, w⟩ | w
    · exact r_fink (z := 1) rfl (by decide) rfl rfl (k _ _ ty (HX_trans (HX_refl h) uy) (rgk rfl) w)
    rcases w with ⟨rfl, w⟩ | w
    · exact r_fink (z := 2) rfl (by decide) rfl rfl (k _ _ ty (HX_trans (HX_refl h) uy) (rgk rfl) w)
    obtain ⟨rfl, w⟩ := w
    exact r_fink (z := 3) rfl (by decide) rfl rfl (k _ _ ty (HX_trans (HX_refl h) uy) (rgk rfl) w)
def w_X14_provide (p0 : Int) (p1 : Int) (p2 : Int) (p3 : Int) (K : Int → XH → Prop) (h : XH) : Prop :=
  (∀ h1 : XH, h1 = sI h 437 5 0 → HT h1 → HX h h1 → w_X14_isVersion p0 p1 (fun x2 => rg x2 → (x2 = 0 ∨ x2 = 1) → (∃ J4 : Int → Prop, (∀ (x3 : Int), rg x3 → J4 x3 → (w_X14_refused x3 1 (fun x5 h6 => HT h6 → HX h1 h6 → rg x5 → (x5 = 0 ∨ x5 = 1) → (∃ J8 : XH → Prop, (∀ (h7 : XH), HT h7 → HX h h7 → J8 h7 → (K 0 h7)) ∧ ((¬ x5 = 0 → J8 h6) ∧ (¬ (¬ x5 = 0) → (∃ J10 : Int → Prop, (∀ (x9 : Int), rg x9 → J10 x9 → (w_X14_refused x9 2 (fun x11 h12 => HT h12 → HX h6 h12 → rg x11 → (x11 = 0 ∨ x11 = 1) → (((x11 = 0 → (w_X14_slotOf p0 p1 (fun x13 => rg x13 → (w_X14_ver x13 15 (fun x14 => rg x14 → (∃ J16 : Int → Prop, (∀ (x15 : Int), rg x15 → J16 x15 → (w_X14_refused x15 3 (fun x17 h18 => HT h18 → HX h12 h18 → rg x17 → (x17 = 0 ∨ x17 = 1) → (((x17 = 0 → (w_X14_record (fun h19 => HT h19 → HX h18 h19 → (w_X14_ver x13 15 (fun x20 => rg x20 → (w_X14_put x13 (wr (16 + (wr (2 * x20)))) p2 (fun h21 => HT h21 → HX h19 h21 → (w_X14_put x13 (wr ((wr (16 + (wr (2 * x20)))) + 1)) p3 (fun h22 => HT h22 → HX h21 h22 → (w_X14_put x13 15 (wr (x20 + 1)) (fun h23 => HT h23 → HX h22 h23 → (K (wr (x20 + 1)) h23)) h22)) h21)) h19)) h19)) h18)) ∧ (¬ (x17 = 0) → (K 0 h18))))) h12)) ∧ ∃ J25 : Prop, (J25 → (J16 0)) ∧ ((2 ≤ x14 → J25) ∧ (¬ (2 ≤ x14) → (w_X14_isInstalled x13 (fun x26 => rg x26 → (x26 = 0 ∨ x26 = 1) → (((¬ x26 = 0 → J25) ∧ (¬ (¬ x26 = 0) → (J16 1))))) h12))))) h12)) h12)) ∧ (¬ (x11 = 0) → J8 h12)))) h6)) ∧ ∃ J30 : Prop, (J30 → (J10 0)) ∧ ((p2 = p0 → J30) ∧ (¬ (p2 = p0) → (w_X14_isCode p3 (fun x31 => rg x31 → (x31 = 0 ∨ x31 = 1) → (((x31 = 0 → J30) ∧ (¬ (x31 = 0) → (J10 1))))) h6)))))))) h1)) ∧ ∃ J35 : Prop, (J35 → (J4 0)) ∧ ((x2 = 0 → J35) ∧ (¬ (x2 = 0) → (w_X14_isPack p2 (fun x36 => rg x36 → (x36 = 0 ∨ x36 = 1) → (((x36 = 0 → J35) ∧ (¬ (x36 = 0) → (J4 1))))) h1))))) h1)
set_option maxHeartbeats 4000000 in
theorem a_X14_provide {sc : Nat × (Nat → Int32)} {goal : XO → XH → Prop} {fs : List XF} {h : XH} (p0 : Int) (p1 : Int) (p2 : Int) (p3 : Int) {K : Int → XH → Prop} (hd : fs.length + 3 ≤ 1000) (rp0 : rg p0) (rp1 : rg p1) (rp2 : rg p2) (rp3 : rg p3) (w : w_X14_provide p0 p1 p2 p3 K h) (t0 : HT h) (k : ∀ (r : Int) (h1 : XH), HT h1 → HX h h1 → rg r → K r h1 → XFin xP sc goal fs (.inl (some (.int (J r)))) h1) : RR sc goal fs 275 0 [some (rv 437), some (.int (J p0)), some (.int (J p1)), some (.int (J p2)), some (.int (J p3)), none, none] [] h := by
  unfold w_X14_provide at w
  refine r_aldn (pc1 := 1) rfl rfl rfl ?_
  refine r_n (pc1 := 2) [.int (J 0), rv 437] _ rfl rfl ?_
  refine r_pfI (pc1 := 5) rfl rfl rfl t0 (lyk t0 rfl) rfl rfl rfl (fun h1 eh1 t1 u1 => ?_)
  have w := w h1 eh1 t1 u1
  have s1 := HX_trans (HX_refl h) u1
  refine r_aldn (pc1 := 6) rfl rfl rfl ?_
  refine r_aldn (pc1 := 7) rfl rfl rfl ?_
  refine r_n (pc1 := 8) [.int (J p0), rv 437, rv 437] _ rfl rfl ?_
  refine r_n (pc1 := 9) [.int (J p1), .int (J p0), rv 437, rv 437] _ rfl rfl ?_
  refine r_iv rfl rfl rfl rfl rfl rfl t1 (lyk t1 rfl) rfl (xe_of (xa_r (xa_i (xa_i xa_0))) rfl rfl) (r_d0 hd rfl) (a_X14_isVersion p0 p1 (r_d1 hd rfl) rp0 rp1 w t1 (fun x2 rx2 vx2 w => ?_))
  refine r_fI (pc1 := 12) rfl ?_
  have w := w rx2 vx2
  obtain ⟨J4, j4, w⟩ := w
  have Q4 : ∀ (x3 : Int), rg x3 → J4 x3 → RR sc goal fs 275 28 [some (rv 437), some (.int (J p0)), some (.int (J p1)), some (.int (J p2)), some (.int (J p3)), none, none] [.int (J x3), rv 437] h1 := by
    intro x3 rx3 z4
    have w := j4 x3 rx3 z4
    refine r_n (pc1 := 29) [.int (J 1), .int (J x3), rv 437] _ rfl rfl ?_
    refine r_iv rfl rfl rfl rfl rfl rfl t1 (lyk t1 rfl) rfl (xe_of (xa_r (xa_i (xa_i xa_0))) rfl rfl) (r_d0 hd rfl) (a_X14_refused x3 1 (r_d1 hd rfl) rx3 (rgk rfl) w t1 (fun x5 h6 t6 u6 rx5 vx5 w => ?_))
    refine r_fI (pc1 := 32) rfl ?_
    have s6 := HX_trans s1 u6
    have w := w t6 u6
    have w := w rx5 vx5
    obtain ⟨J8, j8, w⟩ := w
    have Q8 : ∀ (h7 : XH), HT h7 → HX h h7 → J8 h7 → RR sc goal fs 275 61 [some (rv 437), some (.int (J p0)), some (.int (J p1)), some (.int (J p2)), some (.int (J p3)), none, none] [] h7 := by
      intro h7 t7 s7 z8
      have w := j8 h7 t7 s7 z8
      refine r_n (pc1 := 62) [.int (J 0)] _ rfl rfl ?_
      exact r_retI rfl rfl rfl (k _ _ t7 s7 (rgk rfl) w)
    refine r_iz (t := 61) (pc1 := 35) rfl rfl rfl rx5 (fun c34 => ?_) (fun c34 => ?_)
    · have w := w.1 c34
      exact Q8   h6 t6 s6  w
    · have w := w.2 c34
      refine r_aldn (pc1 := 36) rfl rfl rfl ?_
      refine r_n (pc1 := 37) [.int (J p2), rv 437] _ rfl rfl ?_
      refine r_n (pc1 := 38) [.int (J p0), .int (J p2), rv 437] _ rfl rfl ?_
      obtain ⟨J10, j10, w⟩ := w
      have Q10 : ∀ (x9 : Int), rg x9 → J10 x9 → RR sc goal fs 275 54 [some (rv 437), some (.int (J p0)), some (.int (J p1)), some (.int (J p2)), some (.int (J p3)), none, none] [.int (J x9), rv 437] h6 := by
        intro x9 rx9 z10
        have w := j10 x9 rx9 z10
        refine r_n (pc1 := 55) [.int (J 2), .int (J x9), rv 437] _ rfl rfl ?_
        refine r_iv rfl rfl rfl rfl rfl rfl t6 (lyk t6 rfl) rfl (xe_of (xa_r (xa_i (xa_i xa_0))) rfl rfl) (r_d0 hd rfl) (a_X14_refused x9 2 (r_d1 hd rfl) rx9 (rgk rfl) w t6 (fun x11 h12 t12 u12 rx11 vx11 w => ?_))
        refine r_fI (pc1 := 58) rfl ?_
        have s12 := HX_trans s6 u12
        have w := w t12 u12
        have w := w rx11 vx11
        refine r_iz (t := 63) (pc1 := 61) rfl rfl rfl rx11 (fun c29 => ?_) (fun c29 => ?_)
        · have w := w.1 c29
          refine r_aldn (pc1 := 64) rfl rfl rfl ?_
          refine r_n (pc1 := 65) [.int (J p0), rv 437] _ rfl rfl ?_
          refine r_n (pc1 := 66) [.int (J p1), .int (J p0), rv 437] _ rfl rfl ?_
          refine r_iv rfl rfl rfl rfl rfl rfl t12 (lyk t12 rfl) rfl (xe_of (xa_r (xa_i (xa_i xa_0))) rfl rfl) (r_d0 hd rfl) (a_X14_slotOf p0 p1 (r_d1 hd rfl) rp0 rp1 w t12 (fun x13 rx13 w => ?_))
          refine r_fI (pc1 := 69) rfl ?_
          have w := w rx13
          refine r_ist (pc1 := 71) (ls1 := [some (rv 437), some (.int (J p0)), some (.int (J p1)), some (.int (J p2)), some (.int (J p3)), some (.int (J x13)), none]) rfl rfl rfl rfl ?_
          refine r_aldn (pc1 := 72) rfl rfl rfl ?_
          refine r_aldn (pc1 := 73) rfl rfl rfl ?_
          refine r_n (pc1 := 75) [.int (J x13), rv 437, rv 437] _ rfl rfl ?_
          refine r_n (pc1 := 77) [.int (J 15), .int (J x13), rv 437, rv 437] _ rfl rfl ?_
          refine r_iv rfl rfl rfl rfl rfl rfl t12 (lyk t12 rfl) rfl (xe_of (xa_r (xa_i (xa_i xa_0))) rfl rfl) (r_d0 hd rfl) (a_X14_ver x13 15 (r_d1 hd rfl) rx13 (rgk rfl) w t12 (fun x14 rx14 w => ?_))
          refine r_fI (pc1 := 80) rfl ?_
          have w := w rx14
          refine r_n (pc1 := 81) [.int (J 2), .int (J x14), rv 437] _ rfl rfl ?_
          obtain ⟨J16, j16, w⟩ := w
          have Q16 : ∀ (x15 : Int), rg x15 → J16 x15 → RR sc goal fs 275 98 [some (rv 437), some (.int (J p0)), some (.int (J p1)), some (.int (J p2)), some (.int (J p3)), some (.int (J x13)), none] [.int (J x15), rv 437] h12 := by
            intro x15 rx15 z16
            have w := j16 x15 rx15 z16
            refine r_n (pc1 := 99) [.int (J 3), .int (J x15), rv 437] _ rfl rfl ?_
            refine r_iv rfl rfl rfl rfl rfl rfl t12 (lyk t12 rfl) rfl (xe_of (xa_r (xa_i (xa_i xa_0))) rfl rfl) (r_d0 hd rfl) (a_X14_refused x15 3 (r_d1 hd rfl) rx15 (rgk rfl) w t12 (fun x17 h18 t18 u18 rx17 vx17 w => ?_))
            refine r_fI (pc1 := 102) rfl ?_
            have s18 := HX_trans s12 u18
            have w := w t18 u18
            have w := w rx17 vx17
            refine r_iz (t := 107) (pc1 := 105) rfl rfl rfl rx17 (fun c24 => ?_) (fun c24 => ?_)
            · have w := w.1 c24
              refine r_aldn (pc1 := 108) rfl rfl rfl ?_
              refine r_iv rfl rfl rfl rfl rfl rfl t18 (lyk t18 rfl) rfl (xe_of (xa_r xa_0) rfl rfl) (r_d0 hd rfl) (a_X14_record  (r_d1 hd rfl)  w t18 (fun h19 t19 u19 w => ?_))
              refine r_fV (pc1 := 111) rfl ?_
              have s19 := HX_trans s18 u19
              have w := w t19 u19
              refine r_aldn (pc1 := 112) rfl rfl rfl ?_
              refine r_n (pc1 := 114) [.int (J x13), rv 437] _ rfl rfl ?_
              refine r_n (pc1 := 116) [.int (J 15), .int (J x13), rv 437] _ rfl rfl ?_
              refine r_iv rfl rfl rfl rfl rfl rfl t19 (lyk t19 rfl) rfl (xe_of (xa_r (xa_i (xa_i xa_0))) rfl rfl) (r_d0 hd rfl) (a_X14_ver x13 15 (r_d1 hd rfl) rx13 (rgk rfl) w t19 (fun x20 rx20 w => ?_))
              refine r_fI (pc1 := 119) rfl ?_
              have w := w rx20
              refine r_ist (pc1 := 121) (ls1 := [some (rv 437), some (.int (J p0)), some (.int (J p1)), some (.int (J p2)), some (.int (J p3)), some (.int (J x13)), some (.int (J x20))]) rfl rfl rfl rfl ?_
              refine r_aldn (pc1 := 122) rfl rfl rfl ?_
              refine r_n (pc1 := 124) [.int (J x13), rv 437] _ rfl rfl ?_
              refine r_n (pc1 := 126) [.int (J 16), .int (J x13), rv 437] _ rfl rfl ?_
              refine r_n (pc1 := 127) [.int (J 2), .int (J 16), .int (J x13), rv 437] _ rfl rfl ?_
              refine r_n (pc1 := 129) [.int (J x20), .int (J 2), .int (J 16), .int (J x13), rv 437] _ rfl rfl ?_
              refine r_imul (pc1 := 130) rfl rfl ?_
              refine r_iadd (pc1 := 131) rfl rfl ?_
              refine r_n (pc1 := 132) [.int (J p2), .int (J (wr (16 + (wr (2 * x20))))), .int (J x13), rv 437] _ rfl rfl ?_
              refine r_iv rfl rfl rfl rfl rfl rfl t19 (lyk t19 rfl) rfl (xe_of (xa_r (xa_i (xa_i (xa_i xa_0)))) rfl rfl) (r_d0 hd rfl) (a_X14_put x13 (wr (16 + (wr (2 * x20)))) p2 (r_d1 hd rfl) rx13 (rgw _) rp2 w t19 (fun h21 t21 u21 w => ?_))
              refine r_fV (pc1 := 135) rfl ?_
              have s21 := HX_trans s19 u21
              have w := w t21 u21
              refine r_aldn (pc1 := 136) rfl rfl rfl ?_
              refine r_n (pc1 := 138) [.int (J x13), rv 437] _ rfl rfl ?_
              refine r_n (pc1 := 140) [.int (J 16), .int (J x13), rv 437] _ rfl rfl ?_
              refine r_n (pc1 := 141) [.int (J 2), .int (J 16), .int (J x13), rv 437] _ rfl rfl ?_
              refine r_n (pc1 := 143) [.int (J x20), .int (J 2), .int (J 16), .int (J x13), rv 437] _ rfl rfl ?_
              refine r_imul (pc1 := 144) rfl rfl ?_
              refine r_iadd (pc1 := 145) rfl rfl ?_
              refine r_n (pc1 := 146) [.int (J 1), .int (J (wr (16 + (wr (2 * x20))))), .int (J x13), rv 437] _ rfl rfl ?_
              refine r_iadd (pc1 := 147) rfl rfl ?_
              refine r_n (pc1 := 149) [.int (J p3), .int (J (wr ((wr (16 + (wr (2 * x20)))) + 1))), .int (J x13), rv 437] _ rfl rfl ?_
              refine r_iv rfl rfl rfl rfl rfl rfl t21 (lyk t21 rfl) rfl (xe_of (xa_r (xa_i (xa_i (xa_i xa_0)))) rfl rfl) (r_d0 hd rfl) (a_X14_put x13 (wr ((wr (16 + (wr (2 * x20)))) + 1)) p3 (r_d1 hd rfl) rx13 (rgw _) rp3 w t21 (fun h22 t22 u22 w => ?_))
              refine r_fV (pc1 := 152) rfl ?_
              have s22 := HX_trans s21 u22
              have w := w t22 u22
              refine r_aldn (pc1 := 153) rfl rfl rfl ?_
              refine r_n (pc1 := 155) [.int (J x13), rv 437] _ rfl rfl ?_
              refine r_n (pc1 := 157) [.int (J 15), .int (J x13), rv 437] _ rfl rfl ?_
              refine r_n (pc1 := 159) [.int (J x20), .int (J 15), .int (J x13), rv 437] _ rfl rfl ?_
              refine r_n (pc1 := 160) [.int (J 1), .int (J x20), .int (J 15), .int (J x13), rv 437] _ rfl rfl ?_
              refine r_iadd (pc1 := 161) rfl rfl ?_
              refine r_iv rfl rfl rfl rfl rfl rfl t22 (lyk t22 rfl) rfl (xe_of (xa_r (xa_i (xa_i (xa_i xa_0)))) rfl rfl) (r_d0 hd rfl) (a_X14_put x13 15 (wr (x20 + 1)) (r_d1 hd rfl) rx13 (rgk rfl) (rgw _) w t22 (fun h23 t23 u23 w => ?_))
              refine r_fV (pc1 := 164) rfl ?_
              have s23 := HX_trans s22 u23
              have w := w t23 u23
              refine r_n (pc1 := 166) [.int (J x20)] _ rfl rfl ?_
              refine r_n (pc1 := 167) [.int (J 1), .int (J x20)] _ rfl rfl ?_
              refine r_iadd (pc1 := 168) rfl rfl ?_
              exact r_retI rfl rfl rfl (k _ _ t23 s23 (rgw _) w)
            · have w := w.2 c24
              refine r_n (pc1 := 106) [.int (J 0)] _ rfl rfl ?_
              exact r_retI rfl rfl rfl (k _ _ t18 s18 (rgk rfl) w)
          obtain ⟨J25, j25, w⟩ := w
          have Q25 : J25 → RR sc goal fs 275 97 [some (rv 437), some (.int (J p0)), some (.int (J p1)), some (.int (J p2)), some (.int (J p3)), some (.int (J x13)), none] [rv 437] h12 := by
            intro z25
            have w := j25 z25
            refine r_n (pc1 := 98) [.int (J 0), rv 437] _ rfl rfl ?_
            exact Q16  0  (rgk rfl) w
          refine r_ic (t := 97) (pc1 := 84) rfl rfl rfl rx14 (rgk rfl) (fun c28 => ?_) (fun c28 => ?_)
          · have w := w.1 c28
            exact Q25     w
          · have w := w.2 c28
            refine r_aldn (pc1 := 85) rfl rfl rfl ?_
            refine r_n (pc1 := 87) [.int (J x13), rv 437, rv 437] _ rfl rfl ?_
            refine r_iv rfl rfl rfl rfl rfl rfl t12 (lyk t12 rfl) rfl (xe_of (xa_r (xa_i xa_0)) rfl rfl) (r_d0 hd rfl) (a_X14_isInstalled x13 (r_d1 hd rfl) rx13 w t12 (fun x26 rx26 vx26 w => ?_))
            refine r_fI (pc1 := 90) rfl ?_
            have w := w rx26 vx26
            refine r_iz (t := 97) (pc1 := 93) rfl rfl rfl rx26 (fun c27 => ?_) (fun c27 => ?_)
            · have w := w.1 c27
              exact Q25     w
            · have w := w.2 c27
              refine r_n (pc1 := 94) [.int (J 1), rv 437] _ rfl rfl ?_
              refine r_goto (t := 98) rfl rfl ?_
              exact Q16  1  (rgk rfl) w
        · have w := w.2 c29
          exact Q8   h12 t12 s12  w
      obtain ⟨J30, j30, w⟩ := w
      have Q30 : J30 → RR sc goal fs 275 53 [some (rv 437), some (.int (J p0)), some (.int (J p1)), some (.int (J p2)), some (.int (J p3)), none, none] [rv 437] h6 := by
        intro z30
        have w := j30 z30
        refine r_n (pc1 := 54) [.int (J 0), rv 437] _ rfl rfl ?_
        exact Q10  0  (rgk rfl) w
      refine r_ic (t := 53) (pc1 := 41) rfl rfl rfl rp2 rp0 (fun c33 => ?_) (fun c33 => ?_)
      · have w := w.1 c33
        exact Q30     w
      · have w := w.2 c33
        refine r_n (pc1 := 43) [.int (J p3), rv 437] _ rfl rfl ?_
        refine r_iq rfl rfl rfl rfl rfl rfl (xe_of (xa_i xa_0) rfl rfl) (r_d0 hd rfl) (a_X14_isCode p3 (r_d1 hd rfl) rp3 w t6 (fun x31 rx31 vx31 w => ?_))
        refine r_fI (pc1 := 46) rfl ?_
        have w := w rx31 vx31
        refine r_iz (t := 53) (pc1 := 49) rfl rfl rfl rx31 (fun c32 => ?_) (fun c32 => ?_)
        · have w := w.1 c32
          exact Q30     w
        · have w := w.2 c32
          refine r_n (pc1 := 50) [.int (J 1), rv 437] _ rfl rfl ?_
          refine r_goto (t := 54) rfl rfl ?_
          exact Q10  1  (rgk rfl) w
  obtain ⟨J35, j35, w⟩ := w
  have Q35 : J35 → RR sc goal fs 275 27 [some (rv 437), some (.int (J p0)), some (.int (J p1)), some (.int (J p2)), some (.int (J p3)), none, none] [rv 437] h1 := by
    intro z35
    have w := j35 z35
    refine r_n (pc1 := 28) [.int (J 0), rv 437] _ rfl rfl ?_
    exact Q4  0  (rgk rfl) w
  refine r_iz (t := 27) (pc1 := 15) rfl rfl rfl rx2 (fun c38 => ?_) (fun c38 => ?_)
  · have w := w.1 c38
    exact Q35     w
  · have w := w.2 c38
    refine r_aldn (pc1 := 16) rfl rfl rfl ?_
    refine r_n (pc1 := 17) [.int (J p2), rv 437, rv 437] _ rfl rfl ?_
    refine r_iv rfl rfl rfl rfl rfl rfl t1 (lyk t1 rfl) rfl (xe_of (xa_r (xa_i xa_0)) rfl rfl) (r_d0 hd rfl) (a_X14_isPack p2 (r_d1 hd rfl) rp2 w t1 (fun x36 rx36 vx36 w => ?_))
    refine r_fI (pc1 := 20) rfl ?_
    have w := w rx36 vx36
    refine r_iz (t := 27) (pc1 := 23) rfl rfl rfl rx36 (fun c37 => ?_) (fun c37 => ?_)
    · have w := w.1 c37
      exact Q35     w
    · have w := w.2 c37
      refine r_n (pc1 := 24) [.int (J 1), rv 437] _ rfl rfl ?_
      refine r_goto (t := 28) rfl rfl ?_
      exact Q4  1  (rgk rfl) w
def w_X12_option (p0 : Int) (p1 : Int) (K : Int → XH → Prop) (E : Nat → XH → Prop) (h : XH) : Prop :=
  (w_X12_checkedId p0 p1 (fun x1 => rg x1 → ((0 ≤ x1 ∧ x1 < 40) ∧ ∃ J3 : Prop, (J3 → (E 0 (nT h))) ∧ ((¬ hR h 26 x1.toNat = 0 → J3) ∧ (¬ (¬ hR h 26 x1.toNat = 0) → (w_X11_isInUse x1 (fun x4 => rg x4 → (x4 = 0 ∨ x4 = 1) → (((x4 = 0 → (w_X12_checkedNeed 0 (fun a5 h6 => HT h6 → HX h h6 → (w_X12_remember (fun h7 => HT h7 → HX h6 h7 → ((a5 = 0 ∨ hk h7 a5 = 1) ∧ ∀ h9 : XH, h9 = sR h7 26 x1.toNat a5 → HT h9 → HX h7 h9 → w_X8_withOption p0 (fun b10 => (w_J13_bitCount_95d88 b10 (fun x11 => rg x11 → (K x11 h9)) h9)) h9)) h6)) E h)) ∧ (¬ (x4 = 0) → J3)))) h))))) E h)
set_option maxHeartbeats 4000000 in
theorem a_X12_option {sc : Nat × (Nat → Int32)} {goal : XO → XH → Prop} {fs : List XF} {h : XH} (p0 : Int) (p1 : Int) {K : Int → XH → Prop} {E : Nat → XH → Prop} (hd : fs.length + 7 ≤ 1000) (rp0 : rg p0) (rp1 : rg p1) (w : w_X12_option p0 p1 K E h) (t0 : HT h) (k : ∀ (r : Int) (h1 : XH), HT h1 → HX h h1 → rg r → K r h1 → XFin xP sc goal fs (.inl (some (.int (J r)))) h1) (kE : ∀ (x : Nat) (h1 : XH), HT h1 → HX h h1 → E x h1 → XFin xP sc goal fs (.inr x) h1) : RR sc goal fs 133 0 [some (rv 2), some (.int (J p0)), some (.int (J p1)), none, none] [] h := by
  unfold w_X12_option at w
  refine r_aldn (pc1 := 1) rfl rfl rfl ?_
  refine r_n (pc1 := 2) [.int (J p0), rv 2] _ rfl rfl ?_
  refine r_n (pc1 := 3) [.int (J p1), .int (J p0), rv 2] _ rfl rfl ?_
  refine r_iv rfl rfl rfl rfl rfl rfl t0 (lyk t0 rfl) rfl (xe_of (xa_r (xa_i (xa_i xa_0))) rfl rfl) (r_d0 hd rfl) (a_X12_checkedId p0 p1 (r_d1 hd rfl) rp0 rp1 w t0 (fun x1 rx1 w => ?_) (fun x y ty uy w => r_finx rfl rfl (kE x y ty (HX_trans (HX_refl h) uy) w)))
  refine r_fI (pc1 := 6) rfl ?_
  have w := w rx1
  refine r_istn (pc1 := 7) (ls1 := [some (rv 2), some (.int (J p0)), some (.int (J p1)), some (.int (J x1)), none]) rfl rfl rfl rfl ?_
  refine r_aldn (pc1 := 8) rfl rfl rfl ?_
  refine r_gfC (pc1 := 11) (q := 8) rfl rfl rfl t0 (lyk t0 rfl) rfl rfl (lyR t0 rfl rfl) ?_
  refine r_gfC (pc1 := 14) (q := 9) rfl rfl rfl t0 (lyk t0 rfl) rfl rfl (lyR t0 rfl rfl) ?_
  refine r_gfC (pc1 := 17) (q := 26) rfl rfl rfl t0 (lyk t0 rfl) rfl rfl (lyR t0 rfl rfl) ?_
  refine r_n (pc1 := 18) [.int (J x1), rv 26] _ rfl rfl ?_
  obtain ⟨c2, w⟩ := w
  refine r_aal (pc1 := 19) (u := 3) rfl rfl t0 (lyk t0 rfl) rfl rfl rx1 c2.1 (lt_len (lyn t0 rfl) c2.2) ?_
  obtain ⟨J3, j3, w⟩ := w
  have Q3 : J3 → RR sc goal fs 133 33 [some (rv 2), some (.int (J p0)), some (.int (J p1)), some (.int (J x1)), none] [] h := by
    intro z3
    have w := j3 z3
    exact r_thr rfl rfl rfl rfl rfl rfl (kE _ _ (HT_nT t0).1 (HX_trans (HX_refl h) (HT_nT t0).2) w)
  refine r_nonnull (t := 33) (pc1 := 22) rfl rfl rfl (fun c13 => ?_) (fun c13 => ?_)
  · have w := w.1 c13
    exact Q3     w
  · have w := w.2 c13
    refine r_aldn (pc1 := 23) rfl rfl rfl ?_
    refine r_gfC (pc1 := 26) (q := 8) rfl rfl rfl t0 (lyk t0 rfl) rfl rfl (lyR t0 rfl rfl) ?_
    refine r_n (pc1 := 27) [.int (J x1), rv 8] _ rfl rfl ?_
    refine r_iv rfl rfl rfl rfl rfl rfl t0 (lyk t0 rfl) rfl (xe_of (xa_r (xa_i xa_0)) rfl rfl) (r_d0 hd rfl) (a_X11_isInUse x1 (r_d1 hd rfl) rx1 w t0 (fun x4 rx4 vx4 w => ?_))
    refine r_fI (pc1 := 30) rfl ?_
    have w := w rx4 vx4
    refine r_iz (t := 43) (pc1 := 33) rfl rfl rfl rx4 (fun c12 => ?_) (fun c12 => ?_)
    · have w := w.1 c12
      refine r_aldn (pc1 := 44) rfl rfl rfl ?_
      refine r_n (pc1 := 45) [.int (J 0), rv 2] _ rfl rfl ?_
      refine r_iv rfl rfl rfl rfl rfl rfl t0 (lyk t0 rfl) rfl (xe_of (xa_r (xa_i xa_0)) rfl rfl) (r_d0 hd rfl) (a_X12_checkedNeed 0 (r_d1 hd rfl) (rgk rfl) w t0 (fun a5 h6 t6 u6 w => ?_) (fun x y ty uy w => r_finx rfl rfl (kE x y ty (HX_trans (HX_refl h) uy) w)))
      refine r_fR (pc1 := 48) rfl ?_
      have s6 := HX_trans (HX_refl h) u6
      have w := w t6 u6
      refine r_ast (pc1 := 50) (ls1 := [some (rv 2), some (.int (J p0)), some (.int (J p1)), some (.int (J x1)), some (rv a5)]) rfl rfl rfl rfl ?_
      refine r_aldn (pc1 := 51) rfl rfl rfl ?_
      refine r_iv rfl rfl rfl rfl rfl rfl t6 (lyk t6 rfl) rfl (xe_of (xa_r xa_0) rfl rfl) (r_d0 hd rfl) (a_X12_remember  (r_d1 hd rfl)  w t6 (fun h7 t7 u7 w => ?_))
      refine r_fV (pc1 := 54) rfl ?_
      have s7 := HX_trans s6 u7
      have w := w t7 u7
      refine r_aldn (pc1 := 55) rfl rfl rfl ?_
      refine r_gfC (pc1 := 58) (q := 8) rfl rfl rfl t7 (lyk t7 rfl) rfl rfl (lyR t7 rfl rfl) ?_
      refine r_gfC (pc1 := 61) (q := 9) rfl rfl rfl t7 (lyk t7 rfl) rfl rfl (lyR t7 rfl rfl) ?_
      refine r_gfC (pc1 := 64) (q := 26) rfl rfl rfl t7 (lyk t7 rfl) rfl rfl (lyR t7 rfl rfl) ?_
      refine r_n (pc1 := 65) [.int (J x1), rv 26] _ rfl rfl ?_
      refine r_ald (pc1 := 67) rfl rfl rfl ?_
      obtain ⟨c8, w⟩ := w
      refine r_aast (pc1 := 68) (u := 3) rfl rfl t7 (lyk t7 rfl) (.inl rfl) (c8.elim .inl (fun q => .inr (.inl ⟨rfl, q⟩))) rx1 c2.1 (lt_len (lyn t7 rfl) c2.2) (fun h9 eh9 t9 u9 => ?_)
      have w := w h9 eh9 t9 u9
      have s9 := HX_trans s7 u9
      refine r_aldn (pc1 := 69) rfl rfl rfl ?_
      refine r_gfC (pc1 := 72) (q := 8) rfl rfl rfl t9 (lyk t9 rfl) rfl rfl (lyR t9 rfl rfl) ?_
      refine r_gfC (pc1 := 75) (q := 9) rfl rfl rfl t9 (lyk t9 rfl) rfl rfl (lyR t9 rfl rfl) ?_
      refine r_n (pc1 := 76) [.int (J p0), rv 9] _ rfl rfl ?_
      refine r_iv rfl rfl rfl rfl rfl rfl t9 (lyk t9 rfl) rfl (xe_of (xa_r (xa_i xa_0)) rfl rfl) (r_d0 hd rfl) (a_X8_withOption p0 (r_d1 hd rfl) rp0 w t9 (fun b10 w => ?_))
      refine r_fL (pc1 := 79) rfl ?_
      refine r_iq rfl rfl rfl rfl rfl rfl (xe_of (xa_l xa_0) rfl rfl) (r_d0 hd rfl) (a_J13_bitCount_95d88 b10 (r_d1 hd rfl)  w t9 (fun x11 rx11 w => ?_))
      refine r_fI (pc1 := 82) rfl ?_
      have w := w rx11
      exact r_retI rfl rfl rfl (k _ _ t9 s9 rx11 w)
    · have w := w.2 c12
      exact Q3     w
def w_L_option (p1 : Int) (p2 : Int) (K : Int → XH → Prop) (h : XH) : Prop :=
  (w_X12_option p1 p2 (fun x1 h2 => HT h2 → HX h h2 → rg x1 → (∀ h5 : XH, h5 = sL h2 467 0 (i2l x1) → HT h5 → HX h2 h5 → (K 0 h5))) (fun y4 h3 => ((y4 = 2 ∧ K 1 h3) ∨ (y4 = 0 ∧ K 2 h3) ∨ (y4 = 1 ∧ K 3 h3))) h)
set_option maxHeartbeats 4000000 in
theorem a_L_option {sc : Nat × (Nat → Int32)} {goal : XO → XH → Prop} {fs : List XF} {h : XH} (p1 : Int) (p2 : Int) {K : Int → XH → Prop} (hd : fs.length + 8 ≤ 1000) (rp1 : rg p1) (rp2 : rg p2) (w : w_L_option p1 p2 K h) (t0 : HT h) (k : ∀ (r : Int) (h1 : XH), HT h1 → HX h h1 → rg r → K r h1 → XFin xP sc goal fs (.inl (some (.int (J r)))) h1) : RR sc goal fs 50 0 [some (rv 2), some (.int (J p1)), some (.int (J p2)), some (rv 467), none] [] h := by
  unfold w_L_option at w
  refine r_aldn (pc1 := 1) rfl rfl rfl ?_
  refine r_n (pc1 := 2) [.int (J 0), rv 467] _ rfl rfl ?_
  refine r_aldn (pc1 := 3) rfl rfl rfl ?_
  refine r_n (pc1 := 4) [.int (J p1), rv 2, .int (J 0), rv 467] _ rfl rfl ?_
  refine r_n (pc1 := 5) [.int (J p2), .int (J p1), rv 2, .int (J 0), rv 467] _ rfl rfl ?_
  refine r_iv rfl rfl rfl rfl rfl rfl t0 (lyk t0 rfl) rfl (xe_of (xa_r (xa_i (xa_i xa_0))) rfl rfl) (r_d0 hd rfl) (a_X12_option p1 p2 (r_d1 hd rfl) rp1 rp2 w t0 (fun x1 h2 t2 u2 rx1 w => ?_) (fun y4 h3 ty uy w => ?_))
  · refine r_fI (pc1 := 8) rfl ?_
    have s2 := HX_trans (HX_refl h) u2
    have w := w t2 u2
    have w := w rx1
    refine r_i2l (pc1 := 9) rfl rfl ?_
    refine r_last (pc1 := 10) rfl rfl t2 (lyk t2 rfl) (rgk rfl) (by decide) (lt_len (lyn t2 rfl) (by decide)) (fun h5 eh5 t5 u5 => ?_)
    have w := w h5 eh5 t5 u5
    have s5 := HX_trans s2 u5
    refine r_goto (t := 25) rfl rfl ?_
    refine r_n (pc1 := 26) [.int (J 0)] _ rfl rfl ?_
    exact r_retI rfl rfl rfl (k _ _ t5 s5 (rgk rfl) w)
  · rcases w with ⟨rfl, w⟩ | w
    · exact r_fink (z := 1) rfl (by decide) rfl rfl (k _ _ ty (HX_trans (HX_refl h) uy) (rgk rfl) w)
    rcases w with ⟨rfl, w⟩ | w
    · exact r_fink (z := 2) rfl (by decide) rfl rfl (k _ _ ty (HX_trans (HX_refl h) uy) (rgk rfl) w)
    obtain ⟨rfl, w⟩ := w
    exact r_fink (z := 3) rfl (by decide) rfl rfl (k _ _ ty (HX_trans (HX_refl h) uy) (rgk rfl) w)
def w_X14_option (p0 : Int) (p1 : Int) (K : Int → XH → Prop) (h : XH) : Prop :=
  (∀ h1 : XH, h1 = sI h 437 5 0 → HT h1 → HX h h1 → w_X14_isVersion p0 p1 (fun x2 => rg x2 → (x2 = 0 ∨ x2 = 1) → (w_X14_refused x2 1 (fun x3 h4 => HT h4 → HX h1 h4 → rg x3 → (x3 = 0 ∨ x3 = 1) → (((x3 = 0 → (w_X14_slotOf p0 p1 (fun x5 => rg x5 → (w_X14_ver x5 6 (fun x6 => rg x6 → (∃ J8 : Int → Prop, (∀ (x7 : Int), rg x7 → J8 x7 → (w_X14_refused x7 2 (fun x9 h10 => HT h10 → HX h4 h10 → rg x9 → (x9 = 0 ∨ x9 = 1) → (((x9 = 0 → (w_X14_readNeed (fun a11 h12 => HT h12 → HX h10 h12 → (∃ J14 : Int → Prop, (∀ (x13 : Int), rg x13 → J14 x13 → (w_X14_refused x13 3 (fun x15 h16 => HT h16 → HX h12 h16 → rg x15 → (x15 = 0 ∨ x15 = 1) → (((x15 = 0 → (w_X14_record (fun h17 => HT h17 → HX h16 h17 → (w_X14_keep a11 (fun x18 h19 => HT h19 → HX h17 h19 → rg x18 → (w_X14_put x5 6 (wr (x18 + 1)) (fun h20 => HT h20 → HX h19 h20 → ((∃ (I24 : Int → Int → Prop) (m24 : Int → Int → Nat), I24 0 0 ∧ ∀ (x22 : Int) (x23 : Int), rg x22 → rg x23 → I24 x22 x23 → (((hI h20 438 4 ≤ x23 → (K x22 h20)) ∧ (¬ (hI h20 438 4 ≤ x23) → (w_X14_ver x23 0 (fun x25 => rg x25 → (∃ J27 : Int → Prop, (∀ (x26 : Int), rg x26 → J27 x26 → (∀ x28 : Int, x28 = wr (x22 + x26) → rg x28 → ∀ x29 : Int, x29 = wr (x23 + 1) → rg x29 → (I24 x28 x29 ∧ m24 x28 x29 < m24 x22 x23))) ∧ ∃ J30 : Prop, (J30 → (J27 0)) ∧ ((¬ x25 = p0 → J30) ∧ (¬ (¬ x25 = p0) → (w_X14_ver x23 6 (fun x31 => rg x31 → (((x31 ≤ 0 → J30) ∧ (¬ (x31 ≤ 0) → (J27 1))))) h20))))) h20))))))) h19)) h17)) h16)) ∧ (¬ (x15 = 0) → (K 0 h16))))) h12)) ∧ ((a11 = 0 → (J14 0)) ∧ (¬ (a11 = 0) → (J14 1))))) h10)) ∧ (¬ (x9 = 0) → (K 0 h10))))) h4)) ∧ ∃ J38 : Prop, (J38 → (J8 0)) ∧ ((¬ x6 = 0 → J38) ∧ (¬ (¬ x6 = 0) → (w_X14_isInstalled x5 (fun x39 => rg x39 → (x39 = 0 ∨ x39 = 1) → (((¬ x39 = 0 → J38) ∧ (¬ (¬ x39 = 0) → (J8 1))))) h4))))) h4)) h4)) ∧ (¬ (x3 = 0) → (K 0 h4))))) h1)) h1)
set_option maxHeartbeats 4000000 in
theorem a_X14_option {sc : Nat × (Nat → Int32)} {goal : XO → XH → Prop} {fs : List XF} {h : XH} (p0 : Int) (p1 : Int) {K : Int → XH → Prop} (hd : fs.length + 8 ≤ 1000) (rp0 : rg p0) (rp1 : rg p1) (w : w_X14_option p0 p1 K h) (t0 : HT h) (k : ∀ (r : Int) (h1 : XH), HT h1 → HX h h1 → rg r → K r h1 → XFin xP sc goal fs (.inl (some (.int (J r)))) h1) : RR sc goal fs 263 0 [some (rv 437), some (.int (J p0)), some (.int (J p1)), none, none, none, none] [] h := by
  unfold w_X14_option at w
  refine r_aldn (pc1 := 1) rfl rfl rfl ?_
  refine r_n (pc1 := 2) [.int (J 0), rv 437] _ rfl rfl ?_
  refine r_pfI (pc1 := 5) rfl rfl rfl t0 (lyk t0 rfl) rfl rfl rfl (fun h1 eh1 t1 u1 => ?_)
  have w := w h1 eh1 t1 u1
  have s1 := HX_trans (HX_refl h) u1
  refine r_aldn (pc1 := 6) rfl rfl rfl ?_
  refine r_aldn (pc1 := 7) rfl rfl rfl ?_
  refine r_n (pc1 := 8) [.int (J p0), rv 437, rv 437] _ rfl rfl ?_
  refine r_n (pc1 := 9) [.int (J p1), .int (J p0), rv 437, rv 437] _ rfl rfl ?_
  refine r_iv rfl rfl rfl rfl rfl rfl t1 (lyk t1 rfl) rfl (xe_of (xa_r (xa_i (xa_i xa_0))) rfl rfl) (r_d0 hd rfl) (a_X14_isVersion p0 p1 (r_d1 hd rfl) rp0 rp1 w t1 (fun x2 rx2 vx2 w => ?_))
  refine r_fI (pc1 := 12) rfl ?_
  have w := w rx2 vx2
  refine r_n (pc1 := 13) [.int (J 1), .int (J x2), rv 437] _ rfl rfl ?_
  refine r_iv rfl rfl rfl rfl rfl rfl t1 (lyk t1 rfl) rfl (xe_of (xa_r (xa_i (xa_i xa_0))) rfl rfl) (r_d0 hd rfl) (a_X14_refused x2 1 (r_d1 hd rfl) rx2 (rgk rfl) w t1 (fun x3 h4 t4 u4 rx3 vx3 w => ?_))
  refine r_fI (pc1 := 16) rfl ?_
  have s4 := HX_trans s1 u4
  have w := w t4 u4
  have w := w rx3 vx3
  refine r_iz (t := 21) (pc1 := 19) rfl rfl rfl rx3 (fun c42 => ?_) (fun c42 => ?_)
  · have w := w.1 c42
    refine r_aldn (pc1 := 22) rfl rfl rfl ?_
    refine r_n (pc1 := 23) [.int (J p0), rv 437] _ rfl rfl ?_
    refine r_n (pc1 := 24) [.int (J p1), .int (J p0), rv 437] _ rfl rfl ?_
    refine r_iv rfl rfl rfl rfl rfl rfl t4 (lyk t4 rfl) rfl (xe_of (xa_r (xa_i (xa_i xa_0))) rfl rfl) (r_d0 hd rfl) (a_X14_slotOf p0 p1 (r_d1 hd rfl) rp0 rp1 w t4 (fun x5 rx5 w => ?_))
    refine r_fI (pc1 := 27) rfl ?_
    have w := w rx5
    refine r_istn (pc1 := 28) (ls1 := [some (rv 437), some (.int (J p0)), some (.int (J p1)), some (.int (J x5)), none, none, none]) rfl rfl rfl rfl ?_
    refine r_aldn (pc1 := 29) rfl rfl rfl ?_
    refine r_aldn (pc1 := 30) rfl rfl rfl ?_
    refine r_n (pc1 := 31) [.int (J x5), rv 437, rv 437] _ rfl rfl ?_
    refine r_n (pc1 := 33) [.int (J 6), .int (J x5), rv 437, rv 437] _ rfl rfl ?_
    refine r_iv rfl rfl rfl rfl rfl rfl t4 (lyk t4 rfl) rfl (xe_of (xa_r (xa_i (xa_i xa_0))) rfl rfl) (r_d0 hd rfl) (a_X14_ver x5 6 (r_d1 hd rfl) rx5 (rgk rfl) w t4 (fun x6 rx6 w => ?_))
    refine r_fI (pc1 := 36) rfl ?_
    have w := w rx6
    obtain ⟨J8, j8, w⟩ := w
    have Q8 : ∀ (x7 : Int), rg x7 → J8 x7 → RR sc goal fs 263 52 [some (rv 437), some (.int (J p0)), some (.int (J p1)), some (.int (J x5)), none, none, none] [.int (J x7), rv 437] h4 := by
      intro x7 rx7 z8
      have w := j8 x7 rx7 z8
      refine r_n (pc1 := 53) [.int (J 2), .int (J x7), rv 437] _ rfl rfl ?_
      refine r_iv rfl rfl rfl rfl rfl rfl t4 (lyk t4 rfl) rfl (xe_of (xa_r (xa_i (xa_i xa_0))) rfl rfl) (r_d0 hd rfl) (a_X14_refused x7 2 (r_d1 hd rfl) rx7 (rgk rfl) w t4 (fun x9 h10 t10 u10 rx9 vx9 w => ?_))
      refine r_fI (pc1 := 56) rfl ?_
      have s10 := HX_trans s4 u10
      have w := w t10 u10
      have w := w rx9 vx9
      refine r_iz (t := 61) (pc1 := 59) rfl rfl rfl rx9 (fun c37 => ?_) (fun c37 => ?_)
      · have w := w.1 c37
        refine r_aldn (pc1 := 62) rfl rfl rfl ?_
        refine r_iv rfl rfl rfl rfl rfl rfl t10 (lyk t10 rfl) rfl (xe_of (xa_r xa_0) rfl rfl) (r_d0 hd rfl) (a_X14_readNeed  (r_d1 hd rfl)  w t10 (fun a11 h12 t12 u12 w => ?_))
        refine r_fR (pc1 := 65) rfl ?_
        have s12 := HX_trans s10 u12
        have w := w t12 u12
        refine r_ast (pc1 := 67) (ls1 := [some (rv 437), some (.int (J p0)), some (.int (J p1)), some (.int (J x5)), some (rv a11), none, none]) rfl rfl rfl rfl ?_
        refine r_aldn (pc1 := 68) rfl rfl rfl ?_
        refine r_ald (pc1 := 70) rfl rfl rfl ?_
        obtain ⟨J14, j14, w⟩ := w
        have Q14 : ∀ (x13 : Int), rg x13 → J14 x13 → RR sc goal fs 263 78 [some (rv 437), some (.int (J p0)), some (.int (J p1)), some (.int (J x5)), some (rv a11), none, none] [.int (J x13), rv 437] h12 := by
          intro x13 rx13 z14
          have w := j14 x13 rx13 z14
          refine r_n (pc1 := 79) [.int (J 3), .int (J x13), rv 437] _ rfl rfl ?_
          refine r_iv rfl rfl rfl rfl rfl rfl t12 (lyk t12 rfl) rfl (xe_of (xa_r (xa_i (xa_i xa_0))) rfl rfl) (r_d0 hd rfl) (a_X14_refused x13 3 (r_d1 hd rfl) rx13 (rgk rfl) w t12 (fun x15 h16 t16 u16 rx15 vx15 w => ?_))
          refine r_fI (pc1 := 82) rfl ?_
          have s16 := HX_trans s12 u16
          have w := w t16 u16
          have w := w rx15 vx15
          refine r_iz (t := 87) (pc1 := 85) rfl rfl rfl rx15 (fun c35 => ?_) (fun c35 => ?_)
          · have w := w.1 c35
            refine r_aldn (pc1 := 88) rfl rfl rfl ?_
            refine r_iv rfl rfl rfl rfl rfl rfl t16 (lyk t16 rfl) rfl (xe_of (xa_r xa_0) rfl rfl) (r_d0 hd rfl) (a_X14_record  (r_d1 hd rfl)  w t16 (fun h17 t17 u17 w => ?_))
            refine r_fV (pc1 := 91) rfl ?_
            have s17 := HX_trans s16 u17
            have w := w t17 u17
            refine r_aldn (pc1 := 92) rfl rfl rfl ?_
            refine r_n (pc1 := 93) [.int (J x5), rv 437] _ rfl rfl ?_
            refine r_n (pc1 := 95) [.int (J 6), .int (J x5), rv 437] _ rfl rfl ?_
            refine r_aldn (pc1 := 96) rfl rfl rfl ?_
            refine r_ald (pc1 := 98) rfl rfl rfl ?_
            refine r_iv rfl rfl rfl rfl rfl rfl t17 (lyk t17 rfl) rfl (xe_of (xa_r (xa_r xa_0)) rfl rfl) (r_d0 hd rfl) (a_X14_keep a11 (r_d1 hd rfl)  w t17 (fun x18 h19 t19 u19 rx18 w => ?_))
            refine r_fI (pc1 := 101) rfl ?_
            have s19 := HX_trans s17 u19
            have w := w t19 u19
            have w := w rx18
            refine r_n (pc1 := 102) [.int (J 1), .int (J x18), .int (J 6), .int (J x5), rv 437] _ rfl rfl ?_
            refine r_iadd (pc1 := 103) rfl rfl ?_
            refine r_iv rfl rfl rfl rfl rfl rfl t19 (lyk t19 rfl) rfl (xe_of (xa_r (xa_i (xa_i (xa_i xa_0)))) rfl rfl) (r_d0 hd rfl) (a_X14_put x5 6 (wr (x18 + 1)) (r_d1 hd rfl) rx5 (rgk rfl) (rgw _) w t19 (fun h20 t20 u20 w => ?_))
            refine r_fV (pc1 := 106) rfl ?_
            have s20 := HX_trans s19 u20
            have w := w t20 u20
            refine r_n (pc1 := 107) [.int (J 0)] _ rfl rfl ?_
            refine r_ist (pc1 := 109) (ls1 := [some (rv 437), some (.int (J p0)), some (.int (J p1)), some (.int (J x5)), some (rv a11), some (.int (J 0)), none]) rfl rfl rfl (xput1_rv rfl rfl) ?_
            refine r_n (pc1 := 110) [.int (J 0)] _ rfl rfl ?_
            refine r_ist (pc1 := 112) (ls1 := [some (rv 437), some (.int (J p0)), some (.int (J p1)), some (.int (J x5)), some (rv a11), some (.int (J 0)), some (.int (J 0))]) rfl rfl rfl rfl ?_
            obtain ⟨I24, m24, w, y24⟩ := w
            have Q24 : ∀ (n : Nat) (d21 : Option Value) (x22 : Int) (x23 : Int), rg x22 → rg x23 → m24 x22 x23 < n → I24 x22 x23 → RR sc goal fs 263 112 [some (rv 437), some (.int (J p0)), some (.int (J p1)), some (.int (J x5)), d21, some (.int (J x22)), some (.int (J x23))] [] h20 := by
              intro n
              induction n with
              | zero => intro d21 x22 x23 rx22 rx23 q24 _; exact absurd q24 (Nat.not_lt_zero _)
              | succ n ih24 =>
                intro d21 x22 x23 rx22 rx23 q24 z24
                have w := y24 x22 x23 rx22 rx23 z24
                refine r_n (pc1 := 114) [.int (J x23)] _ rfl rfl ?_
                refine r_aldn (pc1 := 115) rfl rfl rfl ?_
                refine r_gfC (pc1 := 118) (q := 438) rfl rfl rfl t20 (lyk t20 rfl) rfl rfl (lyR t20 rfl rfl) ?_
                refine r_n (pc1 := 119) [.int (J 4), rv 438, .int (J x23)] _ rfl rfl ?_
                refine r_ial (pc1 := 120) rfl rfl t20 (lyk t20 rfl) (rgk rfl) (by decide) (lt_len (lyn t20 rfl) (by decide)) ?_
                refine r_ic (t := 161) (pc1 := 123) rfl rfl rfl rx23 (rgh _ _ _) (fun c34 => ?_) (fun c34 => ?_)
                · have w := w.1 c34
                  refine r_n (pc1 := 163) [.int (J x22)] _ rfl rfl ?_
                  exact r_retI rfl rfl rfl (k _ _ t20 s20 rx22 w)
                · have w := w.2 c34
                  refine r_n (pc1 := 125) [.int (J x22)] _ rfl rfl ?_
                  refine r_aldn (pc1 := 126) rfl rfl rfl ?_
                  refine r_n (pc1 := 128) [.int (J x23), rv 437, .int (J x22)] _ rfl rfl ?_
                  refine r_n (pc1 := 129) [.int (J 0), .int (J x23), rv 437, .int (J x22)] _ rfl rfl ?_
                  refine r_iv rfl rfl rfl rfl rfl rfl t20 (lyk t20 rfl) rfl (xe_of (xa_r (xa_i (xa_i xa_0))) rfl rfl) (r_d0 hd rfl) (a_X14_ver x23 0 (r_d1 hd rfl) rx23 (rgk rfl) w t20 (fun x25 rx25 w => ?_))
                  refine r_fI (pc1 := 132) rfl ?_
                  have w := w rx25
                  refine r_n (pc1 := 133) [.int (J p0), .int (J x25), .int (J x22)] _ rfl rfl ?_
                  obtain ⟨J27, j27, w⟩ := w
                  have Q27 : ∀ (x26 : Int), rg x26 → J27 x26 → RR sc goal fs 263 152 [some (rv 437), some (.int (J p0)), some (.int (J p1)), some (.int (J x5)), d21, some (.int (J x22)), some (.int (J x23))] [.int (J x26), .int (J x22)] h20 := by
                    intro x26 rx26 z27
                    have w := j27 x26 rx26 z27
                    refine r_iadd (pc1 := 153) rfl rfl ?_
                    refine r_vI (rgw _) (fun x28 ex28 rx28 => ?_)
                    have w := w x28 ex28 rx28
                    refine r_ist (pc1 := 155) (ls1 := [some (rv 437), some (.int (J p0)), some (.int (J p1)), some (.int (J x5)), (dcl d21), some (.int (J x28)), some (.int (J x23))]) rfl rfl rfl (xput1_d rfl rfl) ?_
                    refine r_inc (pc1 := 158) (g := fun zz => [some (rv 437), some (.int (J p0)), some (.int (J p1)), some (.int (J x5)), (dcl d21), some (.int (J x28)), some (.int (J zz))]) rfl rfl rfl rfl (fun _ => rfl) (fun x29 ex29 rx29 => ?_)
                    have w := w x29 ex29 rx29
                    refine r_goto (t := 112) rfl rfl ?_
                    exact ih24 _ x28 x29  rx28 rx29 (Nat.lt_of_lt_of_le w.2 (Nat.le_of_lt_succ q24)) w.1
                  obtain ⟨J30, j30, w⟩ := w
                  have Q30 : J30 → RR sc goal fs 263 151 [some (rv 437), some (.int (J p0)), some (.int (J p1)), some (.int (J x5)), d21, some (.int (J x22)), some (.int (J x23))] [.int (J x22)] h20 := by
                    intro z30
                    have w := j30 z30
                    refine r_n (pc1 := 152) [.int (J 0), .int (J x22)] _ rfl rfl ?_
                    exact Q27  0  (rgk rfl) w
                  refine r_ic (t := 151) (pc1 := 136) rfl rfl rfl rx25 rp0 (fun c33 => ?_) (fun c33 => ?_)
                  · have w := w.1 c33
                    exact Q30     w
                  · have w := w.2 c33
                    refine r_aldn (pc1 := 137) rfl rfl rfl ?_
                    refine r_n (pc1 := 139) [.int (J x23), rv 437, .int (J x22)] _ rfl rfl ?_
                    refine r_n (pc1 := 141) [.int (J 6), .int (J x23), rv 437, .int (J x22)] _ rfl rfl ?_
                    refine r_iv rfl rfl rfl rfl rfl rfl t20 (lyk t20 rfl) rfl (xe_of (xa_r (xa_i (xa_i xa_0))) rfl rfl) (r_d0 hd rfl) (a_X14_ver x23 6 (r_d1 hd rfl) rx23 (rgk rfl) w t20 (fun x31 rx31 w => ?_))
                    refine r_fI (pc1 := 144) rfl ?_
                    have w := w rx31
                    refine r_iz (t := 151) (pc1 := 147) rfl rfl rfl rx31 (fun c32 => ?_) (fun c32 => ?_)
                    · have w := w.1 c32
                      exact Q30     w
                    · have w := w.2 c32
                      refine r_n (pc1 := 148) [.int (J 1), .int (J x22)] _ rfl rfl ?_
                      refine r_goto (t := 152) rfl rfl ?_
                      exact Q27  1  (rgk rfl) w
            exact Q24 _ _ 0 0  (rgk rfl) (rgk rfl) (Nat.lt_succ_self _) w
          · have w := w.2 c35
            refine r_n (pc1 := 86) [.int (J 0)] _ rfl rfl ?_
            exact r_retI rfl rfl rfl (k _ _ t16 s16 (rgk rfl) w)
        refine r_null (t := 77) (pc1 := 73) rfl rfl rfl (fun c36 => ?_) (fun c36 => ?_)
        · have w := w.1 c36
          refine r_n (pc1 := 78) [.int (J 0), rv 437] _ rfl rfl ?_
          exact Q14  0  (rgk rfl) w
        · have w := w.2 c36
          refine r_n (pc1 := 74) [.int (J 1), rv 437] _ rfl rfl ?_
          refine r_goto (t := 78) rfl rfl ?_
          exact Q14  1  (rgk rfl) w
      · have w := w.2 c37
        refine r_n (pc1 := 60) [.int (J 0)] _ rfl rfl ?_
        exact r_retI rfl rfl rfl (k _ _ t10 s10 (rgk rfl) w)
    obtain ⟨J38, j38, w⟩ := w
    have Q38 : J38 → RR sc goal fs 263 51 [some (rv 437), some (.int (J p0)), some (.int (J p1)), some (.int (J x5)), none, none, none] [rv 437] h4 := by
      intro z38
      have w := j38 z38
      refine r_n (pc1 := 52) [.int (J 0), rv 437] _ rfl rfl ?_
      exact Q8  0  (rgk rfl) w
    refine r_iz (t := 51) (pc1 := 39) rfl rfl rfl rx6 (fun c41 => ?_) (fun c41 => ?_)
    · have w := w.1 c41
      exact Q38     w
    · have w := w.2 c41
      refine r_aldn (pc1 := 40) rfl rfl rfl ?_
      refine r_n (pc1 := 41) [.int (J x5), rv 437, rv 437] _ rfl rfl ?_
      refine r_iv rfl rfl rfl rfl rfl rfl t4 (lyk t4 rfl) rfl (xe_of (xa_r (xa_i xa_0)) rfl rfl) (r_d0 hd rfl) (a_X14_isInstalled x5 (r_d1 hd rfl) rx5 w t4 (fun x39 rx39 vx39 w => ?_))
      refine r_fI (pc1 := 44) rfl ?_
      have w := w rx39 vx39
      refine r_iz (t := 51) (pc1 := 47) rfl rfl rfl rx39 (fun c40 => ?_) (fun c40 => ?_)
      · have w := w.1 c40
        exact Q38     w
      · have w := w.2 c40
        refine r_n (pc1 := 48) [.int (J 1), rv 437] _ rfl rfl ?_
        refine r_goto (t := 52) rfl rfl ?_
        exact Q8  1  (rgk rfl) w
  · have w := w.2 c42
    refine r_n (pc1 := 20) [.int (J 0)] _ rfl rfl ?_
    exact r_retI rfl rfl rfl (k _ _ t4 s4 (rgk rfl) w)
def w_X14_rootAt (p0 : Int) (K : Int → Prop) (h : XH) : Prop :=
  (∀ x1 : Int, x1 = wr ((wr (805 + (wr ((hI h 438 1) * 291)))) + p0) → rg x1 → (0 ≤ x1 ∧ x1 < 1957) ∧ K (hI h 438 x1.toNat))
set_option maxHeartbeats 4000000 in
theorem a_X14_rootAt {sc : Nat × (Nat → Int32)} {goal : XO → XH → Prop} {fs : List XF} {h : XH} (p0 : Int) {K : Int → Prop} (hd : fs.length + 0 ≤ 1000) (rp0 : rg p0) (w : w_X14_rootAt p0 K h) (t0 : HT h) (k : ∀ (r : Int), rg r → K r → XFin xP sc goal fs (.inl (some (.int (J r)))) h) : RR sc goal fs 292 0 [some (rv 437), some (.int (J p0))] [] h := by
  unfold w_X14_rootAt at w
  refine r_aldn (pc1 := 1) rfl rfl rfl ?_
  refine r_gfC (pc1 := 4) (q := 438) rfl rfl rfl t0 (lyk t0 rfl) rfl rfl (lyR t0 rfl rfl) ?_
  refine r_n (pc1 := 7) [.int (J 805), rv 438] _ rfl rfl ?_
  refine r_aldn (pc1 := 8) rfl rfl rfl ?_
  refine r_gfC (pc1 := 11) (q := 438) rfl rfl rfl t0 (lyk t0 rfl) rfl rfl (lyR t0 rfl rfl) ?_
  refine r_n (pc1 := 12) [.int (J 1), rv 438, .int (J 805), rv 438] _ rfl rfl ?_
  refine r_ial (pc1 := 13) rfl rfl t0 (lyk t0 rfl) (rgk rfl) (by decide) (lt_len (lyn t0 rfl) (by decide)) ?_
  refine r_n (pc1 := 16) [.int (J 291), .int (J (hI h 438 1)), .int (J 805), rv 438] _ rfl rfl ?_
  refine r_imul (pc1 := 17) rfl rfl ?_
  refine r_iadd (pc1 := 18) rfl rfl ?_
  refine r_n (pc1 := 19) [.int (J p0), .int (J (wr (805 + (wr ((hI h 438 1) * 291))))), rv 438] _ rfl rfl ?_
  refine r_iadd (pc1 := 20) rfl rfl ?_
  refine r_vI (rgw _) (fun x1 ex1 rx1 => ?_)
  have w := w x1 ex1 rx1
  obtain ⟨c2, w⟩ := w
  refine r_ial (pc1 := 21) rfl rfl t0 (lyk t0 rfl) rx1 c2.1 (lt_len (lyn t0 rfl) c2.2) ?_
  exact r_retI rfl rfl rfl (k _ (rgh _ _ _) w)
def w_X14_wishAt (p0 : Int) (K : Nat → Prop) (h : XH) : Prop :=
  (w_X14_rootAt (wr (1 + p0)) (fun x1 => rg x1 → (∃ J3 : Nat → Prop, (∀ (a2 : Nat), J3 a2 → (K a2)) ∧ ((¬ x1 = (-1) → (hk h (hR h 437 6) = 106 ∧ (0 ≤ x1 ∧ x1 < (hn h (hR h 437 6) : Int)) ∧ J3 (hR h (hR h 437 6) x1.toNat))) ∧ (¬ (¬ x1 = (-1)) → (J3 0))))) h)
set_option maxHeartbeats 4000000 in
theorem a_X14_wishAt {sc : Nat × (Nat → Int32)} {goal : XO → XH → Prop} {fs : List XF} {h : XH} (p0 : Int) {K : Nat → Prop} (hd : fs.length + 1 ≤ 1000) (rp0 : rg p0) (w : w_X14_wishAt p0 K h) (t0 : HT h) (k : ∀ (r : Nat), K r → XFin xP sc goal fs (.inl (some (rv r))) h) : RR sc goal fs 323 0 [some (rv 437), some (.int (J p0)), none] [] h := by
  unfold w_X14_wishAt at w
  refine r_aldn (pc1 := 1) rfl rfl rfl ?_
  refine r_n (pc1 := 2) [.int (J 1), rv 437] _ rfl rfl ?_
  refine r_n (pc1 := 3) [.int (J p0), .int (J 1), rv 437] _ rfl rfl ?_
  refine r_iadd (pc1 := 4) rfl rfl ?_
  refine r_iv rfl rfl rfl rfl rfl rfl t0 (lyk t0 rfl) rfl (xe_of (xa_r (xa_i xa_0)) rfl rfl) (r_d0 hd rfl) (a_X14_rootAt (wr (1 + p0)) (r_d1 hd rfl) (rgw _) w t0 (fun x1 rx1 w => ?_))
  refine r_fI (pc1 := 7) rfl ?_
  have w := w rx1
  refine r_istn (pc1 := 8) (ls1 := [some (rv 437), some (.int (J p0)), some (.int (J x1))]) rfl rfl rfl rfl ?_
  refine r_n (pc1 := 9) [.int (J x1)] _ rfl rfl ?_
  refine r_n (pc1 := 10) [.int (J (-1)), .int (J x1)] _ rfl rfl ?_
  obtain ⟨J3, j3, w⟩ := w
  have Q3 : ∀ (a2 : Nat), J3 a2 → RR sc goal fs 323 23 [some (rv 437), some (.int (J p0)), some (.int (J x1))] [rv a2] h := by
    intro a2 z3
    have w := j3 a2 z3
    exact r_retR rfl rfl rfl xok_O xokr_O (k _ w)
  refine r_ic (t := 17) (pc1 := 13) rfl rfl rfl rx1 (rgk rfl) (fun c6 => ?_) (fun c6 => ?_)
  · have w := w.1 c6
    refine r_aldn (pc1 := 18) rfl rfl rfl ?_
    refine r_gfR (pc1 := 21) rfl rfl rfl t0 (lyk t0 rfl) rfl rfl ?_
    refine r_n (pc1 := 22) [.int (J x1), rv (hR h 437 6)] _ rfl rfl ?_
    obtain ⟨c4, w⟩ := w
    obtain ⟨c5, w⟩ := w
    refine r_aal (pc1 := 23) (u := 6) rfl rfl t0 c4 rfl rfl rx1 c5.1 c5.2 ?_
    exact Q3  (hR h (hR h 437 6) x1.toNat)   w
  · have w := w.2 c6
    refine r_n (pc1 := 14) [rv 0] _ rfl rfl ?_
    refine r_goto (t := 23) rfl rfl ?_
    exact Q3  0   w
