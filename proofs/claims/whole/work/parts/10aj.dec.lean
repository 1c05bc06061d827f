/-! printed by dec.py: what each method wants, and that the machine keeps it -/ 
def w_X14_refused (p0 : Int) (p1 : Int) (K : Int → XH → Prop) (h : XH) : Prop :=
  (∃ J2 : XH → Prop, (∀ (h1 : XH), HT h1 → HX h h1 → J2 h1 → (∃ J4 : Int → Prop, (∀ (x3 : Int), rg x3 → J4 x3 → ((x3 = 0 ∨ x3 = 1) ∧ K x3 h1)) ∧ ((¬ p0 = 0 → (J4 0)) ∧ (¬ (¬ p0 = 0) → (J4 1))))) ∧ ((¬ p0 = 0 → J2 h) ∧ (¬ (¬ p0 = 0) → (∀ h7 : XH, h7 = sI h 437 5 p1 → HT h7 → HX h h7 → J2 h7))))
set_option maxHeartbeats 4000000 in
theorem a_X14_refused {sc : Nat × (Nat → Int32)} {goal : XO → XH → Prop} {fs : List XF} {h : XH} (p0 : Int) (p1 : Int) {K : Int → XH → Prop} (hd : fs.length + 0 ≤ 1000) (rp0 : rg p0) (rp1 : rg p1) (w : w_X14_refused p0 p1 K h) (t0 : HT h) (k : ∀ (r : Int) (h1 : XH), HT h1 → HX h h1 → rg r → (r = 0 ∨ r = 1) → K r h1 → XFin xP sc goal fs (.inl (some (.int (J r)))) h1) : RR sc goal fs 290 0 [some (rv 437), some (.int (J p0)), some (.int (J p1))] [] h := by
  unfold w_X14_refused at w
  refine r_n (pc1 := 1) [.int (J p0)] _ rfl rfl ?_
  obtain ⟨J2, j2, w⟩ := w
  have Q2 : ∀ (h1 : XH), HT h1 → HX h h1 → J2 h1 → RR sc goal fs 290 9 [some (rv 437), some (.int (J p0)), some (.int (J p1))] [] h1 := by
    intro h1 t1 s1 z2
    have w := j2 h1 t1 s1 z2
    refine r_n (pc1 := 10) [.int (J p0)] _ rfl rfl ?_
    obtain ⟨J4, j4, w⟩ := w
    have Q4 : ∀ (x3 : Int), rg x3 → J4 x3 → RR sc goal fs 290 18 [some (rv 437), some (.int (J p0)), some (.int (J p1))] [.int (J x3)] h1 := by
      intro x3 rx3 z4
      have w := j4 x3 rx3 z4
      obtain ⟨c5, w⟩ := w
      exact r_retB rfl rfl rfl c5 (k _ _ t1 s1 rx3 c5 w)
    refine r_iz (t := 17) (pc1 := 13) rfl rfl rfl rp0 (fun c6 => ?_) (fun c6 => ?_)
    · have w := w.1 c6
      refine r_n (pc1 := 18) [.int (J 0)] _ rfl rfl ?_
      exact Q4  0  (rgk rfl) w
    · have w := w.2 c6
      refine r_n (pc1 := 14) [.int (J 1)] _ rfl rfl ?_
      refine r_goto (t := 18) rfl rfl ?_
      exact Q4  1  (rgk rfl) w
  refine r_iz (t := 9) (pc1 := 4) rfl rfl rfl rp0 (fun c8 => ?_) (fun c8 => ?_)
  · have w := w.1 c8
    exact Q2   h t0 (HX_refl h)  w
  · have w := w.2 c8
    refine r_aldn (pc1 := 5) rfl rfl rfl ?_
    refine r_n (pc1 := 6) [.int (J p1), rv 437] _ rfl rfl ?_
    refine r_pfI (pc1 := 9) rfl rfl rfl t0 (lyk t0 rfl) rfl rfl rfl (fun h7 eh7 t7 u7 => ?_)
    have w := w h7 eh7 t7 u7
    have s7 := HX_trans (HX_refl h) u7
    exact Q2   h7 t7 s7  w
def w_X14_append (p0 : Int) (p1 : Int) (p2 : Int) (p3 : Int) (p4 : Int) (K : Int → XH → Prop) (h : XH) : Prop :=
  (∀ h1 : XH, h1 = sI h 437 5 0 → HT h1 → HX h h1 → (∃ (I4 : Int → Int → Prop) (m4 : Int → Int → Nat), I4 0 0 ∧ ∀ (x2 : Int) (x3 : Int), rg x2 → rg x3 → I4 x2 x3 → (((20 ≤ x3 → (∃ J6 : Int → Prop, (∀ (x5 : Int), rg x5 → J6 x5 → (w_X14_refused x5 1 (fun x7 h8 => HT h8 → HX h1 h8 → rg x7 → (x7 = 0 ∨ x7 = 1) → (((x7 = 0 → ((∃ (I13 : Int → XH → Prop) (m13 : Int → XH → Nat), I13 0 h8 ∧ ∀ (x10 : Int) (h12 : XH), HT h12 → HX h h12 → rg x10 → I13 x10 h12 → (((20 ≤ x10 → (K (hI h12 437 9) h12)) ∧ (¬ (20 ≤ x10) → (w_X14_byteOf p0 p1 p2 p3 p4 x10 (fun x14 => rg x14 → (∃ J16 : XH → Prop, (∀ (h15 : XH), HT h15 → HX h h15 → J16 h15 → (∀ x17 : Int, x17 = wr (x10 + 1) → rg x17 → (I13 x17 h15 ∧ m13 x17 h15 < m13 x10 h12))) ∧ ((x14 = 0 → J16 h12) ∧ (¬ (x14 = 0) → ((0 ≤ hI h12 437 9 ∧ hI h12 437 9 < 200) ∧ ∀ h19 : XH, h19 = sI h12 441 (hI h12 437 9).toNat x14 → HT h19 → HX h12 h19 → ∀ h20 : XH, h20 = sI h19 437 9 (wr ((hI h19 437 9) + 1)) → HT h20 → HX h19 h20 → J16 h20))))) h12))))))) ∧ (¬ (x7 = 0) → (K 0 h8))))) h1)) ∧ ((200 < wr ((hI h1 437 9) + x2) → (J6 0)) ∧ (¬ (200 < wr ((hI h1 437 9) + x2)) → (J6 1))))) ∧ (¬ (20 ≤ x3) → (w_X14_byteOf p0 p1 p2 p3 p4 x3 (fun x25 => rg x25 → (∃ J27 : Int → Prop, (∀ (x26 : Int), rg x26 → J27 x26 → (∀ x28 : Int, x28 = wr (x2 + x26) → rg x28 → ∀ x29 : Int, x29 = wr (x3 + 1) → rg x29 → (I4 x28 x29 ∧ m4 x28 x29 < m4 x2 x3))) ∧ ((¬ x25 = 0 → (J27 1)) ∧ (¬ (¬ x25 = 0) → (J27 0))))) h1))))))
set_option maxHeartbeats 4000000 in
theorem a_X14_append {sc : Nat × (Nat → Int32)} {goal : XO → XH → Prop} {fs : List XF} {h : XH} (p0 : Int) (p1 : Int) (p2 : Int) (p3 : Int) (p4 : Int) {K : Int → XH → Prop} (hd : fs.length + 1 ≤ 1000) (rp0 : rg p0) (rp1 : rg p1) (rp2 : rg p2) (rp3 : rg p3) (rp4 : rg p4) (w : w_X14_append p0 p1 p2 p3 p4 K h) (t0 : HT h) (k : ∀ (r : Int) (h1 : XH), HT h1 → HX h h1 → rg r → K r h1 → XFin xP sc goal fs (.inl (some (.int (J r)))) h1) : RR sc goal fs 172 0 [some (rv 437), some (.int (J p0)), some (.int (J p1)), some (.int (J p2)), some (.int (J p3)), some (.int (J p4)), none, none, none] [] h := by
  unfold w_X14_append at w
  refine r_aldn (pc1 := 1) rfl rfl rfl ?_
  refine r_n (pc1 := 2) [.int (J 0), rv 437] _ rfl rfl ?_
  refine r_pfI (pc1 := 5) rfl rfl rfl t0 (lyk t0 rfl) rfl rfl rfl (fun h1 eh1 t1 u1 => ?_)
  have w := w h1 eh1 t1 u1
  have s1 := HX_trans (HX_refl h) u1
  refine r_n (pc1 := 6) [.int (J 0)] _ rfl rfl ?_
  refine r_ist (pc1 := 8) (ls1 := [some (rv 437), some (.int (J p0)), some (.int (J p1)), some (.int (J p2)), some (.int (J p3)), some (.int (J p4)), some (.int (J 0)), none, none]) rfl rfl rfl rfl ?_
  refine r_n (pc1 := 9) [.int (J 0)] _ rfl rfl ?_
  refine r_ist (pc1 := 11) (ls1 := [some (rv 437), some (.int (J p0)), some (.int (J p1)), some (.int (J p2)), some (.int (J p3)), some (.int (J p4)), some (.int (J 0)), some (.int (J 0)), none]) rfl rfl rfl rfl ?_
  obtain ⟨I4, m4, w, y4⟩ := w
  have Q4 : ∀ (n : Nat)  (x2 : Int) (x3 : Int), rg x2 → rg x3 → m4 x2 x3 < n → I4 x2 x3 → RR sc goal fs 172 11 [some (rv 437), some (.int (J p0)), some (.int (J p1)), some (.int (J p2)), some (.int (J p3)), some (.int (J p4)), some (.int (J x2)), some (.int (J x3)), none] [] h1 := by
    intro n
    induction n with
    | zero => intro x2 x3 rx2 rx3 q4 _; exact absurd q4 (Nat.not_lt_zero _)
    | succ n ih4 =>
      intro x2 x3 rx2 rx3 q4 z4
      have w := y4 x2 x3 rx2 rx3 z4
      refine r_n (pc1 := 13) [.int (J x3)] _ rfl rfl ?_
      refine r_n (pc1 := 15) [.int (J 20), .int (J x3)] _ rfl rfl ?_
      refine r_ic (t := 49) (pc1 := 18) rfl rfl rfl rx3 (rgk rfl) (fun c31 => ?_) (fun c31 => ?_)
      · have w := w.1 c31
        refine r_aldn (pc1 := 50) rfl rfl rfl ?_
        refine r_aldn (pc1 := 51) rfl rfl rfl ?_
        refine r_gfI (pc1 := 54) rfl rfl rfl t1 (lyk t1 rfl) rfl rfl ?_
        refine r_n (pc1 := 56) [.int (J x2), .int (J (hI h1 437 9)), rv 437] _ rfl rfl ?_
        refine r_iadd (pc1 := 57) rfl rfl ?_
        refine r_n (pc1 := 60) [.int (J 200), .int (J (wr ((hI h1 437 9) + x2))), rv 437] _ rfl rfl ?_
        obtain ⟨J6, j6, w⟩ := w
        have Q6 : ∀ (x5 : Int), rg x5 → J6 x5 → RR sc goal fs 172 68 [some (rv 437), some (.int (J p0)), some (.int (J p1)), some (.int (J p2)), some (.int (J p3)), some (.int (J p4)), some (.int (J x2)), some (.int (J x3)), none] [.int (J x5), rv 437] h1 := by
          intro x5 rx5 z6
          have w := j6 x5 rx5 z6
          refine r_n (pc1 := 69) [.int (J 1), .int (J x5), rv 437] _ rfl rfl ?_
          refine r_iv rfl rfl rfl rfl rfl rfl t1 (lyk t1 rfl) rfl (xe_of (xa_r (xa_i (xa_i xa_0))) rfl rfl) (r_d0 hd rfl) (a_X14_refused x5 1 (r_d1 hd rfl) rx5 (rgk rfl) w t1 (fun x7 h8 t8 u8 rx7 vx7 w => ?_))
          refine r_fI (pc1 := 72) rfl ?_
          have s8 := HX_trans s1 u8
          have w := w t8 u8
          have w := w rx7 vx7
          refine r_iz (t := 77) (pc1 := 75) rfl rfl rfl rx7 (fun c23 => ?_) (fun c23 => ?_)
          · have w := w.1 c23
            refine r_n (pc1 := 78) [.int (J 0)] _ rfl rfl ?_
            refine r_ist (pc1 := 80) (ls1 := [some (rv 437), some (.int (J p0)), some (.int (J p1)), some (.int (J p2)), some (.int (J p3)), some (.int (J p4)), some (.int (J x2)), some (.int (J 0)), none]) rfl rfl rfl rfl ?_
            obtain ⟨I13, m13, w, y13⟩ := w
            have Q13 : ∀ (n : Nat) (d9 : Option Value) (d11 : Option Value) (x10 : Int) (h12 : XH), HT h12 → HX h h12 → rg x10 → m13 x10 h12 < n → I13 x10 h12 → RR sc goal fs 172 80 [some (rv 437), some (.int (J p0)), some (.int (J p1)), some (.int (J p2)), some (.int (J p3)), some (.int (J p4)), d9, some (.int (J x10)), d11] [] h12 := by
              intro n
              induction n with
              | zero => intro d9 d11 x10 h12 t12 s12 rx10 q13 _; exact absurd q13 (Nat.not_lt_zero _)
              | succ n ih13 =>
                intro d9 d11 x10 h12 t12 s12 rx10 q13 z13
                have w := y13 x10 h12 t12 s12 rx10 z13
                refine r_n (pc1 := 82) [.int (J x10)] _ rfl rfl ?_
                refine r_n (pc1 := 84) [.int (J 20), .int (J x10)] _ rfl rfl ?_
                refine r_ic (t := 133) (pc1 := 87) rfl rfl rfl rx10 (rgk rfl) (fun c22 => ?_) (fun c22 => ?_)
                · have w := w.1 c22
                  refine r_aldn (pc1 := 134) rfl rfl rfl ?_
                  refine r_gfI (pc1 := 137) rfl rfl rfl t12 (lyk t12 rfl) rfl rfl ?_
                  exact r_retI rfl rfl rfl (k _ _ t12 s12 (rgh _ _ _) w)
                · have w := w.2 c22
                  refine r_n (pc1 := 88) [.int (J p0)] _ rfl rfl ?_
                  refine r_n (pc1 := 89) [.int (J p1), .int (J p0)] _ rfl rfl ?_
                  refine r_n (pc1 := 90) [.int (J p2), .int (J p1), .int (J p0)] _ rfl rfl ?_
                  refine r_n (pc1 := 92) [.int (J p3), .int (J p2), .int (J p1), .int (J p0)] _ rfl rfl ?_
                  refine r_n (pc1 := 94) [.int (J p4), .int (J p3), .int (J p2), .int (J p1), .int (J p0)] _ rfl rfl ?_
                  refine r_n (pc1 := 96) [.int (J x10), .int (J p4), .int (J p3), .int (J p2), .int (J p1), .int (J p0)] _ rfl rfl ?_
                  refine r_iq rfl rfl rfl rfl rfl rfl (xe_of (xa_i (xa_i (xa_i (xa_i (xa_i (xa_i xa_0)))))) rfl rfl) (r_d0 hd rfl) (a_X14_byteOf p0 p1 p2 p3 p4 x10 (r_d1 hd rfl) rp0 rp1 rp2 rp3 rp4 rx10 w t12 (fun x14 rx14 w => ?_))
                  refine r_fI (pc1 := 99) rfl ?_
                  have w := w rx14
                  refine r_ist (pc1 := 101) (ls1 := [some (rv 437), some (.int (J p0)), some (.int (J p1)), some (.int (J p2)), some (.int (J p3)), some (.int (J p4)), d9, some (.int (J x10)), some (.int (J x14))]) rfl rfl rfl rfl ?_
                  refine r_n (pc1 := 103) [.int (J x14)] _ rfl rfl ?_
                  obtain ⟨J16, j16, w⟩ := w
                  have Q16 : ∀ (h15 : XH), HT h15 → HX h h15 → J16 h15 → RR sc goal fs 172 127 [some (rv 437), some (.int (J p0)), some (.int (J p1)), some (.int (J p2)), some (.int (J p3)), some (.int (J p4)), d9, some (.int (J x10)), some (.int (J x14))] [] h15 := by
                    intro h15 t15 s15 z16
                    have w := j16 h15 t15 s15 z16
                    refine r_inc (pc1 := 130) (g := fun zz => [some (rv 437), some (.int (J p0)), some (.int (J p1)), some (.int (J p2)), some (.int (J p3)), some (.int (J p4)), (dcl d9), some (.int (J zz)), some (.int (J x14))]) rfl rfl rfl rfl (fun _ => xput1_d rfl rfl) (fun x17 ex17 rx17 => ?_)
                    have w := w x17 ex17 rx17
                    refine r_goto (t := 80) rfl rfl ?_
                    exact ih13 _ _ x17 h15 t15 s15 rx17 (Nat.lt_of_lt_of_le w.2 (Nat.le_of_lt_succ q13)) w.1
                  refine r_iz (t := 127) (pc1 := 106) rfl rfl rfl rx14 (fun c21 => ?_) (fun c21 => ?_)
                  · have w := w.1 c21
                    exact Q16   h12 t12 s12  w
                  · have w := w.2 c21
                    refine r_aldn (pc1 := 107) rfl rfl rfl ?_
                    refine r_gfC (pc1 := 110) (q := 441) rfl rfl rfl t12 (lyk t12 rfl) rfl rfl (lyR t12 rfl rfl) ?_
                    refine r_aldn (pc1 := 111) rfl rfl rfl ?_
                    refine r_gfI (pc1 := 114) rfl rfl rfl t12 (lyk t12 rfl) rfl rfl ?_
                    refine r_n (pc1 := 116) [.int (J x14), .int (J (hI h12 437 9)), rv 441] _ rfl rfl ?_
                    obtain ⟨c18, w⟩ := w
                    refine r_iast (pc1 := 117) rfl rfl t12 (lyk t12 rfl) (rgh _ _ _) c18.1 (lt_len (lyn t12 rfl) c18.2) (fun h19 eh19 t19 u19 => ?_)
                    have w := w h19 eh19 t19 u19
                    have s19 := HX_trans s12 u19
                    refine r_aldn (pc1 := 118) rfl rfl rfl ?_
                    refine r_dupR (pc1 := 119) rfl rfl ?_
                    refine r_gfI (pc1 := 122) rfl rfl rfl t19 (lyk t19 rfl) rfl rfl ?_
                    refine r_n (pc1 := 123) [.int (J 1), .int (J (hI h19 437 9)), rv 437] _ rfl rfl ?_
                    refine r_iadd (pc1 := 124) rfl rfl ?_
                    refine r_pfI (pc1 := 127) rfl rfl rfl t19 (lyk t19 rfl) rfl rfl rfl (fun h20 eh20 t20 u20 => ?_)
                    have w := w h20 eh20 t20 u20
                    have s20 := HX_trans s19 u20
                    exact Q16   h20 t20 s20  w
            exact Q13 _ _ _ 0 h8 t8 s8 (rgk rfl) (Nat.lt_succ_self _) w
          · have w := w.2 c23
            refine r_n (pc1 := 76) [.int (J 0)] _ rfl rfl ?_
            exact r_retI rfl rfl rfl (k _ _ t8 s8 (rgk rfl) w)
        refine r_ic (t := 67) (pc1 := 63) rfl rfl rfl (rgw _) (rgk rfl) (fun c24 => ?_) (fun c24 => ?_)
        · have w := w.1 c24
          refine r_n (pc1 := 68) [.int (J 0), rv 437] _ rfl rfl ?_
          exact Q6  0  (rgk rfl) w
        · have w := w.2 c24
          refine r_n (pc1 := 64) [.int (J 1), rv 437] _ rfl rfl ?_
          refine r_goto (t := 68) rfl rfl ?_
          exact Q6  1  (rgk rfl) w
      · have w := w.2 c31
        refine r_n (pc1 := 20) [.int (J x2)] _ rfl rfl ?_
        refine r_n (pc1 := 21) [.int (J p0), .int (J x2)] _ rfl rfl ?_
        refine r_n (pc1 := 22) [.int (J p1), .int (J p0), .int (J x2)] _ rfl rfl ?_
        refine r_n (pc1 := 23) [.int (J p2), .int (J p1), .int (J p0), .int (J x2)] _ rfl rfl ?_
        refine r_n (pc1 := 25) [.int (J p3), .int (J p2), .int (J p1), .int (J p0), .int (J x2)] _ rfl rfl ?_
        refine r_n (pc1 := 27) [.int (J p4), .int (J p3), .int (J p2), .int (J p1), .int (J p0), .int (J x2)] _ rfl rfl ?_
        refine r_n (pc1 := 29) [.int (J x3), .int (J p4), .int (J p3), .int (J p2), .int (J p1), .int (J p0), .int (J x2)] _ rfl rfl ?_
        refine r_iq rfl rfl rfl rfl rfl rfl (xe_of (xa_i (xa_i (xa_i (xa_i (xa_i (xa_i xa_0)))))) rfl rfl) (r_d0 hd rfl) (a_X14_byteOf p0 p1 p2 p3 p4 x3 (r_d1 hd rfl) rp0 rp1 rp2 rp3 rp4 rx3 w t1 (fun x25 rx25 w => ?_))
        refine r_fI (pc1 := 32) rfl ?_
        have w := w rx25
        obtain ⟨J27, j27, w⟩ := w
        have Q27 : ∀ (x26 : Int), rg x26 → J27 x26 → RR sc goal fs 172 40 [some (rv 437), some (.int (J p0)), some (.int (J p1)), some (.int (J p2)), some (.int (J p3)), some (.int (J p4)), some (.int (J x2)), some (.int (J x3)), none] [.int (J x26), .int (J x2)] h1 := by
          intro x26 rx26 z27
          have w := j27 x26 rx26 z27
          refine r_iadd (pc1 := 41) rfl rfl ?_
          refine r_vI (rgw _) (fun x28 ex28 rx28 => ?_)
          have w := w x28 ex28 rx28
          refine r_ist (pc1 := 43) (ls1 := [some (rv 437), some (.int (J p0)), some (.int (J p1)), some (.int (J p2)), some (.int (J p3)), some (.int (J p4)), some (.int (J x28)), some (.int (J x3)), none]) rfl rfl rfl rfl ?_
          refine r_inc (pc1 := 46) (g := fun zz => [some (rv 437), some (.int (J p0)), some (.int (J p1)), some (.int (J p2)), some (.int (J p3)), some (.int (J p4)), some (.int (J x28)), some (.int (J zz)), none]) rfl rfl rfl rfl (fun _ => rfl) (fun x29 ex29 rx29 => ?_)
          have w := w x29 ex29 rx29
          refine r_goto (t := 11) rfl rfl ?_
          exact ih4  x28 x29  rx28 rx29 (Nat.lt_of_lt_of_le w.2 (Nat.le_of_lt_succ q4)) w.1
        refine r_iz (t := 39) (pc1 := 35) rfl rfl rfl rx25 (fun c30 => ?_) (fun c30 => ?_)
        · have w := w.1 c30
          refine r_n (pc1 := 40) [.int (J 1), .int (J x2)] _ rfl rfl ?_
          exact Q27  1  (rgk rfl) w
        · have w := w.2 c30
          refine r_n (pc1 := 36) [.int (J 0), .int (J x2)] _ rfl rfl ?_
          refine r_goto (t := 40) rfl rfl ?_
          exact Q27  0  (rgk rfl) w
  exact Q4 _  0 0  (rgk rfl) (rgk rfl) (Nat.lt_succ_self _) w
def w_X14_thrown  (K : Int → Prop) (h : XH) : Prop :=
  (K (hI h 437 5))
set_option maxHeartbeats 4000000 in
theorem a_X14_thrown {sc : Nat × (Nat → Int32)} {goal : XO → XH → Prop} {fs : List XF} {h : XH}  {K : Int → Prop} (hd : fs.length + 0 ≤ 1000) (w : w_X14_thrown  K h) (t0 : HT h) (k : ∀ (r : Int), rg r → K r → XFin xP sc goal fs (.inl (some (.int (J r)))) h) : RR sc goal fs 313 0 [some (rv 437)] [] h := by
  unfold w_X14_thrown at w
  refine r_aldn (pc1 := 1) rfl rfl rfl ?_
  refine r_gfI (pc1 := 4) rfl rfl rfl t0 (lyk t0 rfl) rfl rfl ?_
  exact r_retI rfl rfl rfl (k _ (rgh _ _ _) w)
def w_X5_empty  (K : Int → XH → Prop) (h : XH) : Prop :=
  (∀ x1 : Int, x1 = hI h 3 1 → rg x1 → ∀ h2 : XH, h2 = sI h 3 1 0 → HT h2 → HX h h2 → K x1 h2)
set_option maxHeartbeats 4000000 in
theorem a_X5_empty {sc : Nat × (Nat → Int32)} {goal : XO → XH → Prop} {fs : List XF} {h : XH}  {K : Int → XH → Prop} (hd : fs.length + 0 ≤ 1000) (w : w_X5_empty  K h) (t0 : HT h) (k : ∀ (r : Int) (h1 : XH), HT h1 → HX h h1 → rg r → K r h1 → XFin xP sc goal fs (.inl (some (.int (J r)))) h1) : RR sc goal fs 394 0 [some (rv 3), none] [] h := by
  unfold w_X5_empty at w
  refine r_aldn (pc1 := 1) rfl rfl rfl ?_
  refine r_gfI (pc1 := 4) rfl rfl rfl t0 (lyk t0 rfl) rfl rfl ?_
  refine r_vI (rgh _ _ _) (fun x1 ex1 rx1 => ?_)
  have w := w x1 ex1 rx1
  refine r_istn (pc1 := 5) (ls1 := [some (rv 3), some (.int (J x1))]) rfl rfl rfl rfl ?_
  refine r_aldn (pc1 := 6) rfl rfl rfl ?_
  refine r_n (pc1 := 7) [.int (J 0), rv 3] _ rfl rfl ?_
  refine r_pfI (pc1 := 10) rfl rfl rfl t0 (lyk t0 rfl) rfl rfl rfl (fun h2 eh2 t2 u2 => ?_)
  have w := w h2 eh2 t2 u2
  have s2 := HX_trans (HX_refl h) u2
  refine r_n (pc1 := 11) [.int (J x1)] _ rfl rfl ?_
  exact r_retI rfl rfl rfl (k _ _ t2 s2 rx1 w)
def w_X12_clearTape  (K : Int → XH → Prop) (h : XH) : Prop :=
  (w_X5_empty (fun x1 h2 => HT h2 → HX h h2 → rg x1 → (K x1 h2)) h)
set_option maxHeartbeats 4000000 in
theorem a_X12_clearTape {sc : Nat × (Nat → Int32)} {goal : XO → XH → Prop} {fs : List XF} {h : XH}  {K : Int → XH → Prop} (hd : fs.length + 1 ≤ 1000) (w : w_X12_clearTape  K h) (t0 : HT h) (k : ∀ (r : Int) (h1 : XH), HT h1 → HX h h1 → rg r → K r h1 → XFin xP sc goal fs (.inl (some (.int (J r)))) h1) : RR sc goal fs 98 0 [some (rv 2)] [] h := by
  unfold w_X12_clearTape at w
  refine r_aldn (pc1 := 1) rfl rfl rfl ?_
  refine r_gfC (pc1 := 4) (q := 3) rfl rfl rfl t0 (lyk t0 rfl) rfl rfl (lyR t0 rfl rfl) ?_
  refine r_iv rfl rfl rfl rfl rfl rfl t0 (lyk t0 rfl) rfl (xe_of (xa_r xa_0) rfl rfl) (r_d0 hd rfl) (a_X5_empty  (r_d1 hd rfl)  w t0 (fun x1 h2 t2 u2 rx1 w => ?_))
  refine r_fI (pc1 := 7) rfl ?_
  have s2 := HX_trans (HX_refl h) u2
  have w := w t2 u2
  have w := w rx1
  exact r_retI rfl rfl rfl (k _ _ t2 s2 rx1 w)
def w_X14_clearTape  (K : Int → XH → Prop) (h : XH) : Prop :=
  (∀ h1 : XH, h1 = sI h 437 5 0 → HT h1 → HX h h1 → ∀ x2 : Int, x2 = hI h1 437 9 → rg x2 → ∀ h3 : XH, h3 = sI h1 437 9 0 → HT h3 → HX h1 h3 → K x2 h3)
set_option maxHeartbeats 4000000 in
theorem a_X14_clearTape {sc : Nat × (Nat → Int32)} {goal : XO → XH → Prop} {fs : List XF} {h : XH}  {K : Int → XH → Prop} (hd : fs.length + 0 ≤ 1000) (w : w_X14_clearTape  K h) (t0 : HT h) (k : ∀ (r : Int) (h1 : XH), HT h1 → HX h h1 → rg r → K r h1 → XFin xP sc goal fs (.inl (some (.int (J r)))) h1) : RR sc goal fs 184 0 [some (rv 437), none] [] h := by
  unfold w_X14_clearTape at w
  refine r_aldn (pc1 := 1) rfl rfl rfl ?_
  refine r_n (pc1 := 2) [.int (J 0), rv 437] _ rfl rfl ?_
  refine r_pfI (pc1 := 5) rfl rfl rfl t0 (lyk t0 rfl) rfl rfl rfl (fun h1 eh1 t1 u1 => ?_)
  have w := w h1 eh1 t1 u1
  have s1 := HX_trans (HX_refl h) u1
  refine r_aldn (pc1 := 6) rfl rfl rfl ?_
  refine r_gfI (pc1 := 9) rfl rfl rfl t1 (lyk t1 rfl) rfl rfl ?_
  refine r_vI (rgh _ _ _) (fun x2 ex2 rx2 => ?_)
  have w := w x2 ex2 rx2
  refine r_istn (pc1 := 10) (ls1 := [some (rv 437), some (.int (J x2))]) rfl rfl rfl rfl ?_
  refine r_aldn (pc1 := 11) rfl rfl rfl ?_
  refine r_n (pc1 := 12) [.int (J 0), rv 437] _ rfl rfl ?_
  refine r_pfI (pc1 := 15) rfl rfl rfl t1 (lyk t1 rfl) rfl rfl rfl (fun h3 eh3 t3 u3 => ?_)
  have w := w h3 eh3 t3 u3
  have s3 := HX_trans s1 u3
  refine r_n (pc1 := 16) [.int (J x2)] _ rfl rfl ?_
  exact r_retI rfl rfl rfl (k _ _ t3 s3 rx2 w)
def w_X5_errorAt  (K : Int → Prop) (h : XH) : Prop :=
  (K (hI h 3 2))
set_option maxHeartbeats 4000000 in
theorem a_X5_errorAt {sc : Nat × (Nat → Int32)} {goal : XO → XH → Prop} {fs : List XF} {h : XH}  {K : Int → Prop} (hd : fs.length + 0 ≤ 1000) (w : w_X5_errorAt  K h) (t0 : HT h) (k : ∀ (r : Int), rg r → K r → XFin xP sc goal fs (.inl (some (.int (J r)))) h) : RR sc goal fs 395 0 [some (rv 3)] [] h := by
  unfold w_X5_errorAt at w
  refine r_aldn (pc1 := 1) rfl rfl rfl ?_
  refine r_gfI (pc1 := 4) rfl rfl rfl t0 (lyk t0 rfl) rfl rfl ?_
  exact r_retI rfl rfl rfl (k _ (rgh _ _ _) w)
def w_X12_errorPosition  (K : Int → Prop) (h : XH) : Prop :=
  (w_X5_errorAt (fun x1 => rg x1 → (K x1)) h)
set_option maxHeartbeats 4000000 in
theorem a_X12_errorPosition {sc : Nat × (Nat → Int32)} {goal : XO → XH → Prop} {fs : List XF} {h : XH}  {K : Int → Prop} (hd : fs.length + 1 ≤ 1000) (w : w_X12_errorPosition  K h) (t0 : HT h) (k : ∀ (r : Int), rg r → K r → XFin xP sc goal fs (.inl (some (.int (J r)))) h) : RR sc goal fs 102 0 [some (rv 2)] [] h := by
  unfold w_X12_errorPosition at w
  refine r_aldn (pc1 := 1) rfl rfl rfl ?_
  refine r_gfC (pc1 := 4) (q := 3) rfl rfl rfl t0 (lyk t0 rfl) rfl rfl (lyR t0 rfl rfl) ?_
  refine r_iv rfl rfl rfl rfl rfl rfl t0 (lyk t0 rfl) rfl (xe_of (xa_r xa_0) rfl rfl) (r_d0 hd rfl) (a_X5_errorAt  (r_d1 hd rfl)  w t0 (fun x1 rx1 w => ?_))
  refine r_fI (pc1 := 7) rfl ?_
  have w := w rx1
  exact r_retI rfl rfl rfl (k _ rx1 w)
def w_X14_errorPosition  (K : Int → XH → Prop) (h : XH) : Prop :=
  (∀ h1 : XH, h1 = sI h 437 5 0 → HT h1 → HX h h1 → K (hI h1 437 10) h1)
set_option maxHeartbeats 4000000 in
theorem a_X14_errorPosition {sc : Nat × (Nat → Int32)} {goal : XO → XH → Prop} {fs : List XF} {h : XH}  {K : Int → XH → Prop} (hd : fs.length + 0 ≤ 1000) (w : w_X14_errorPosition  K h) (t0 : HT h) (k : ∀ (r : Int) (h1 : XH), HT h1 → HX h h1 → rg r → K r h1 → XFin xP sc goal fs (.inl (some (.int (J r)))) h1) : RR sc goal fs 193 0 [some (rv 437)] [] h := by
  unfold w_X14_errorPosition at w
  refine r_aldn (pc1 := 1) rfl rfl rfl ?_
  refine r_n (pc1 := 2) [.int (J 0), rv 437] _ rfl rfl ?_
  refine r_pfI (pc1 := 5) rfl rfl rfl t0 (lyk t0 rfl) rfl rfl rfl (fun h1 eh1 t1 u1 => ?_)
  have w := w h1 eh1 t1 u1
  have s1 := HX_trans (HX_refl h) u1
  refine r_aldn (pc1 := 6) rfl rfl rfl ?_
  refine r_gfI (pc1 := 9) rfl rfl rfl t1 (lyk t1 rfl) rfl rfl ?_
  exact r_retI rfl rfl rfl (k _ _ t1 s1 (rgh _ _ _) w)
def w_X8_addPack  (K : Int → XH → Prop) (h : XH) : Prop :=
  (∀ x1 : Int, x1 = hI h 9 0 → rg x1 → (0 ≤ x1 ∧ x1 < 12) ∧ ∀ h3 : XH, h3 = sI h 10 x1.toNat 0 → HT h3 → HX h h3 → w_X12_switchOf x1 (fun b4 => (∀ h5 : XH, h5 = sL h3 11 x1.toNat b4 → HT h5 → HX h3 h5 → ∀ h6 : XH, h6 = sI h5 9 0 (wr ((hI h5 9 0) + 1)) → HT h6 → HX h5 h6 → K x1 h6)) h3)
set_option maxHeartbeats 4000000 in
theorem a_X8_addPack {sc : Nat × (Nat → Int32)} {goal : XO → XH → Prop} {fs : List XF} {h : XH}  {K : Int → XH → Prop} (hd : fs.length + 1 ≤ 1000) (w : w_X8_addPack  K h) (t0 : HT h) (k : ∀ (r : Int) (h1 : XH), HT h1 → HX h h1 → rg r → K r h1 → XFin xP sc goal fs (.inl (some (.int (J r)))) h1) : RR sc goal fs 452 0 [some (rv 9), none] [] h := by
  unfold w_X8_addPack at w
  refine r_aldn (pc1 := 1) rfl rfl rfl ?_
  refine r_gfI (pc1 := 4) rfl rfl rfl t0 (lyk t0 rfl) rfl rfl ?_
  refine r_vI (rgh _ _ _) (fun x1 ex1 rx1 => ?_)
  have w := w x1 ex1 rx1
  refine r_istn (pc1 := 5) (ls1 := [some (rv 9), some (.int (J x1))]) rfl rfl rfl rfl ?_
  refine r_aldn (pc1 := 6) rfl rfl rfl ?_
  refine r_gfC (pc1 := 9) (q := 10) rfl rfl rfl t0 (lyk t0 rfl) rfl rfl (lyR t0 rfl rfl) ?_
  refine r_n (pc1 := 10) [.int (J x1), rv 10] _ rfl rfl ?_
  refine r_n (pc1 := 11) [.int (J 0), .int (J x1), rv 10] _ rfl rfl ?_
  obtain ⟨c2, w⟩ := w
  refine r_iast (pc1 := 12) rfl rfl t0 (lyk t0 rfl) rx1 c2.1 (lt_len (lyn t0 rfl) c2.2) (fun h3 eh3 t3 u3 => ?_)
  have w := w h3 eh3 t3 u3
  have s3 := HX_trans (HX_refl h) u3
  refine r_aldn (pc1 := 13) rfl rfl rfl ?_
  refine r_gfC (pc1 := 16) (q := 11) rfl rfl rfl t3 (lyk t3 rfl) rfl rfl (lyR t3 rfl rfl) ?_
  refine r_n (pc1 := 17) [.int (J x1), rv 11] _ rfl rfl ?_
  refine r_n (pc1 := 18) [.int (J x1), .int (J x1), rv 11] _ rfl rfl ?_
  refine r_iq rfl rfl rfl rfl rfl rfl (xe_of (xa_i xa_0) rfl rfl) (r_d0 hd rfl) (a_X12_switchOf x1 (r_d1 hd rfl) rx1 w t3 (fun b4 w => ?_))
  refine r_fL (pc1 := 21) rfl ?_
  refine r_last (pc1 := 22) rfl rfl t3 (lyk t3 rfl) rx1 c2.1 (lt_len (lyn t3 rfl) c2.2) (fun h5 eh5 t5 u5 => ?_)
  have w := w h5 eh5 t5 u5
  have s5 := HX_trans s3 u5
  refine r_aldn (pc1 := 23) rfl rfl rfl ?_
  refine r_dupR (pc1 := 24) rfl rfl ?_
  refine r_gfI (pc1 := 27) rfl rfl rfl t5 (lyk t5 rfl) rfl rfl ?_
  refine r_n (pc1 := 28) [.int (J 1), .int (J (hI h5 9 0)), rv 9] _ rfl rfl ?_
  refine r_iadd (pc1 := 29) rfl rfl ?_
  refine r_pfI (pc1 := 32) rfl rfl rfl t5 (lyk t5 rfl) rfl rfl rfl (fun h6 eh6 t6 u6 => ?_)
  have w := w h6 eh6 t6 u6
  have s6 := HX_trans s5 u6
  refine r_n (pc1 := 33) [.int (J x1)] _ rfl rfl ?_
  exact r_retI rfl rfl rfl (k _ _ t6 s6 rx1 w)
def w_X12_pack  (K : Int → XH → Prop) (E : Nat → XH → Prop) (h : XH) : Prop :=
  (((hI h 9 0 < 12 → (w_X12_remember (fun h1 => HT h1 → HX h h1 → (w_X8_addPack (fun x2 h3 => HT h3 → HX h1 h3 → rg x2 → (K x2 h3)) h1)) h)) ∧ (¬ (hI h 9 0 < 12) → (E 0 (nT h)))))
set_option maxHeartbeats 4000000 in
theorem a_X12_pack {sc : Nat × (Nat → Int32)} {goal : XO → XH → Prop} {fs : List XF} {h : XH}  {K : Int → XH → Prop} {E : Nat → XH → Prop} (hd : fs.length + 4 ≤ 1000) (w : w_X12_pack  K E h) (t0 : HT h) (k : ∀ (r : Int) (h1 : XH), HT h1 → HX h h1 → rg r → K r h1 → XFin xP sc goal fs (.inl (some (.int (J r)))) h1) (kE : ∀ (x : Nat) (h1 : XH), HT h1 → HX h h1 → E x h1 → XFin xP sc goal fs (.inr x) h1) : RR sc goal fs 136 0 [some (rv 2)] [] h := by
  unfold w_X12_pack at w
  refine r_aldn (pc1 := 1) rfl rfl rfl ?_
  refine r_gfC (pc1 := 4) (q := 8) rfl rfl rfl t0 (lyk t0 rfl) rfl rfl (lyR t0 rfl rfl) ?_
  refine r_gfC (pc1 := 7) (q := 9) rfl rfl rfl t0 (lyk t0 rfl) rfl rfl (lyR t0 rfl rfl) ?_
  refine r_gfI (pc1 := 10) rfl rfl rfl t0 (lyk t0 rfl) rfl rfl ?_
  refine r_n (pc1 := 12) [.int (J 12), .int (J (hI h 9 0))] _ rfl rfl ?_
  refine r_ic (t := 25) (pc1 := 15) rfl rfl rfl (rgh _ _ _) (rgk rfl) (fun c4 => ?_) (fun c4 => ?_)
  · have w := w.1 c4
    refine r_aldn (pc1 := 26) rfl rfl rfl ?_
    refine r_iv rfl rfl rfl rfl rfl rfl t0 (lyk t0 rfl) rfl (xe_of (xa_r xa_0) rfl rfl) (r_d0 hd rfl) (a_X12_remember  (r_d1 hd rfl)  w t0 (fun h1 t1 u1 w => ?_))
    refine r_fV (pc1 := 29) rfl ?_
    have s1 := HX_trans (HX_refl h) u1
    have w := w t1 u1
    refine r_aldn (pc1 := 30) rfl rfl rfl ?_
    refine r_gfC (pc1 := 33) (q := 8) rfl rfl rfl t1 (lyk t1 rfl) rfl rfl (lyR t1 rfl rfl) ?_
    refine r_gfC (pc1 := 36) (q := 9) rfl rfl rfl t1 (lyk t1 rfl) rfl rfl (lyR t1 rfl rfl) ?_
    refine r_iv rfl rfl rfl rfl rfl rfl t1 (lyk t1 rfl) rfl (xe_of (xa_r xa_0) rfl rfl) (r_d0 hd rfl) (a_X8_addPack  (r_d1 hd rfl)  w t1 (fun x2 h3 t3 u3 rx2 w => ?_))
    refine r_fI (pc1 := 39) rfl ?_
    have s3 := HX_trans s1 u3
    have w := w t3 u3
    have w := w rx2
    exact r_retI rfl rfl rfl (k _ _ t3 s3 rx2 w)
  · have w := w.2 c4
    exact r_thr rfl rfl rfl rfl rfl rfl (kE _ _ (HT_nT t0).1 (HX_trans (HX_refl h) (HT_nT t0).2) w)
def w_L_pack  (K : Int → XH → Prop) (h : XH) : Prop :=
  (w_X12_pack (fun x1 h2 => HT h2 → HX h h2 → rg x1 → (∀ h5 : XH, h5 = sL h2 467 0 (i2l x1) → HT h5 → HX h2 h5 → (K 0 h5))) (fun y4 h3 => ((y4 = 0 ∧ K 1 h3))) h)
set_option maxHeartbeats 4000000 in
theorem a_L_pack {sc : Nat × (Nat → Int32)} {goal : XO → XH → Prop} {fs : List XF} {h : XH}  {K : Int → XH → Prop} (hd : fs.length + 5 ≤ 1000) (w : w_L_pack  K h) (t0 : HT h) (k : ∀ (r : Int) (h1 : XH), HT h1 → HX h h1 → rg r → K r h1 → XFin xP sc goal fs (.inl (some (.int (J r)))) h1) : RR sc goal fs 52 0 [some (rv 2), some (rv 467), none] [] h := by
  unfold w_L_pack at w
  refine r_aldn (pc1 := 1) rfl rfl rfl ?_
  refine r_n (pc1 := 2) [.int (J 0), rv 467] _ rfl rfl ?_
  refine r_aldn (pc1 := 3) rfl rfl rfl ?_
  refine r_iv rfl rfl rfl rfl rfl rfl t0 (lyk t0 rfl) rfl (xe_of (xa_r xa_0) rfl rfl) (r_d0 hd rfl) (a_X12_pack  (r_d1 hd rfl)  w t0 (fun x1 h2 t2 u2 rx1 w => ?_) (fun y4 h3 ty uy w => ?_))
  · refine r_fI (pc1 := 6) rfl ?_
    have s2 := HX_trans (HX_refl h) u2
    have w := w t2 u2
    have w := w rx1
    refine r_i2l (pc1 := 7) rfl rfl ?_
    refine r_last (pc1 := 8) rfl rfl t2 (lyk t2 rfl) (rgk rfl) (by decide) (lt_len (lyn t2 rfl) (by decide)) (fun h5 eh5 t5 u5 => ?_)
    have w := w h5 eh5 t5 u5
    have s5 := HX_trans s2 u5
    refine r_goto (t := 14) rfl rfl ?_
    refine r_n (pc1 := 15) [.int (J 0)] _ rfl rfl ?_
    exact r_retI rfl rfl rfl (k _ _ t5 s5 (rgk rfl) w)
  · obtain ⟨rfl, w⟩ := w
    exact r_fink (z := 1) rfl (by decide) rfl rfl (k _ _ ty (HX_trans (HX_refl h) uy) (rgk rfl) w)
def w_X14_record  (K : XH → Prop) (h : XH) : Prop :=
  ((¬ 438 = 439 ∧ (0 : Int) ≤ 0 ∧ (0 : Int) ≤ wr ((hI h 437 3) * 1957) ∧ (0 : Int) ≤ 1957 ∧ ((0 + 1957 : Int)) ≤ 1957 ∧ (((wr ((hI h 437 3) * 1957)) + 1957 : Int)) ≤ 19570) ∧ ∀ h2 : XH, h2 = cA h 438 0 439 (wr ((hI h 437 3) * 1957)).toNat 1957 → HT h2 → HX h h2 → ∀ h3 : XH, h3 = sI h2 437 3 (irem (wr ((hI h2 437 3) + 1)) 10) → HT h3 → HX h2 h3 → w_J9_min_7cf53 10 (wr ((hI h3 437 2) + 1)) (fun x4 => rg x4 → (∀ h5 : XH, h5 = sI h3 437 2 x4 → HT h5 → HX h3 h5 → ∀ h6 : XH, h6 = sI h5 437 4 (wr ((hI h5 437 4) + 1)) → HT h6 → HX h5 h6 → K h6)) h3)
set_option maxHeartbeats 4000000 in
theorem a_X14_record {sc : Nat × (Nat → Int32)} {goal : XO → XH → Prop} {fs : List XF} {h : XH}  {K : XH → Prop} (hd : fs.length + 1 ≤ 1000) (w : w_X14_record  K h) (t0 : HT h) (k : ∀ (h1 : XH), HT h1 → HX h h1 → K h1 → XFin xP sc goal fs (.inl none) h1) : RR sc goal fs 289 0 [some (rv 437)] [] h := by
  unfold w_X14_record at w
  refine r_aldn (pc1 := 1) rfl rfl rfl ?_
  refine r_gfC (pc1 := 4) (q := 438) rfl rfl rfl t0 (lyk t0 rfl) rfl rfl (lyR t0 rfl rfl) ?_
  refine r_n (pc1 := 5) [.int (J 0), rv 438] _ rfl rfl ?_
  refine r_aldn (pc1 := 6) rfl rfl rfl ?_
  refine r_gfC (pc1 := 9) (q := 439) rfl rfl rfl t0 (lyk t0 rfl) rfl rfl (lyR t0 rfl rfl) ?_
  refine r_aldn (pc1 := 10) rfl rfl rfl ?_
  refine r_gfI (pc1 := 13) rfl rfl rfl t0 (lyk t0 rfl) rfl rfl ?_
  refine r_n (pc1 := 16) [.int (J 1957), .int (J (hI h 437 3)), rv 439, .int (J 0), rv 438] _ rfl rfl ?_
  refine r_imul (pc1 := 17) rfl rfl ?_
  refine r_n (pc1 := 20) [.int (J 1957), .int (J (wr ((hI h 437 3) * 1957))), rv 439, .int (J 0), rv 438] _ rfl rfl ?_
  obtain ⟨c1, w⟩ := w
  refine r_cp (pc1 := 23) (u := 0) rfl rfl rfl rfl t0 (lyk t0 rfl) (lyk t0 rfl) (by decide) (rgk rfl) (rgw _) (rgk rfl) (lyn t0 rfl) (lyn t0 rfl) c1 (fun h2 eh2 t2 u2 => ?_)
  have w := w h2 eh2 t2 u2
  have s2 := HX_trans (HX_refl h) u2
  refine r_aldn (pc1 := 24) rfl rfl rfl ?_
  refine r_aldn (pc1 := 25) rfl rfl rfl ?_
  refine r_gfI (pc1 := 28) rfl rfl rfl t2 (lyk t2 rfl) rfl rfl ?_
  refine r_n (pc1 := 29) [.int (J 1), .int (J (hI h2 437 3)), rv 437] _ rfl rfl ?_
  refine r_iadd (pc1 := 30) rfl rfl ?_
  refine r_n (pc1 := 32) [.int (J 10), .int (J (wr ((hI h2 437 3) + 1))), rv 437] _ rfl rfl ?_
  refine r_irem (pc1 := 33) rfl rfl (rgk rfl) (by decide) ?_
  refine r_pfI (pc1 := 36) rfl rfl rfl t2 (lyk t2 rfl) rfl rfl rfl (fun h3 eh3 t3 u3 => ?_)
  have w := w h3 eh3 t3 u3
  have s3 := HX_trans s2 u3
  refine r_aldn (pc1 := 37) rfl rfl rfl ?_
  refine r_n (pc1 := 39) [.int (J 10), rv 437] _ rfl rfl ?_
  refine r_aldn (pc1 := 40) rfl rfl rfl ?_
  refine r_gfI (pc1 := 43) rfl rfl rfl t3 (lyk t3 rfl) rfl rfl ?_
  refine r_n (pc1 := 44) [.int (J 1), .int (J (hI h3 437 2)), .int (J 10), rv 437] _ rfl rfl ?_
  refine r_iadd (pc1 := 45) rfl rfl ?_
  refine r_iq rfl rfl rfl rfl rfl rfl (xe_of (xa_i (xa_i xa_0)) rfl rfl) (r_d0 hd rfl) (a_J9_min_7cf53 10 (wr ((hI h3 437 2) + 1)) (r_d1 hd rfl) (rgk rfl) (rgw _) w t3 (fun x4 rx4 w => ?_))
  refine r_fI (pc1 := 48) rfl ?_
  have w := w rx4
  refine r_pfI (pc1 := 51) rfl rfl rfl t3 (lyk t3 rfl) rfl rfl rfl (fun h5 eh5 t5 u5 => ?_)
  have w := w h5 eh5 t5 u5
  have s5 := HX_trans s3 u5
  refine r_aldn (pc1 := 52) rfl rfl rfl ?_
  refine r_dupR (pc1 := 53) rfl rfl ?_
  refine r_gfI (pc1 := 56) rfl rfl rfl t5 (lyk t5 rfl) rfl rfl ?_
  refine r_n (pc1 := 57) [.int (J 1), .int (J (hI h5 437 4)), rv 437] _ rfl rfl ?_
  refine r_iadd (pc1 := 58) rfl rfl ?_
  refine r_pfI (pc1 := 61) rfl rfl rfl t5 (lyk t5 rfl) rfl rfl rfl (fun h6 eh6 t6 u6 => ?_)
  have w := w h6 eh6 t6 u6
  have s6 := HX_trans s5 u6
  exact r_retV rfl rfl rfl (k _ t6 s6 w)
def w_X14_pack  (K : Int → XH → Prop) (h : XH) : Prop :=
  (∀ h1 : XH, h1 = sI h 437 5 0 → HT h1 → HX h h1 → ∃ J3 : Int → Prop, (∀ (x2 : Int), rg x2 → J3 x2 → (w_X14_refused x2 1 (fun x4 h5 => HT h5 → HX h1 h5 → rg x4 → (x4 = 0 ∨ x4 = 1) → (((x4 = 0 → (w_X14_record (fun h6 => HT h6 → HX h5 h6 → (∀ h7 : XH, h7 = sI h6 438 0 (wr ((hI h6 438 0) + 1)) → HT h7 → HX h6 h7 → K (wr ((hI h7 438 0) - 1)) h7)) h5)) ∧ (¬ (x4 = 0) → (K 0 h5))))) h1)) ∧ ((12 ≤ hI h1 438 0 → (J3 0)) ∧ (¬ (12 ≤ hI h1 438 0) → (J3 1))))
set_option maxHeartbeats 4000000 in
theorem a_X14_pack {sc : Nat × (Nat → Int32)} {goal : XO → XH → Prop} {fs : List XF} {h : XH}  {K : Int → XH → Prop} (hd : fs.length + 2 ≤ 1000) (w : w_X14_pack  K h) (t0 : HT h) (k : ∀ (r : Int) (h1 : XH), HT h1 → HX h h1 → rg r → K r h1 → XFin xP sc goal fs (.inl (some (.int (J r)))) h1) : RR sc goal fs 268 0 [some (rv 437)] [] h := by
  unfold w_X14_pack at w
  refine r_aldn (pc1 := 1) rfl rfl rfl ?_
  refine r_n (pc1 := 2) [.int (J 0), rv 437] _ rfl rfl ?_
  refine r_pfI (pc1 := 5) rfl rfl rfl t0 (lyk t0 rfl) rfl rfl rfl (fun h1 eh1 t1 u1 => ?_)
  have w := w h1 eh1 t1 u1
  have s1 := HX_trans (HX_refl h) u1
  refine r_aldn (pc1 := 6) rfl rfl rfl ?_
  refine r_aldn (pc1 := 7) rfl rfl rfl ?_
  refine r_gfC (pc1 := 10) (q := 438) rfl rfl rfl t1 (lyk t1 rfl) rfl rfl (lyR t1 rfl rfl) ?_
  refine r_n (pc1 := 11) [.int (J 0), rv 438, rv 437] _ rfl rfl ?_
  refine r_ial (pc1 := 12) rfl rfl t1 (lyk t1 rfl) (rgk rfl) (by decide) (lt_len (lyn t1 rfl) (by decide)) ?_
  refine r_n (pc1 := 14) [.int (J 12), .int (J (hI h1 438 0)), rv 437] _ rfl rfl ?_
  obtain ⟨J3, j3, w⟩ := w
  have Q3 : ∀ (x2 : Int), rg x2 → J3 x2 → RR sc goal fs 268 22 [some (rv 437)] [.int (J x2), rv 437] h1 := by
    intro x2 rx2 z3
    have w := j3 x2 rx2 z3
    refine r_n (pc1 := 23) [.int (J 1), .int (J x2), rv 437] _ rfl rfl ?_
    refine r_iv rfl rfl rfl rfl rfl rfl t1 (lyk t1 rfl) rfl (xe_of (xa_r (xa_i (xa_i xa_0))) rfl rfl) (r_d0 hd rfl) (a_X14_refused x2 1 (r_d1 hd rfl) rx2 (rgk rfl) w t1 (fun x4 h5 t5 u5 rx4 vx4 w => ?_))
    refine r_fI (pc1 := 26) rfl ?_
    have s5 := HX_trans s1 u5
    have w := w t5 u5
    have w := w rx4 vx4
    refine r_iz (t := 31) (pc1 := 29) rfl rfl rfl rx4 (fun c8 => ?_) (fun c8 => ?_)
    · have w := w.1 c8
      refine r_aldn (pc1 := 32) rfl rfl rfl ?_
      refine r_iv rfl rfl rfl rfl rfl rfl t5 (lyk t5 rfl) rfl (xe_of (xa_r xa_0) rfl rfl) (r_d0 hd rfl) (a_X14_record  (r_d1 hd rfl)  w t5 (fun h6 t6 u6 w => ?_))
      refine r_fV (pc1 := 35) rfl ?_
      have s6 := HX_trans s5 u6
      have w := w t6 u6
      refine r_aldn (pc1 := 36) rfl rfl rfl ?_
      refine r_gfC (pc1 := 39) (q := 438) rfl rfl rfl t6 (lyk t6 rfl) rfl rfl (lyR t6 rfl rfl) ?_
      refine r_n (pc1 := 40) [.int (J 0), rv 438] _ rfl rfl ?_
      refine r_dup2 (pc1 := 41) rfl rfl ?_
      refine r_ial (pc1 := 42) rfl rfl t6 (lyk t6 rfl) (rgk rfl) (by decide) (lt_len (lyn t6 rfl) (by decide)) ?_
      refine r_n (pc1 := 43) [.int (J 1), .int (J (hI h6 438 0)), .int (J 0), rv 438] _ rfl rfl ?_
      refine r_iadd (pc1 := 44) rfl rfl ?_
      refine r_iast (pc1 := 45) rfl rfl t6 (lyk t6 rfl) (rgk rfl) (by decide) (lt_len (lyn t6 rfl) (by decide)) (fun h7 eh7 t7 u7 => ?_)
      have w := w h7 eh7 t7 u7
      have s7 := HX_trans s6 u7
      refine r_aldn (pc1 := 46) rfl rfl rfl ?_
      refine r_gfC (pc1 := 49) (q := 438) rfl rfl rfl t7 (lyk t7 rfl) rfl rfl (lyR t7 rfl rfl) ?_
      refine r_n (pc1 := 50) [.int (J 0), rv 438] _ rfl rfl ?_
      refine r_ial (pc1 := 51) rfl rfl t7 (lyk t7 rfl) (rgk rfl) (by decide) (lt_len (lyn t7 rfl) (by decide)) ?_
      refine r_n (pc1 := 52) [.int (J 1), .int (J (hI h7 438 0))] _ rfl rfl ?_
      refine r_isub (pc1 := 53) rfl rfl ?_
      exact r_retI rfl rfl rfl (k _ _ t7 s7 (rgw _) w)
    · have w := w.2 c8
      refine r_n (pc1 := 30) [.int (J 0)] _ rfl rfl ?_
      exact r_retI rfl rfl rfl (k _ _ t5 s5 (rgk rfl) w)
  refine r_ic (t := 21) (pc1 := 17) rfl rfl rfl (rgh _ _ _) (rgk rfl) (fun c9 => ?_) (fun c9 => ?_)
  · have w := w.1 c9
    refine r_n (pc1 := 22) [.int (J 0), rv 437] _ rfl rfl ?_
    exact Q3  0  (rgk rfl) w
  · have w := w.2 c9
    refine r_n (pc1 := 18) [.int (J 1), rv 437] _ rfl rfl ?_
    refine r_goto (t := 22) rfl rfl ?_
    exact Q3  1  (rgk rfl) w
def w_X12_isCode (p0 : Int) (K : Int → Prop) (h : XH) : Prop :=
  (∃ J2 : Int → Prop, (∀ (x1 : Int), rg x1 → J2 x1 → ((x1 = 0 ∨ x1 = 1) ∧ K x1)) ∧ ∃ J4 : Prop, (J4 → (J2 0)) ∧ ((p0 < 0 → J4) ∧ (¬ (p0 < 0) → (((1000000 ≤ p0 → J4) ∧ (¬ (1000000 ≤ p0) → (((irem p0 100 = 0 → J4) ∧ (¬ (irem p0 100 = 0) → (J2 1))))))))))
set_option maxHeartbeats 4000000 in
theorem a_X12_isCode {sc : Nat × (Nat → Int32)} {goal : XO → XH → Prop} {fs : List XF} {h : XH} (p0 : Int) {K : Int → Prop} (hd : fs.length + 0 ≤ 1000) (rp0 : rg p0) (w : w_X12_isCode p0 K h) (t0 : HT h) (k : ∀ (r : Int), rg r → (r = 0 ∨ r = 1) → K r → XFin xP sc goal fs (.inl (some (.int (J r)))) h) : RR sc goal fs 117 0 [some (.int (J p0))] [] h := by
  unfold w_X12_isCode at w
  refine r_n (pc1 := 1) [.int (J p0)] _ rfl rfl ?_
  obtain ⟨J2, j2, w⟩ := w
  have Q2 : ∀ (x1 : Int), rg x1 → J2 x1 → RR sc goal fs 117 23 [some (.int (J p0))] [.int (J x1)] h := by
    intro x1 rx1 z2
    have w := j2 x1 rx1 z2
    obtain ⟨c3, w⟩ := w
    exact r_retB rfl rfl rfl c3 (k _ rx1 c3 w)
  obtain ⟨J4, j4, w⟩ := w
  have Q4 : J4 → RR sc goal fs 117 22 [some (.int (J p0))] [] h := by
    intro z4
    have w := j4 z4
    refine r_n (pc1 := 23) [.int (J 0)] _ rfl rfl ?_
    exact Q2  0  (rgk rfl) w
  refine r_iz (t := 22) (pc1 := 4) rfl rfl rfl rp0 (fun c7 => ?_) (fun c7 => ?_)
  · have w := w.1 c7
    exact Q4     w
  · have w := w.2 c7
    refine r_n (pc1 := 5) [.int (J p0)] _ rfl rfl ?_
    refine r_n (pc1 := 8) [.int (J 1000000), .int (J p0)] _ rfl rfl ?_
    refine r_ic (t := 22) (pc1 := 11) rfl rfl rfl rp0 (rgk rfl) (fun c6 => ?_) (fun c6 => ?_)
    · have w := w.1 c6
      exact Q4     w
    · have w := w.2 c6
      refine r_n (pc1 := 12) [.int (J p0)] _ rfl rfl ?_
      refine r_n (pc1 := 14) [.int (J 100), .int (J p0)] _ rfl rfl ?_
      refine r_irem (pc1 := 15) rfl rfl (rgk rfl) (by decide) ?_
      refine r_iz (t := 22) (pc1 := 18) rfl rfl rfl (rgt _) (fun c5 => ?_) (fun c5 => ?_)
      · have w := w.1 c5
        exact Q4     w
      · have w := w.2 c5
        refine r_n (pc1 := 19) [.int (J 1)] _ rfl rfl ?_
        refine r_goto (t := 23) rfl rfl ?_
        exact Q2  1  (rgk rfl) w
def w_X8_hasRoomIn (p0 : Int) (K : Int → Prop) (h : XH) : Prop :=
  (∃ J2 : Int → Prop, (∀ (x1 : Int), rg x1 → J2 x1 → ((x1 = 0 ∨ x1 = 1) ∧ K x1)) ∧ ∃ J4 : Prop, (J4 → (J2 0)) ∧ ((40 ≤ hI h 9 1 → J4) ∧ (¬ (40 ≤ hI h 9 1) → ((0 ≤ p0 ∧ p0 < 12) ∧ ((8 ≤ hI h 10 p0.toNat → J4) ∧ (¬ (8 ≤ hI h 10 p0.toNat) → (J2 1)))))))
set_option maxHeartbeats 4000000 in
theorem a_X8_hasRoomIn {sc : Nat × (Nat → Int32)} {goal : XO → XH → Prop} {fs : List XF} {h : XH} (p0 : Int) {K : Int → Prop} (hd : fs.length + 0 ≤ 1000) (rp0 : rg p0) (w : w_X8_hasRoomIn p0 K h) (t0 : HT h) (k : ∀ (r : Int), rg r → (r = 0 ∨ r = 1) → K r → XFin xP sc goal fs (.inl (some (.int (J r)))) h) : RR sc goal fs 456 0 [some (rv 9), some (.int (J p0))] [] h := by
  unfold w_X8_hasRoomIn at w
  refine r_aldn (pc1 := 1) rfl rfl rfl ?_
  refine r_gfI (pc1 := 4) rfl rfl rfl t0 (lyk t0 rfl) rfl rfl ?_
  refine r_n (pc1 := 6) [.int (J 40), .int (J (hI h 9 1))] _ rfl rfl ?_
  obtain ⟨J2, j2, w⟩ := w
  have Q2 : ∀ (x1 : Int), rg x1 → J2 x1 → RR sc goal fs 456 25 [some (rv 9), some (.int (J p0))] [.int (J x1)] h := by
    intro x1 rx1 z2
    have w := j2 x1 rx1 z2
    obtain ⟨c3, w⟩ := w
    exact r_retB rfl rfl rfl c3 (k _ rx1 c3 w)
  obtain ⟨J4, j4, w⟩ := w
  have Q4 : J4 → RR sc goal fs 456 24 [some (rv 9), some (.int (J p0))] [] h := by
    intro z4
    have w := j4 z4
    refine r_n (pc1 := 25) [.int (J 0)] _ rfl rfl ?_
    exact Q2  0  (rgk rfl) w
  refine r_ic (t := 24) (pc1 := 9) rfl rfl rfl (rgh _ _ _) (rgk rfl) (fun c7 => ?_) (fun c7 => ?_)
  · have w := w.1 c7
    exact Q4     w
  · have w := w.2 c7
    refine r_aldn (pc1 := 10) rfl rfl rfl ?_
    refine r_gfC (pc1 := 13) (q := 10) rfl rfl rfl t0 (lyk t0 rfl) rfl rfl (lyR t0 rfl rfl) ?_
    refine r_n (pc1 := 14) [.int (J p0), rv 10] _ rfl rfl ?_
    obtain ⟨c5, w⟩ := w
    refine r_ial (pc1 := 15) rfl rfl t0 (lyk t0 rfl) rp0 c5.1 (lt_len (lyn t0 rfl) c5.2) ?_
    refine r_n (pc1 := 17) [.int (J 8), .int (J (hI h 10 p0.toNat))] _ rfl rfl ?_
    refine r_ic (t := 24) (pc1 := 20) rfl rfl rfl (rgh _ _ _) (rgk rfl) (fun c6 => ?_) (fun c6 => ?_)
    · have w := w.1 c6
      exact Q4     w
    · have w := w.2 c6
      refine r_n (pc1 := 21) [.int (J 1)] _ rfl rfl ?_
      refine r_goto (t := 25) rfl rfl ?_
      exact Q2  1  (rgk rfl) w
def w_X8_putByAge (p0 : Int) (p1 : Int) (K : XH → Prop) (h : XH) : Prop :=
  (∀ x1 : Int, x1 = wr (p0 * 8) → rg x1 → (0 ≤ p0 ∧ p0 < 12) ∧ ∀ x3 : Int, x3 = hI h 10 p0.toNat → rg x3 → (∃ (I6 : Int → XH → Prop) (m6 : Int → XH → Nat), I6 x3 h ∧ ∀ (x4 : Int) (h5 : XH), HT h5 → HX h h5 → rg x4 → I6 x4 h5 → (∃ J7 : Prop, (J7 → ((0 ≤ wr (x1 + x4) ∧ wr (x1 + x4) < 96) ∧ ∀ h9 : XH, h9 = sI h5 12 (wr (x1 + x4)).toNat p1 → HT h9 → HX h5 h9 → ∀ h10 : XH, h10 = sI h9 10 p0.toNat (wr ((hI h9 10 p0.toNat) + 1)) → HT h10 → HX h9 h10 → K h10)) ∧ ((x4 ≤ 0 → J7) ∧ (¬ (x4 ≤ 0) → (∀ x11 : Int, x11 = wr ((wr (x1 + x4)) - 1) → rg x11 → (0 ≤ x11 ∧ x11 < 96) ∧ ∀ x13 : Int, x13 = hI h5 12 x11.toNat → rg x13 → (0 ≤ x13 ∧ x13 < 40) ∧ (0 ≤ p1 ∧ p1 < 40) ∧ ((hI h5 14 x13.toNat ≤ hI h5 14 p1.toNat → J7) ∧ (¬ (hI h5 14 x13.toNat ≤ hI h5 14 p1.toNat) → (∀ x16 : Int, x16 = wr ((wr (x1 + x4)) - 1) → rg x16 → (0 ≤ x16 ∧ x16 < 96) ∧ (0 ≤ wr (x1 + x4) ∧ wr (x1 + x4) < 96) ∧ ∀ h19 : XH, h19 = sI h5 12 (wr (x1 + x4)).toNat (hI h5 12 x16.toNat) → HT h19 → HX h5 h19 → ∀ x20 : Int, x20 = wr (x4 + (-1)) → rg x20 → (I6 x20 h19 ∧ m6 x20 h19 < m6 x4 h5))))))))))
set_option maxHeartbeats 4000000 in
theorem a_X8_putByAge {sc : Nat × (Nat → Int32)} {goal : XO → XH → Prop} {fs : List XF} {h : XH} (p0 : Int) (p1 : Int) {K : XH → Prop} (hd : fs.length + 0 ≤ 1000) (rp0 : rg p0) (rp1 : rg p1) (w : w_X8_putByAge p0 p1 K h) (t0 : HT h) (k : ∀ (h1 : XH), HT h1 → HX h h1 → K h1 → XFin xP sc goal fs (.inl none) h1) : RR sc goal fs 463 0 [some (rv 9), some (.int (J p0)), some (.int (J p1)), none, none] [] h := by
  unfold w_X8_putByAge at w
  refine r_n (pc1 := 1) [.int (J p0)] _ rfl rfl ?_
  refine r_n (pc1 := 3) [.int (J 8), .int (J p0)] _ rfl rfl ?_
  refine r_imul (pc1 := 4) rfl rfl ?_
  refine r_vI (rgw _) (fun x1 ex1 rx1 => ?_)
  have w := w x1 ex1 rx1
  refine r_istn (pc1 := 5) (ls1 := [some (rv 9), some (.int (J p0)), some (.int (J p1)), some (.int (J x1)), none]) rfl rfl rfl rfl ?_
  refine r_aldn (pc1 := 6) rfl rfl rfl ?_
  refine r_gfC (pc1 := 9) (q := 10) rfl rfl rfl t0 (lyk t0 rfl) rfl rfl (lyR t0 rfl rfl) ?_
  refine r_n (pc1 := 10) [.int (J p0), rv 10] _ rfl rfl ?_
  obtain ⟨c2, w⟩ := w
  refine r_ial (pc1 := 11) rfl rfl t0 (lyk t0 rfl) rp0 c2.1 (lt_len (lyn t0 rfl) c2.2) ?_
  refine r_vI (rgh _ _ _) (fun x3 ex3 rx3 => ?_)
  have w := w x3 ex3 rx3
  refine r_ist (pc1 := 13) (ls1 := [some (rv 9), some (.int (J p0)), some (.int (J p1)), some (.int (J x1)), some (.int (J x3))]) rfl rfl rfl rfl ?_
  obtain ⟨I6, m6, w, y6⟩ := w
  have Q6 : ∀ (n : Nat)  (x4 : Int) (h5 : XH), HT h5 → HX h h5 → rg x4 → m6 x4 h5 < n → I6 x4 h5 → RR sc goal fs 463 13 [some (rv 9), some (.int (J p0)), some (.int (J p1)), some (.int (J x1)), some (.int (J x4))] [] h5 := by
    intro n
    induction n with
    | zero => intro x4 h5 t5 s5 rx4 q6 _; exact absurd q6 (Nat.not_lt_zero _)
    | succ n ih6 =>
      intro x4 h5 t5 s5 rx4 q6 z6
      have w := y6 x4 h5 t5 s5 rx4 z6
      refine r_n (pc1 := 15) [.int (J x4)] _ rfl rfl ?_
      obtain ⟨J7, j7, w⟩ := w
      have Q7 : J7 → RR sc goal fs 463 69 [some (rv 9), some (.int (J p0)), some (.int (J p1)), some (.int (J x1)), some (.int (J x4))] [] h5 := by
        intro z7
        have w := j7 z7
        refine r_aldn (pc1 := 70) rfl rfl rfl ?_
        refine r_gfC (pc1 := 73) (q := 12) rfl rfl rfl t5 (lyk t5 rfl) rfl rfl (lyR t5 rfl rfl) ?_
        refine r_n (pc1 := 74) [.int (J x1), rv 12] _ rfl rfl ?_
        refine r_n (pc1 := 76) [.int (J x4), .int (J x1), rv 12] _ rfl rfl ?_
        refine r_iadd (pc1 := 77) rfl rfl ?_
        refine r_n (pc1 := 78) [.int (J p1), .int (J (wr (x1 + x4))), rv 12] _ rfl rfl ?_
        obtain ⟨c8, w⟩ := w
        refine r_iast (pc1 := 79) rfl rfl t5 (lyk t5 rfl) (rgw _) c8.1 (lt_len (lyn t5 rfl) c8.2) (fun h9 eh9 t9 u9 => ?_)
        have w := w h9 eh9 t9 u9
        have s9 := HX_trans s5 u9
        refine r_aldn (pc1 := 80) rfl rfl rfl ?_
        refine r_gfC (pc1 := 83) (q := 10) rfl rfl rfl t9 (lyk t9 rfl) rfl rfl (lyR t9 rfl rfl) ?_
        refine r_n (pc1 := 84) [.int (J p0), rv 10] _ rfl rfl ?_
        refine r_dup2 (pc1 := 85) rfl rfl ?_
        refine r_ial (pc1 := 86) rfl rfl t9 (lyk t9 rfl) rp0 c2.1 (lt_len (lyn t9 rfl) c2.2) ?_
        refine r_n (pc1 := 87) [.int (J 1), .int (J (hI h9 10 p0.toNat)), .int (J p0), rv 10] _ rfl rfl ?_
        refine r_iadd (pc1 := 88) rfl rfl ?_
        refine r_iast (pc1 := 89) rfl rfl t9 (lyk t9 rfl) rp0 c2.1 (lt_len (lyn t9 rfl) c2.2) (fun h10 eh10 t10 u10 => ?_)
        have w := w h10 eh10 t10 u10
        have s10 := HX_trans s9 u10
        exact r_retV rfl rfl rfl (k _ t10 s10 w)
      refine r_iz (t := 69) (pc1 := 18) rfl rfl rfl rx4 (fun c22 => ?_) (fun c22 => ?_)
      · have w := w.1 c22
        exact Q7     w
      · have w := w.2 c22
        refine r_aldn (pc1 := 19) rfl rfl rfl ?_
        refine r_gfC (pc1 := 22) (q := 14) rfl rfl rfl t5 (lyk t5 rfl) rfl rfl (lyR t5 rfl rfl) ?_
        refine r_aldn (pc1 := 23) rfl rfl rfl ?_
        refine r_gfC (pc1 := 26) (q := 12) rfl rfl rfl t5 (lyk t5 rfl) rfl rfl (lyR t5 rfl rfl) ?_
        refine r_n (pc1 := 27) [.int (J x1), rv 12, rv 14] _ rfl rfl ?_
        refine r_n (pc1 := 29) [.int (J x4), .int (J x1), rv 12, rv 14] _ rfl rfl ?_
        refine r_iadd (pc1 := 30) rfl rfl ?_
        refine r_n (pc1 := 31) [.int (J 1), .int (J (wr (x1 + x4))), rv 12, rv 14] _ rfl rfl ?_
        refine r_isub (pc1 := 32) rfl rfl ?_
        refine r_vI (rgw _) (fun x11 ex11 rx11 => ?_)
        have w := w x11 ex11 rx11
        obtain ⟨c12, w⟩ := w
        refine r_ial (pc1 := 33) rfl rfl t5 (lyk t5 rfl) rx11 c12.1 (lt_len (lyn t5 rfl) c12.2) ?_
        refine r_vI (rgh _ _ _) (fun x13 ex13 rx13 => ?_)
        have w := w x13 ex13 rx13
        obtain ⟨c14, w⟩ := w
        refine r_ial (pc1 := 34) rfl rfl t5 (lyk t5 rfl) rx13 c14.1 (lt_len (lyn t5 rfl) c14.2) ?_
        refine r_aldn (pc1 := 35) rfl rfl rfl ?_
        refine r_gfC (pc1 := 38) (q := 14) rfl rfl rfl t5 (lyk t5 rfl) rfl rfl (lyR t5 rfl rfl) ?_
        refine r_n (pc1 := 39) [.int (J p1), rv 14, .int (J (hI h5 14 x13.toNat))] _ rfl rfl ?_
        obtain ⟨c15, w⟩ := w
        refine r_ial (pc1 := 40) rfl rfl t5 (lyk t5 rfl) rp1 c15.1 (lt_len (lyn t5 rfl) c15.2) ?_
        refine r_ic (t := 69) (pc1 := 43) rfl rfl rfl (rgh _ _ _) (rgh _ _ _) (fun c21 => ?_) (fun c21 => ?_)
        · have w := w.1 c21
          exact Q7     w
        · have w := w.2 c21
          refine r_aldn (pc1 := 44) rfl rfl rfl ?_
          refine r_gfC (pc1 := 47) (q := 12) rfl rfl rfl t5 (lyk t5 rfl) rfl rfl (lyR t5 rfl rfl) ?_
          refine r_n (pc1 := 48) [.int (J x1), rv 12] _ rfl rfl ?_
          refine r_n (pc1 := 50) [.int (J x4), .int (J x1), rv 12] _ rfl rfl ?_
          refine r_iadd (pc1 := 51) rfl rfl ?_
          refine r_aldn (pc1 := 52) rfl rfl rfl ?_
          refine r_gfC (pc1 := 55) (q := 12) rfl rfl rfl t5 (lyk t5 rfl) rfl rfl (lyR t5 rfl rfl) ?_
          refine r_n (pc1 := 56) [.int (J x1), rv 12, .int (J (wr (x1 + x4))), rv 12] _ rfl rfl ?_
          refine r_n (pc1 := 58) [.int (J x4), .int (J x1), rv 12, .int (J (wr (x1 + x4))), rv 12] _ rfl rfl ?_
          refine r_iadd (pc1 := 59) rfl rfl ?_
          refine r_n (pc1 := 60) [.int (J 1), .int (J (wr (x1 + x4))), rv 12, .int (J (wr (x1 + x4))), rv 12] _ rfl rfl ?_
          refine r_isub (pc1 := 61) rfl rfl ?_
          refine r_vI (rgw _) (fun x16 ex16 rx16 => ?_)
          have w := w x16 ex16 rx16
          obtain ⟨c17, w⟩ := w
          refine r_ial (pc1 := 62) rfl rfl t5 (lyk t5 rfl) rx16 c17.1 (lt_len (lyn t5 rfl) c17.2) ?_
          obtain ⟨c18, w⟩ := w
          refine r_iast (pc1 := 63) rfl rfl t5 (lyk t5 rfl) (rgw _) c18.1 (lt_len (lyn t5 rfl) c18.2) (fun h19 eh19 t19 u19 => ?_)
          have w := w h19 eh19 t19 u19
          have s19 := HX_trans s5 u19
          refine r_inc (pc1 := 66) (g := fun zz => [some (rv 9), some (.int (J p0)), some (.int (J p1)), some (.int (J x1)), some (.int (J zz))]) rfl rfl rfl rfl (fun _ => rfl) (fun x20 ex20 rx20 => ?_)
          have w := w x20 ex20 rx20
          refine r_goto (t := 13) rfl rfl ?_
          exact ih6  x20 h19 t19 s19 rx20 (Nat.lt_of_lt_of_le w.2 (Nat.le_of_lt_succ q6)) w.1
  exact Q6 _  x3 h t0 (HX_refl h) rx3 (Nat.lt_succ_self _) w
def w_X8_addVersion (p0 : Int) (p1 : Int) (p2 : Int) (p3 : Int) (p4 : Int) (K : Int → XH → Prop) (h : XH) : Prop :=
  (∀ x1 : Int, x1 = hI h 9 1 → rg x1 → ∀ h2 : XH, h2 = sI h 9 1 (wr ((hI h 9 1) + 1)) → HT h2 → HX h h2 → (0 ≤ x1 ∧ x1 < 40) ∧ ∀ h4 : XH, h4 = sI h2 13 x1.toNat p0 → HT h4 → HX h2 h4 → ∀ h5 : XH, h5 = sI h4 14 x1.toNat p1 → HT h5 → HX h4 h5 → ∀ h6 : XH, h6 = sI h5 15 x1.toNat p2 → HT h6 → HX h5 h6 → ∀ h7 : XH, h7 = sI h6 16 x1.toNat p3 → HT h7 → HX h6 h7 → ∀ h8 : XH, h8 = sI h7 17 x1.toNat p4 → HT h8 → HX h7 h8 → ∀ h9 : XH, h9 = sL h8 9 10 ((hL h8 9 10) &&& ((lshl (1#64) x1) ^^^ (18446744073709551615#64))) → HT h9 → HX h8 h9 → ∀ h10 : XH, h10 = sI h9 18 x1.toNat 0 → HT h10 → HX h9 h10 → ∀ h11 : XH, h11 = sI h10 21 x1.toNat 0 → HT h11 → HX h10 h11 → ∀ h12 : XH, h12 = sI h11 23 x1.toNat 0 → HT h12 → HX h11 h12 → ∀ h13 : XH, h13 = sR h12 26 x1.toNat 0 → HT h13 → HX h12 h13 → (0 ≤ p0 ∧ p0 < 12) ∧ ∀ h15 : XH, h15 = sL h13 11 p0.toNat ((hL h13 11 p0.toNat) ||| (lshl (1#64) x1)) → HT h15 → HX h13 h15 → w_X8_putByAge p0 x1 (fun h16 => HT h16 → HX h15 h16 → (K (hI h16 10 p0.toNat) h16)) h15)
set_option maxHeartbeats 4000000 in
theorem a_X8_addVersion {sc : Nat × (Nat → Int32)} {goal : XO → XH → Prop} {fs : List XF} {h : XH} (p0 : Int) (p1 : Int) (p2 : Int) (p3 : Int) (p4 : Int) {K : Int → XH → Prop} (hd : fs.length + 1 ≤ 1000) (rp0 : rg p0) (rp1 : rg p1) (rp2 : rg p2) (rp3 : rg p3) (rp4 : rg p4) (w : w_X8_addVersion p0 p1 p2 p3 p4 K h) (t0 : HT h) (k : ∀ (r : Int) (h1 : XH), HT h1 → HX h h1 → rg r → K r h1 → XFin xP sc goal fs (.inl (some (.int (J r)))) h1) : RR sc goal fs 453 0 [some (rv 9), some (.int (J p0)), some (.int (J p1)), some (.int (J p2)), some (.int (J p3)), some (.int (J p4)), none] [] h := by
  unfold w_X8_addVersion at w
  refine r_aldn (pc1 := 1) rfl rfl rfl ?_
  refine r_gfI (pc1 := 4) rfl rfl rfl t0 (lyk t0 rfl) rfl rfl ?_
  refine r_vI (rgh _ _ _) (fun x1 ex1 rx1 => ?_)
  have w := w x1 ex1 rx1
  refine r_ist (pc1 := 6) (ls1 := [some (rv 9), some (.int (J p0)), some (.int (J p1)), some (.int (J p2)), some (.int (J p3)), some (.int (J p4)), some (.int (J x1))]) rfl rfl rfl rfl ?_
  refine r_aldn (pc1 := 7) rfl rfl rfl ?_
  refine r_dupR (pc1 := 8) rfl rfl ?_
  refine r_gfI (pc1 := 11) rfl rfl rfl t0 (lyk t0 rfl) rfl rfl ?_
  refine r_n (pc1 := 12) [.int (J 1), .int (J (hI h 9 1)), rv 9] _ rfl rfl ?_
  refine r_iadd (pc1 := 13) rfl rfl ?_
  refine r_pfI (pc1 := 16) rfl rfl rfl t0 (lyk t0 rfl) rfl rfl rfl (fun h2 eh2 t2 u2 => ?_)
  have w := w h2 eh2 t2 u2
  have s2 := HX_trans (HX_refl h) u2
  refine r_aldn (pc1 := 17) rfl rfl rfl ?_
  refine r_gfC (pc1 := 20) (q := 13) rfl rfl rfl t2 (lyk t2 rfl) rfl rfl (lyR t2 rfl rfl) ?_
  refine r_n (pc1 := 22) [.int (J x1), rv 13] _ rfl rfl ?_
  refine r_n (pc1 := 23) [.int (J p0), .int (J x1), rv 13] _ rfl rfl ?_
  obtain ⟨c3, w⟩ := w
  refine r_iast (pc1 := 24) rfl rfl t2 (lyk t2 rfl) rx1 c3.1 (lt_len (lyn t2 rfl) c3.2) (fun h4 eh4 t4 u4 => ?_)
  have w := w h4 eh4 t4 u4
  have s4 := HX_trans s2 u4
  refine r_aldn (pc1 := 25) rfl rfl rfl ?_
  refine r_gfC (pc1 := 28) (q := 14) rfl rfl rfl t4 (lyk t4 rfl) rfl rfl (lyR t4 rfl rfl) ?_
  refine r_n (pc1 := 30) [.int (J x1), rv 14] _ rfl rfl ?_
  refine r_n (pc1 := 31) [.int (J p1), .int (J x1), rv 14] _ rfl rfl ?_
  refine r_iast (pc1 := 32) rfl rfl t4 (lyk t4 rfl) rx1 c3.1 (lt_len (lyn t4 rfl) c3.2) (fun h5 eh5 t5 u5 => ?_)
  have w := w h5 eh5 t5 u5
  have s5 := HX_trans s4 u5
  refine r_aldn (pc1 := 33) rfl rfl rfl ?_
  refine r_gfC (pc1 := 36) (q := 15) rfl rfl rfl t5 (lyk t5 rfl) rfl rfl (lyR t5 rfl rfl) ?_
  refine r_n (pc1 := 38) [.int (J x1), rv 15] _ rfl rfl ?_
  refine r_n (pc1 := 39) [.int (J p2), .int (J x1), rv 15] _ rfl rfl ?_
  refine r_iast (pc1 := 40) rfl rfl t5 (lyk t5 rfl) rx1 c3.1 (lt_len (lyn t5 rfl) c3.2) (fun h6 eh6 t6 u6 => ?_)
  have w := w h6 eh6 t6 u6
  have s6 := HX_trans s5 u6
  refine r_aldn (pc1 := 41) rfl rfl rfl ?_
  refine r_gfC (pc1 := 44) (q := 16) rfl rfl rfl t6 (lyk t6 rfl) rfl rfl (lyR t6 rfl rfl) ?_
  refine r_n (pc1 := 46) [.int (J x1), rv 16] _ rfl rfl ?_
  refine r_n (pc1 := 48) [.int (J p3), .int (J x1), rv 16] _ rfl rfl ?_
  refine r_iast (pc1 := 49) rfl rfl t6 (lyk t6 rfl) rx1 c3.1 (lt_len (lyn t6 rfl) c3.2) (fun h7 eh7 t7 u7 => ?_)
  have w := w h7 eh7 t7 u7
  have s7 := HX_trans s6 u7
  refine r_aldn (pc1 := 50) rfl rfl rfl ?_
  refine r_gfC (pc1 := 53) (q := 17) rfl rfl rfl t7 (lyk t7 rfl) rfl rfl (lyR t7 rfl rfl) ?_
  refine r_n (pc1 := 55) [.int (J x1), rv 17] _ rfl rfl ?_
  refine r_n (pc1 := 57) [.int (J p4), .int (J x1), rv 17] _ rfl rfl ?_
  refine r_iast (pc1 := 58) rfl rfl t7 (lyk t7 rfl) rx1 c3.1 (lt_len (lyn t7 rfl) c3.2) (fun h8 eh8 t8 u8 => ?_)
  have w := w h8 eh8 t8 u8
  have s8 := HX_trans s7 u8
  refine r_aldn (pc1 := 59) rfl rfl rfl ?_
  refine r_dupR (pc1 := 60) rfl rfl ?_
  refine r_gfL (pc1 := 63) rfl rfl rfl t8 (lyk t8 rfl) rfl rfl ?_
  refine r_n (pc1 := 64) [.long (G (1#64)), .long (G (hL h8 9 10)), rv 9] _ rfl rfl ?_
  refine r_n (pc1 := 66) [.int (J x1), .long (G (1#64)), .long (G (hL h8 9 10)), rv 9] _ rfl rfl ?_
  refine r_lshl (pc1 := 67) rfl rfl ?_
  refine r_n (pc1 := 70) [.long (G (18446744073709551615#64)), .long (G (lshl (1#64) x1)), .long (G (hL h8 9 10)), rv 9] _ rfl rfl ?_
  refine r_lxor (pc1 := 71) rfl rfl ?_
  refine r_land (pc1 := 72) rfl rfl ?_
  refine r_pfL (pc1 := 75) rfl rfl rfl t8 (lyk t8 rfl) rfl rfl rfl (fun h9 eh9 t9 u9 => ?_)
  have w := w h9 eh9 t9 u9
  have s9 := HX_trans s8 u9
  refine r_aldn (pc1 := 76) rfl rfl rfl ?_
  refine r_gfC (pc1 := 79) (q := 18) rfl rfl rfl t9 (lyk t9 rfl) rfl rfl (lyR t9 rfl rfl) ?_
  refine r_n (pc1 := 81) [.int (J x1), rv 18] _ rfl rfl ?_
  refine r_n (pc1 := 82) [.int (J 0), .int (J x1), rv 18] _ rfl rfl ?_
  refine r_iast (pc1 := 83) rfl rfl t9 (lyk t9 rfl) rx1 c3.1 (lt_len (lyn t9 rfl) c3.2) (fun h10 eh10 t10 u10 => ?_)
  have w := w h10 eh10 t10 u10
  have s10 := HX_trans s9 u10
  refine r_aldn (pc1 := 84) rfl rfl rfl ?_
  refine r_gfC (pc1 := 87) (q := 21) rfl rfl rfl t10 (lyk t10 rfl) rfl rfl (lyR t10 rfl rfl) ?_
  refine r_n (pc1 := 89) [.int (J x1), rv 21] _ rfl rfl ?_
  refine r_n (pc1 := 90) [.int (J 0), .int (J x1), rv 21] _ rfl rfl ?_
  refine r_iast (pc1 := 91) rfl rfl t10 (lyk t10 rfl) rx1 c3.1 (lt_len (lyn t10 rfl) c3.2) (fun h11 eh11 t11 u11 => ?_)
  have w := w h11 eh11 t11 u11
  have s11 := HX_trans s10 u11
  refine r_aldn (pc1 := 92) rfl rfl rfl ?_
  refine r_gfC (pc1 := 95) (q := 23) rfl rfl rfl t11 (lyk t11 rfl) rfl rfl (lyR t11 rfl rfl) ?_
  refine r_n (pc1 := 97) [.int (J x1), rv 23] _ rfl rfl ?_
  refine r_n (pc1 := 98) [.int (J 0), .int (J x1), rv 23] _ rfl rfl ?_
  refine r_iast (pc1 := 99) rfl rfl t11 (lyk t11 rfl) rx1 c3.1 (lt_len (lyn t11 rfl) c3.2) (fun h12 eh12 t12 u12 => ?_)
  have w := w h12 eh12 t12 u12
  have s12 := HX_trans s11 u12
  refine r_aldn (pc1 := 100) rfl rfl rfl ?_
  refine r_gfC (pc1 := 103) (q := 26) rfl rfl rfl t12 (lyk t12 rfl) rfl rfl (lyR t12 rfl rfl) ?_
  refine r_n (pc1 := 105) [.int (J x1), rv 26] _ rfl rfl ?_
  refine r_n (pc1 := 106) [rv 0, .int (J x1), rv 26] _ rfl rfl ?_
  refine r_aast (pc1 := 107) (u := 3) rfl rfl t12 (lyk t12 rfl) (.inl rfl) (.inl rfl) rx1 c3.1 (lt_len (lyn t12 rfl) c3.2) (fun h13 eh13 t13 u13 => ?_)
  have w := w h13 eh13 t13 u13
  have s13 := HX_trans s12 u13
  refine r_aldn (pc1 := 108) rfl rfl rfl ?_
  refine r_gfC (pc1 := 111) (q := 11) rfl rfl rfl t13 (lyk t13 rfl) rfl rfl (lyR t13 rfl rfl) ?_
  refine r_n (pc1 := 112) [.int (J p0), rv 11] _ rfl rfl ?_
  refine r_dup2 (pc1 := 113) rfl rfl ?_
  obtain ⟨c14, w⟩ := w
  refine r_lal (pc1 := 114) rfl rfl t13 (lyk t13 rfl) rp0 c14.1 (lt_len (lyn t13 rfl) c14.2) ?_
  refine r_n (pc1 := 115) [.long (G (1#64)), .long (G (hL h13 11 p0.toNat)), .int (J p0), rv 11] _ rfl rfl ?_
  refine r_n (pc1 := 117) [.int (J x1), .long (G (1#64)), .long (G (hL h13 11 p0.toNat)), .int (J p0), rv 11] _ rfl rfl ?_
  refine r_lshl (pc1 := 118) rfl rfl ?_
  refine r_lor (pc1 := 119) rfl rfl ?_
  refine r_last (pc1 := 120) rfl rfl t13 (lyk t13 rfl) rp0 c14.1 (lt_len (lyn t13 rfl) c14.2) (fun h15 eh15 t15 u15 => ?_)
  have w := w h15 eh15 t15 u15
  have s15 := HX_trans s13 u15
  refine r_aldn (pc1 := 121) rfl rfl rfl ?_
  refine r_n (pc1 := 122) [.int (J p0), rv 9] _ rfl rfl ?_
  refine r_n (pc1 := 124) [.int (J x1), .int (J p0), rv 9] _ rfl rfl ?_
  refine r_iv rfl rfl rfl rfl rfl rfl t15 (lyk t15 rfl) rfl (xe_of (xa_r (xa_i (xa_i xa_0))) rfl rfl) (r_d0 hd rfl) (a_X8_putByAge p0 x1 (r_d1 hd rfl) rp0 rx1 w t15 (fun h16 t16 u16 w => ?_))
  refine r_fV (pc1 := 127) rfl ?_
  have s16 := HX_trans s15 u16
  have w := w t16 u16
  refine r_aldn (pc1 := 128) rfl rfl rfl ?_
  refine r_gfC (pc1 := 131) (q := 10) rfl rfl rfl t16 (lyk t16 rfl) rfl rfl (lyR t16 rfl rfl) ?_
  refine r_n (pc1 := 132) [.int (J p0), rv 10] _ rfl rfl ?_
  refine r_ial (pc1 := 133) rfl rfl t16 (lyk t16 rfl) rp0 c14.1 (lt_len (lyn t16 rfl) c14.2) ?_
  exact r_retI rfl rfl rfl (k _ _ t16 s16 (rgh _ _ _) w)
def w_X12_version (p0 : Int) (p1 : Int) (p2 : Int) (p3 : Int) (p4 : Int) (K : Int → XH → Prop) (E : Nat → XH → Prop) (h : XH) : Prop :=
  (w_X12_checkPack p0 ((w_X12_isCode p1 (fun x1 => rg x1 → (x1 = 0 ∨ x1 = 1) → (∃ J2 : Prop, (J2 → (E 1 (nT h))) ∧ ((x1 = 0 → J2) ∧ (¬ (x1 = 0) → (((p2 < 0 → J2) ∧ (¬ (p2 < 0) → (((p3 < 0 → J2) ∧ (¬ (p3 < 0) → (((p3 ≤ 1000 → (w_X8_idOf p0 p1 (fun x3 => rg x3 → (∃ J4 : Prop, (J4 → (E 0 (nT h))) ∧ ((¬ x3 = (-1) → J4) ∧ (¬ (¬ x3 = (-1)) → (w_X8_hasRoomIn p0 (fun x5 => rg x5 → (x5 = 0 ∨ x5 = 1) → (((¬ x5 = 0 → (w_X12_remember (fun h6 => HT h6 → HX h h6 → (w_X8_addVersion p0 p1 p2 p3 p4 (fun x7 h8 => HT h8 → HX h6 h8 → rg x7 → (K x7 h8)) h6)) h)) ∧ (¬ (¬ x5 = 0) → J4)))) h))))) h)) ∧ (¬ (p3 ≤ 1000) → J2))))))))))))) h)) E h)
set_option maxHeartbeats 4000000 in
theorem a_X12_version {sc : Nat × (Nat → Int32)} {goal : XO → XH → Prop} {fs : List XF} {h : XH} (p0 : Int) (p1 : Int) (p2 : Int) (p3 : Int) (p4 : Int) {K : Int → XH → Prop} {E : Nat → XH → Prop} (hd : fs.length + 4 ≤ 1000) (rp0 : rg p0) (rp1 : rg p1) (rp2 : rg p2) (rp3 : rg p3) (rp4 : rg p4) (w : w_X12_version p0 p1 p2 p3 p4 K E h) (t0 : HT h) (k : ∀ (r : Int) (h1 : XH), HT h1 → HX h h1 → rg r → K r h1 → XFin xP sc goal fs (.inl (some (.int (J r)))) h1) (kE : ∀ (x : Nat) (h1 : XH), HT h1 → HX h h1 → E x h1 → XFin xP sc goal fs (.inr x) h1) : RR sc goal fs 160 0 [some (rv 2), some (.int (J p0)), some (.int (J p1)), some (.int (J p2)), some (.int (J p3)), some (.int (J p4))] [] h := by
  unfold w_X12_version at w
  refine r_aldn (pc1 := 1) rfl rfl rfl ?_
  refine r_n (pc1 := 2) [.int (J p0), rv 2] _ rfl rfl ?_
  refine r_iv rfl rfl rfl rfl rfl rfl t0 (lyk t0 rfl) rfl (xe_of (xa_r (xa_i xa_0)) rfl rfl) (r_d0 hd rfl) (a_X12_checkPack p0 (r_d1 hd rfl) rp0 w t0 (fun w => ?_) (fun x y ty uy w => r_finx rfl rfl (kE x y ty (HX_trans (HX_refl h) uy) w)))
  refine r_fV (pc1 := 5) rfl ?_
  refine r_n (pc1 := 6) [.int (J p1)] _ rfl rfl ?_
  refine r_iq rfl rfl rfl rfl rfl rfl (xe_of (xa_i xa_0) rfl rfl) (r_d0 hd rfl) (a_X12_isCode p1 (r_d1 hd rfl) rp1 w t0 (fun x1 rx1 vx1 w => ?_))
  refine r_fI (pc1 := 9) rfl ?_
  have w := w rx1 vx1
  obtain ⟨J2, j2, w⟩ := w
  have Q2 : J2 → RR sc goal fs 160 29 [some (rv 2), some (.int (J p0)), some (.int (J p1)), some (.int (J p2)), some (.int (J p3)), some (.int (J p4))] [] h := by
    intro z2
    have w := j2 z2
    exact r_thr rfl rfl rfl rfl rfl rfl (kE _ _ (HT_nT t0).1 (HX_trans (HX_refl h) (HT_nT t0).2) w)
  refine r_iz (t := 29) (pc1 := 12) rfl rfl rfl rx1 (fun c14 => ?_) (fun c14 => ?_)
  · have w := w.1 c14
    exact Q2     w
  · have w := w.2 c14
    refine r_n (pc1 := 13) [.int (J p2)] _ rfl rfl ?_
    refine r_iz (t := 29) (pc1 := 16) rfl rfl rfl rp2 (fun c13 => ?_) (fun c13 => ?_)
    · have w := w.1 c13
      exact Q2     w
    · have w := w.2 c13
      refine r_n (pc1 := 18) [.int (J p3)] _ rfl rfl ?_
      refine r_iz (t := 29) (pc1 := 21) rfl rfl rfl rp3 (fun c12 => ?_) (fun c12 => ?_)
      · have w := w.1 c12
        exact Q2     w
      · have w := w.2 c12
        refine r_n (pc1 := 23) [.int (J p3)] _ rfl rfl ?_
        refine r_n (pc1 := 26) [.int (J 1000), .int (J p3)] _ rfl rfl ?_
        refine r_ic (t := 39) (pc1 := 29) rfl rfl rfl rp3 (rgk rfl) (fun c11 => ?_) (fun c11 => ?_)
        · have w := w.1 c11
          refine r_aldn (pc1 := 40) rfl rfl rfl ?_
          refine r_gfC (pc1 := 43) (q := 8) rfl rfl rfl t0 (lyk t0 rfl) rfl rfl (lyR t0 rfl rfl) ?_
          refine r_gfC (pc1 := 46) (q := 9) rfl rfl rfl t0 (lyk t0 rfl) rfl rfl (lyR t0 rfl rfl) ?_
          refine r_n (pc1 := 47) [.int (J p0), rv 9] _ rfl rfl ?_
          refine r_n (pc1 := 48) [.int (J p1), .int (J p0), rv 9] _ rfl rfl ?_
          refine r_iv rfl rfl rfl rfl rfl rfl t0 (lyk t0 rfl) rfl (xe_of (xa_r (xa_i (xa_i xa_0))) rfl rfl) (r_d0 hd rfl) (a_X8_idOf p0 p1 (r_d1 hd rfl) rp0 rp1 w t0 (fun x3 rx3 w => ?_))
          refine r_fI (pc1 := 51) rfl ?_
          have w := w rx3
          refine r_n (pc1 := 52) [.int (J (-1)), .int (J x3)] _ rfl rfl ?_
          obtain ⟨J4, j4, w⟩ := w
          have Q4 : J4 → RR sc goal fs 160 69 [some (rv 2), some (.int (J p0)), some (.int (J p1)), some (.int (J p2)), some (.int (J p3)), some (.int (J p4))] [] h := by
            intro z4
            have w := j4 z4
            exact r_thr rfl rfl rfl rfl rfl rfl (kE _ _ (HT_nT t0).1 (HX_trans (HX_refl h) (HT_nT t0).2) w)
          refine r_ic (t := 69) (pc1 := 55) rfl rfl rfl rx3 (rgk rfl) (fun c10 => ?_) (fun c10 => ?_)
          · have w := w.1 c10
            exact Q4     w
          · have w := w.2 c10
            refine r_aldn (pc1 := 56) rfl rfl rfl ?_
            refine r_gfC (pc1 := 59) (q := 8) rfl rfl rfl t0 (lyk t0 rfl) rfl rfl (lyR t0 rfl rfl) ?_
            refine r_gfC (pc1 := 62) (q := 9) rfl rfl rfl t0 (lyk t0 rfl) rfl rfl (lyR t0 rfl rfl) ?_
            refine r_n (pc1 := 63) [.int (J p0), rv 9] _ rfl rfl ?_
            refine r_iv rfl rfl rfl rfl rfl rfl t0 (lyk t0 rfl) rfl (xe_of (xa_r (xa_i xa_0)) rfl rfl) (r_d0 hd rfl) (a_X8_hasRoomIn p0 (r_d1 hd rfl) rp0 w t0 (fun x5 rx5 vx5 w => ?_))
            refine r_fI (pc1 := 66) rfl ?_
            have w := w rx5 vx5
            refine r_iz (t := 79) (pc1 := 69) rfl rfl rfl rx5 (fun c9 => ?_) (fun c9 => ?_)
            · have w := w.1 c9
              refine r_aldn (pc1 := 80) rfl rfl rfl ?_
              refine r_iv rfl rfl rfl rfl rfl rfl t0 (lyk t0 rfl) rfl (xe_of (xa_r xa_0) rfl rfl) (r_d0 hd rfl) (a_X12_remember  (r_d1 hd rfl)  w t0 (fun h6 t6 u6 w => ?_))
              refine r_fV (pc1 := 83) rfl ?_
              have s6 := HX_trans (HX_refl h) u6
              have w := w t6 u6
              refine r_aldn (pc1 := 84) rfl rfl rfl ?_
              refine r_gfC (pc1 := 87) (q := 8) rfl rfl rfl t6 (lyk t6 rfl) rfl rfl (lyR t6 rfl rfl) ?_
              refine r_gfC (pc1 := 90) (q := 9) rfl rfl rfl t6 (lyk t6 rfl) rfl rfl (lyR t6 rfl rfl) ?_
              refine r_n (pc1 := 91) [.int (J p0), rv 9] _ rfl rfl ?_
              refine r_n (pc1 := 92) [.int (J p1), .int (J p0), rv 9] _ rfl rfl ?_
              refine r_n (pc1 := 93) [.int (J p2), .int (J p1), .int (J p0), rv 9] _ rfl rfl ?_
              refine r_n (pc1 := 95) [.int (J p3), .int (J p2), .int (J p1), .int (J p0), rv 9] _ rfl rfl ?_
              refine r_n (pc1 := 97) [.int (J p4), .int (J p3), .int (J p2), .int (J p1), .int (J p0), rv 9] _ rfl rfl ?_
              refine r_iv rfl rfl rfl rfl rfl rfl t6 (lyk t6 rfl) rfl (xe_of (xa_r (xa_i (xa_i (xa_i (xa_i (xa_i xa_0)))))) rfl rfl) (r_d0 hd rfl) (a_X8_addVersion p0 p1 p2 p3 p4 (r_d1 hd rfl) rp0 rp1 rp2 rp3 rp4 w t6 (fun x7 h8 t8 u8 rx7 w => ?_))
              refine r_fI (pc1 := 100) rfl ?_
              have s8 := HX_trans s6 u8
              have w := w t8 u8
              have w := w rx7
              exact r_retI rfl rfl rfl (k _ _ t8 s8 rx7 w)
            · have w := w.2 c9
              exact Q4     w
        · have w := w.2 c11
          exact Q2     w
def w_L_version (p1 : Int) (p2 : Int) (p3 : Int) (p4 : Int) (p5 : Int) (K : Int → XH → Prop) (h : XH) : Prop :=
  (w_X12_version p1 p2 p3 p4 p5 (fun x1 h2 => HT h2 → HX h h2 → rg x1 → (∀ h5 : XH, h5 = sL h2 467 0 (i2l x1) → HT h5 → HX h2 h5 → (K 0 h5))) (fun y4 h3 => ((y4 = 2 ∧ K 1 h3) ∨ (y4 = 1 ∧ K 2 h3) ∨ (y4 = 0 ∧ K 3 h3))) h)
set_option maxHeartbeats 4000000 in
theorem a_L_version {sc : Nat × (Nat → Int32)} {goal : XO → XH → Prop} {fs : List XF} {h : XH} (p1 : Int) (p2 : Int) (p3 : Int) (p4 : Int) (p5 : Int) {K : Int → XH → Prop} (hd : fs.length + 5 ≤ 1000) (rp1 : rg p1) (rp2 : rg p2) (rp3 : rg p3) (rp4 : rg p4) (rp5 : rg p5) (w : w_L_version p1 p2 p3 p4 p5 K h) (t0 : HT h) (k : ∀ (r : Int) (h1 : XH), HT h1 → HX h h1 → rg r → K r h1 → XFin xP sc goal fs (.inl (some (.int (J r)))) h1) : RR sc goal fs 65 0 [some (rv 2), some (.int (J p1)), some (.int (J p2)), some (.int (J p3)), some (.int (J p4)), some (.int (J p5)), some (rv 467), none] [] h := by
  unfold w_L_version at w
  refine r_ald (pc1 := 2) rfl rfl rfl ?_
  refine r_n (pc1 := 3) [.int (J 0), rv 467] _ rfl rfl ?_
  refine r_aldn (pc1 := 4) rfl rfl rfl ?_
  refine r_n (pc1 := 5) [.int (J p1), rv 2, .int (J 0), rv 467] _ rfl rfl ?_
  refine r_n (pc1 := 6) [.int (J p2), .int (J p1), rv 2, .int (J 0), rv 467] _ rfl rfl ?_
  refine r_n (pc1 := 7) [.int (J p3), .int (J p2), .int (J p1), rv 2, .int (J 0), rv 467] _ rfl rfl ?_
  refine r_n (pc1 := 9) [.int (J p4), .int (J p3), .int (J p2), .int (J p1), rv 2, .int (J 0), rv 467] _ rfl rfl ?_
  refine r_n (pc1 := 11) [.int (J p5), .int (J p4), .int (J p3), .int (J p2), .int (J p1), rv 2, .int (J 0), rv 467] _ rfl rfl ?_
  refine r_iv rfl rfl rfl rfl rfl rfl t0 (lyk t0 rfl) rfl (xe_of (xa_r (xa_i (xa_i (xa_i (xa_i (xa_i xa_0)))))) rfl rfl) (r_d0 hd rfl) (a_X12_version p1 p2 p3 p4 p5 (r_d1 hd rfl) rp1 rp2 rp3 rp4 rp5 w t0 (fun x1 h2 t2 u2 rx1 w => ?_) (fun y4 h3 ty uy w => ?_))
  · refine r_fI (pc1 := 14) rfl ?_
    have s2 := HX_trans (HX_refl h) u2
    have w := w t2 u2
    have w := w rx1
    refine r_i2l (pc1 := 15) rfl rfl ?_
    refine r_last (pc1 := 16) rfl rfl t2 (lyk t2 rfl) (rgk rfl) (by decide) (lt_len (lyn t2 rfl) (by decide)) (fun h5 eh5 t5 u5 => ?_)
    have w := w h5 eh5 t5 u5
    have s5 := HX_trans s2 u5
    refine r_goto (t := 31) rfl rfl ?_
    refine r_n (pc1 := 32) [.int (J 0)] _ rfl rfl ?_
    exact r_retI rfl rfl rfl (k _ _ t5 s5 (rgk rfl) w)
  · rcases w with ⟨rfl, w⟩ | w
    · exact r_fink (z := 1) rfl (by decide) rfl rfl (k _ _ ty (HX_trans (HX_refl h) uy) (rgk rfl) w)
    rcases w with ⟨rfl, w⟩ | w
    · exact r_fink (z := 2) rfl (by decide) rfl rfl (k _ _ ty (HX_trans (HX_refl h) uy) (rgk rfl) w)
    obtain ⟨rfl, w⟩ := w
    exact r_fink (z := 3) rfl (by decide) rfl rfl (k _ _ ty (HX_trans (HX_refl h) uy) (rgk rfl) w)
def w_X14_within (p0 : Int) (p1 : Int) (p2 : Int) (K : Int → Prop) (h : XH) : Prop :=
  (∃ J2 : Int → Prop, (∀ (x1 : Int), rg x1 → J2 x1 → ((x1 = 0 ∨ x1 = 1) ∧ K x1)) ∧ ∃ J4 : Prop, (J4 → (J2 0)) ∧ ((p0 < p1 → J4) ∧ (¬ (p0 < p1) → (((p2 < p0 → J4) ∧ (¬ (p2 < p0) → (J2 1)))))))
set_option maxHeartbeats 4000000 in
theorem a_X14_within {sc : Nat × (Nat → Int32)} {goal : XO → XH → Prop} {fs : List XF} {h : XH} (p0 : Int) (p1 : Int) (p2 : Int) {K : Int → Prop} (hd : fs.length + 0 ≤ 1000) (rp0 : rg p0) (rp1 : rg p1) (rp2 : rg p2) (w : w_X14_within p0 p1 p2 K h) (t0 : HT h) (k : ∀ (r : Int), rg r → (r = 0 ∨ r = 1) → K r → XFin xP sc goal fs (.inl (some (.int (J r)))) h) : RR sc goal fs 325 0 [some (.int (J p0)), some (.int (J p1)), some (.int (J p2))] [] h := by
  unfold w_X14_within at w
  refine r_n (pc1 := 1) [.int (J p0)] _ rfl rfl ?_
  refine r_n (pc1 := 2) [.int (J p1), .int (J p0)] _ rfl rfl ?_
  obtain ⟨J2, j2, w⟩ := w
  have Q2 : ∀ (x1 : Int), rg x1 → J2 x1 → RR sc goal fs 325 15 [some (.int (J p0)), some (.int (J p1)), some (.int (J p2))] [.int (J x1)] h := by
    intro x1 rx1 z2
    have w := j2 x1 rx1 z2
    obtain ⟨c3, w⟩ := w
    exact r_retB rfl rfl rfl c3 (k _ rx1 c3 w)
  obtain ⟨J4, j4, w⟩ := w
  have Q4 : J4 → RR sc goal fs 325 14 [some (.int (J p0)), some (.int (J p1)), some (.int (J p2))] [] h := by
    intro z4
    have w := j4 z4
    refine r_n (pc1 := 15) [.int (J 0)] _ rfl rfl ?_
    exact Q2  0  (rgk rfl) w
  refine r_ic (t := 14) (pc1 := 5) rfl rfl rfl rp0 rp1 (fun c6 => ?_) (fun c6 => ?_)
  · have w := w.1 c6
    exact Q4     w
  · have w := w.2 c6
    refine r_n (pc1 := 6) [.int (J p0)] _ rfl rfl ?_
    refine r_n (pc1 := 7) [.int (J p2), .int (J p0)] _ rfl rfl ?_
    refine r_ic (t := 14) (pc1 := 10) rfl rfl rfl rp0 rp2 (fun c5 => ?_) (fun c5 => ?_)
    · have w := w.1 c5
      exact Q4     w
    · have w := w.2 c5
      refine r_n (pc1 := 11) [.int (J 1)] _ rfl rfl ?_
      refine r_goto (t := 15) rfl rfl ?_
      exact Q2  1  (rgk rfl) w
def w_X14_isPack (p0 : Int) (K : Int → Prop) (h : XH) : Prop :=
  (w_X14_within p0 0 (wr ((hI h 438 0) - 1)) (fun x1 => rg x1 → (x1 = 0 ∨ x1 = 1) → (K x1)) h)
set_option maxHeartbeats 4000000 in
theorem a_X14_isPack {sc : Nat × (Nat → Int32)} {goal : XO → XH → Prop} {fs : List XF} {h : XH} (p0 : Int) {K : Int → Prop} (hd : fs.length + 1 ≤ 1000) (rp0 : rg p0) (w : w_X14_isPack p0 K h) (t0 : HT h) (k : ∀ (r : Int), rg r → (r = 0 ∨ r = 1) → K r → XFin xP sc goal fs (.inl (some (.int (J r)))) h) : RR sc goal fs 236 0 [some (rv 437), some (.int (J p0))] [] h := by
  unfold w_X14_isPack at w
  refine r_n (pc1 := 1) [.int (J p0)] _ rfl rfl ?_
  refine r_n (pc1 := 2) [.int (J 0), .int (J p0)] _ rfl rfl ?_
  refine r_aldn (pc1 := 3) rfl rfl rfl ?_
  refine r_gfC (pc1 := 6) (q := 438) rfl rfl rfl t0 (lyk t0 rfl) rfl rfl (lyR t0 rfl rfl) ?_
  refine r_n (pc1 := 7) [.int (J 0), rv 438, .int (J 0), .int (J p0)] _ rfl rfl ?_
  refine r_ial (pc1 := 8) rfl rfl t0 (lyk t0 rfl) (rgk rfl) (by decide) (lt_len (lyn t0 rfl) (by decide)) ?_
  refine r_n (pc1 := 9) [.int (J 1), .int (J (hI h 438 0)), .int (J 0), .int (J p0)] _ rfl rfl ?_
  refine r_isub (pc1 := 10) rfl rfl ?_
  refine r_iq rfl rfl rfl rfl rfl rfl (xe_of (xa_i (xa_i (xa_i xa_0))) rfl rfl) (r_d0 hd rfl) (a_X14_within p0 0 (wr ((hI h 438 0) - 1)) (r_d1 hd rfl) rp0 (rgk rfl) (rgw _) w t0 (fun x1 rx1 vx1 w => ?_))
  refine r_fI (pc1 := 13) rfl ?_
  have w := w rx1 vx1
  exact r_retB rfl rfl rfl vx1 (k _ rx1 vx1 w)
def w_X14_isCode (p0 : Int) (K : Int → Prop) (h : XH) : Prop :=
  (w_X14_within p0 0 999999 (fun x1 => rg x1 → (x1 = 0 ∨ x1 = 1) → (∃ J3 : Int → Prop, (∀ (x2 : Int), rg x2 → J3 x2 → ((x2 = 0 ∨ x2 = 1) ∧ K x2)) ∧ ∃ J5 : Prop, (J5 → (J3 0)) ∧ ((x1 = 0 → J5) ∧ (¬ (x1 = 0) → (((irem p0 100 = 0 → J5) ∧ (¬ (irem p0 100 = 0) → (J3 1)))))))) h)
set_option maxHeartbeats 4000000 in
theorem a_X14_isCode {sc : Nat × (Nat → Int32)} {goal : XO → XH → Prop} {fs : List XF} {h : XH} (p0 : Int) {K : Int → Prop} (hd : fs.length + 1 ≤ 1000) (rp0 : rg p0) (w : w_X14_isCode p0 K h) (t0 : HT h) (k : ∀ (r : Int), rg r → (r = 0 ∨ r = 1) → K r → XFin xP sc goal fs (.inl (some (.int (J r)))) h) : RR sc goal fs 224 0 [some (.int (J p0))] [] h := by
  unfold w_X14_isCode at w
  refine r_n (pc1 := 1) [.int (J p0)] _ rfl rfl ?_
  refine r_n (pc1 := 2) [.int (J 0), .int (J p0)] _ rfl rfl ?_
  refine r_n (pc1 := 4) [.int (J 999999), .int (J 0), .int (J p0)] _ rfl rfl ?_
  refine r_iq rfl rfl rfl rfl rfl rfl (xe_of (xa_i (xa_i (xa_i xa_0))) rfl rfl) (r_d0 hd rfl) (a_X14_within p0 0 999999 (r_d1 hd rfl) rp0 (rgk rfl) (rgk rfl) w t0 (fun x1 rx1 vx1 w => ?_))
  refine r_fI (pc1 := 7) rfl ?_
  have w := w rx1 vx1
  obtain ⟨J3, j3, w⟩ := w
  have Q3 : ∀ (x2 : Int), rg x2 → J3 x2 → RR sc goal fs 224 22 [some (.int (J p0))] [.int (J x2)] h := by
    intro x2 rx2 z3
    have w := j3 x2 rx2 z3
    obtain ⟨c4, w⟩ := w
    exact r_retB rfl rfl rfl c4 (k _ rx2 c4 w)
  obtain ⟨J5, j5, w⟩ := w
  have Q5 : J5 → RR sc goal fs 224 21 [some (.int (J p0))] [] h := by
    intro z5
    have w := j5 z5
    refine r_n (pc1 := 22) [.int (J 0)] _ rfl rfl ?_
    exact Q3  0  (rgk rfl) w
  refine r_iz (t := 21) (pc1 := 10) rfl rfl rfl rx1 (fun c7 => ?_) (fun c7 => ?_)
  · have w := w.1 c7
    exact Q5     w
  · have w := w.2 c7
    refine r_n (pc1 := 11) [.int (J p0)] _ rfl rfl ?_
    refine r_n (pc1 := 13) [.int (J 100), .int (J p0)] _ rfl rfl ?_
    refine r_irem (pc1 := 14) rfl rfl (rgk rfl) (by decide) ?_
    refine r_iz (t := 21) (pc1 := 17) rfl rfl rfl (rgt _) (fun c6 => ?_) (fun c6 => ?_)
    · have w := w.1 c6
      exact Q5     w
    · have w := w.2 c6
      refine r_n (pc1 := 18) [.int (J 1)] _ rfl rfl ?_
      refine r_goto (t := 22) rfl rfl ?_
      exact Q3  1  (rgk rfl) w
def w_X14_ver (p0 : Int) (p1 : Int) (K : Int → Prop) (h : XH) : Prop :=
  (∀ x1 : Int, x1 = wr ((wr (5 + (wr (20 * p0)))) + p1) → rg x1 → (0 ≤ x1 ∧ x1 < 1957) ∧ K (hI h 438 x1.toNat))
set_option maxHeartbeats 4000000 in
theorem a_X14_ver {sc : Nat × (Nat → Int32)} {goal : XO → XH → Prop} {fs : List XF} {h : XH} (p0 : Int) (p1 : Int) {K : Int → Prop} (hd : fs.length + 0 ≤ 1000) (rp0 : rg p0) (rp1 : rg p1) (w : w_X14_ver p0 p1 K h) (t0 : HT h) (k : ∀ (r : Int), rg r → K r → XFin xP sc goal fs (.inl (some (.int (J r)))) h) : RR sc goal fs 316 0 [some (rv 437), some (.int (J p0)), some (.int (J p1))] [] h := by
  unfold w_X14_ver at w
  refine r_aldn (pc1 := 1) rfl rfl rfl ?_
  refine r_gfC (pc1 := 4) (q := 438) rfl rfl rfl t0 (lyk t0 rfl) rfl rfl (lyR t0 rfl rfl) ?_
  refine r_n (pc1 := 5) [.int (J 5), rv 438] _ rfl rfl ?_
  refine r_n (pc1 := 7) [.int (J 20), .int (J 5), rv 438] _ rfl rfl ?_
  refine r_n (pc1 := 8) [.int (J p0), .int (J 20), .int (J 5), rv 438] _ rfl rfl ?_
  refine r_imul (pc1 := 9) rfl rfl ?_
  refine r_iadd (pc1 := 10) rfl rfl ?_
  refine r_n (pc1 := 11) [.int (J p1), .int (J (wr (5 + (wr (20 * p0))))), rv 438] _ rfl rfl ?_
  refine r_iadd (pc1 := 12) rfl rfl ?_
  refine r_vI (rgw _) (fun x1 ex1 rx1 => ?_)
  have w := w x1 ex1 rx1
  obtain ⟨c2, w⟩ := w
  refine r_ial (pc1 := 13) rfl rfl t0 (lyk t0 rfl) rx1 c2.1 (lt_len (lyn t0 rfl) c2.2) ?_
  exact r_retI rfl rfl rfl (k _ (rgh _ _ _) w)
def w_X14_sort (p0 : Int) (K : Nat → XH → Prop) (h : XH) : Prop :=
  (∀ (a1 : Nat) (h2 : XH), a1 = h.length → h2 = nA h 0 8 → HT h2 → HX h h2 → hk h2 a1 = 100 → hn h2 a1 = 8 → (∃ (I7 : Int → Int → XH → Prop) (m7 : Int → Int → XH → Nat), I7 0 0 h2 ∧ ∀ (x3 : Int) (x4 : Int) (h6 : XH), HT h6 → HX h h6 → rg x3 → rg x4 → I7 x3 x4 h6 → (((hI h6 438 4 ≤ x4 → ((0 ≤ x3 ∧ x3 < 67108864) ∧ ∀ (a9 : Nat) (h10 : XH), a9 = h6.length → h10 = nA h6 0 x3.toNat → HT h10 → HX h6 h10 → hk h10 a9 = 100 → hn h10 a9 = x3.toNat → hk h10 a1 = 100 ∧ (¬ a1 = a9 ∧ (0 : Int) ≤ 0 ∧ (0 : Int) ≤ 0 ∧ (0 : Int) ≤ x3 ∧ ((0 + x3 : Int)) ≤ (hn h10 a1 : Int) ∧ ((0 + x3 : Int)) ≤ (hn h10 a9 : Int)) ∧ ∀ h13 : XH, h13 = cA h10 a1 0 a9 0 x3.toNat → HT h13 → HX h10 h13 → K a9 h13)) ∧ (¬ (hI h6 438 4 ≤ x4) → (w_X14_ver x4 0 (fun x14 => rg x14 → (∃ J18 : Int → XH → Prop, (∀ (x15 : Int) (h17 : XH), HT h17 → HX h h17 → rg x15 → J18 x15 h17 → (∀ x19 : Int, x19 = wr (x4 + 1) → rg x19 → (I7 x15 x19 h17 ∧ m7 x15 x19 h17 < m7 x3 x4 h6))) ∧ ((¬ x14 = p0 → J18 x3 h6) ∧ (¬ (¬ x14 = p0) → ((∃ (I22 : Int → XH → Prop) (m22 : Int → XH → Nat), I22 x3 h6 ∧ ∀ (x20 : Int) (h21 : XH), HT h21 → HX h h21 → rg x20 → I22 x20 h21 → (∃ J23 : Prop, (J23 → (hk h21 a1 = 100 ∧ (0 ≤ x20 ∧ x20 < (hn h21 a1 : Int)) ∧ ∀ h26 : XH, h26 = sI h21 a1 x20.toNat x4 → HT h26 → HX h21 h26 → ∀ x27 : Int, x27 = wr (x3 + 1) → rg x27 → J18 x27 h26)) ∧ ((x20 ≤ 0 → J23) ∧ (¬ (x20 ≤ 0) → (∀ x28 : Int, x28 = wr (x20 - 1) → rg x28 → hk h21 a1 = 100 ∧ (0 ≤ x28 ∧ x28 < (hn h21 a1 : Int)) ∧ w_X14_ver (hI h21 a1 x28.toNat) 1 (fun x31 => rg x31 → (w_X14_ver x4 1 (fun x32 => rg x32 → (((x31 ≤ x32 → J23) ∧ (¬ (x31 ≤ x32) → (∀ x33 : Int, x33 = wr (x20 - 1) → rg x33 → (0 ≤ x33 ∧ x33 < (hn h21 a1 : Int)) ∧ (0 ≤ x20 ∧ x20 < (hn h21 a1 : Int)) ∧ ∀ h36 : XH, h36 = sI h21 a1 x20.toNat (hI h21 a1 x33.toNat) → HT h36 → HX h21 h36 → ∀ x37 : Int, x37 = wr (x20 + (-1)) → rg x37 → (I22 x37 h36 ∧ m22 x37 h36 < m22 x20 h21)))))) h21)) h21)))))))))) h6))))))
set_option maxHeartbeats 4000000 in
theorem a_X14_sort {sc : Nat × (Nat → Int32)} {goal : XO → XH → Prop} {fs : List XF} {h : XH} (p0 : Int) {K : Nat → XH → Prop} (hd : fs.length + 1 ≤ 1000) (rp0 : rg p0) (w : w_X14_sort p0 K h) (t0 : HT h) (k : ∀ (r : Nat) (h1 : XH), HT h1 → HX h h1 → K r h1 → XFin xP sc goal fs (.inl (some (rv r))) h1) : RR sc goal fs 304 0 [some (rv 437), some (.int (J p0)), none, none, none, none] [] h := by
  unfold w_X14_sort at w
  refine r_n (pc1 := 2) [.int (J 8)] _ rfl rfl ?_
  refine r_na (pc1 := 4) (u := 0) (m := 2) rfl rfl rfl t0 rfl (rgk rfl) (by decide) (by decide) (fun a1 h2 ea1 eh2 t2 u2 ca1 la1 => ?_)
  have w := w a1 h2 ea1 eh2 t2 u2 ca1 la1
  have s2 := HX_trans (HX_refl h) u2
  refine r_astn (pc1 := 5) (ls1 := [some (rv 437), some (.int (J p0)), some (rv a1), none, none, none]) rfl rfl rfl rfl ?_
  refine r_n (pc1 := 6) [.int (J 0)] _ rfl rfl ?_
  refine r_istn (pc1 := 7) (ls1 := [some (rv 437), some (.int (J p0)), some (rv a1), some (.int (J 0)), none, none]) rfl rfl rfl (xput1_rv rfl rfl) ?_
  refine r_n (pc1 := 8) [.int (J 0)] _ rfl rfl ?_
  refine r_ist (pc1 := 10) (ls1 := [some (rv 437), some (.int (J p0)), some (rv a1), some (.int (J 0)), some (.int (J 0)), none]) rfl rfl rfl rfl ?_
  obtain ⟨I7, m7, w, y7⟩ := w
  have Q7 : ∀ (n : Nat) (d5 : Option Value) (x3 : Int) (x4 : Int) (h6 : XH), HT h6 → HX h h6 → rg x3 → rg x4 → m7 x3 x4 h6 < n → I7 x3 x4 h6 → RR sc goal fs 304 10 [some (rv 437), some (.int (J p0)), some (rv a1), some (.int (J x3)), some (.int (J x4)), d5] [] h6 := by
    intro n
    induction n with
    | zero => intro d5 x3 x4 h6 t6 s6 rx3 rx4 q7 _; exact absurd q7 (Nat.not_lt_zero _)
    | succ n ih7 =>
      intro d5 x3 x4 h6 t6 s6 rx3 rx4 q7 z7
      have w := y7 x3 x4 h6 t6 s6 rx3 rx4 z7
      refine r_n (pc1 := 12) [.int (J x4)] _ rfl rfl ?_
      refine r_aldn (pc1 := 13) rfl rfl rfl ?_
      refine r_gfC (pc1 := 16) (q := 438) rfl rfl rfl t6 (lyk t6 rfl) rfl rfl (lyR t6 rfl rfl) ?_
      refine r_n (pc1 := 17) [.int (J 4), rv 438, .int (J x4)] _ rfl rfl ?_
      refine r_ial (pc1 := 18) rfl rfl t6 (lyk t6 rfl) (rgk rfl) (by decide) (lt_len (lyn t6 rfl) (by decide)) ?_
      refine r_ic (t := 92) (pc1 := 21) rfl rfl rfl rx4 (rgh _ _ _) (fun c41 => ?_) (fun c41 => ?_)
      · have w := w.1 c41
        refine r_n (pc1 := 93) [.int (J x3)] _ rfl rfl ?_
        obtain ⟨c8, w⟩ := w
        refine r_na (pc1 := 95) (u := 0) (m := 2) rfl rfl rfl t6 rfl rx3 c8.1 c8.2 (fun a9 h10 ea9 eh10 t10 u10 ca9 la9 => ?_)
        have w := w a9 h10 ea9 eh10 t10 u10 ca9 la9
        have s10 := HX_trans s6 u10
        refine r_ast (pc1 := 97) (ls1 := [some (rv 437), some (.int (J p0)), some (rv a1), some (.int (J x3)), some (rv a9), d5]) rfl rfl rfl rfl ?_
        refine r_aldn (pc1 := 98) rfl rfl rfl ?_
        refine r_n (pc1 := 99) [.int (J 0), rv a1] _ rfl rfl ?_
        refine r_ald (pc1 := 101) rfl rfl rfl ?_
        refine r_n (pc1 := 102) [.int (J 0), rv a9, .int (J 0), rv a1] _ rfl rfl ?_
        refine r_n (pc1 := 103) [.int (J x3), .int (J 0), rv a9, .int (J 0), rv a1] _ rfl rfl ?_
        obtain ⟨c11, w⟩ := w
        obtain ⟨c12, w⟩ := w
        refine r_cp (pc1 := 106) (u := 0) rfl rfl rfl rfl t10 c11 ca9 (by decide) (rgk rfl) (rgk rfl) rx3 rfl rfl c12 (fun h13 eh13 t13 u13 => ?_)
        have w := w h13 eh13 t13 u13
        have s13 := HX_trans s10 u13
        refine r_ald (pc1 := 108) rfl rfl rfl ?_
        exact r_retR rfl rfl rfl xok_A xokr_A (k _ _ t13 s13 w)
      · have w := w.2 c41
        refine r_aldn (pc1 := 22) rfl rfl rfl ?_
        refine r_n (pc1 := 24) [.int (J x4), rv 437] _ rfl rfl ?_
        refine r_n (pc1 := 25) [.int (J 0), .int (J x4), rv 437] _ rfl rfl ?_
        refine r_iv rfl rfl rfl rfl rfl rfl t6 (lyk t6 rfl) rfl (xe_of (xa_r (xa_i (xa_i xa_0))) rfl rfl) (r_d0 hd rfl) (a_X14_ver x4 0 (r_d1 hd rfl) rx4 (rgk rfl) w t6 (fun x14 rx14 w => ?_))
        refine r_fI (pc1 := 28) rfl ?_
        have w := w rx14
        refine r_n (pc1 := 29) [.int (J p0), .int (J x14)] _ rfl rfl ?_
        obtain ⟨J18, j18, w⟩ := w
        have Q18 : ∀ (d16 : Option Value) (x15 : Int) (h17 : XH), HT h17 → HX h h17 → rg x15 → J18 x15 h17 → RR sc goal fs 304 86 [some (rv 437), some (.int (J p0)), some (rv a1), some (.int (J x15)), some (.int (J x4)), d16] [] h17 := by
          intro d16 x15 h17 t17 s17 rx15 z18
          have w := j18 x15 h17 t17 s17 rx15 z18
          refine r_inc (pc1 := 89) (g := fun zz => [some (rv 437), some (.int (J p0)), some (rv a1), some (.int (J x15)), some (.int (J zz)), d16]) rfl rfl rfl rfl (fun _ => rfl) (fun x19 ex19 rx19 => ?_)
          have w := w x19 ex19 rx19
          refine r_goto (t := 10) rfl rfl ?_
          exact ih7 _ x15 x19 h17 t17 s17 rx15 rx19 (Nat.lt_of_lt_of_le w.2 (Nat.le_of_lt_succ q7)) w.1
        refine r_ic (t := 86) (pc1 := 32) rfl rfl rfl rx14 rp0 (fun c40 => ?_) (fun c40 => ?_)
        · have w := w.1 c40
          exact Q18 _ x3 h6 t6 s6 rx3 w
        · have w := w.2 c40
          refine r_n (pc1 := 33) [.int (J x3)] _ rfl rfl ?_
          refine r_ist (pc1 := 35) (ls1 := [some (rv 437), some (.int (J p0)), some (rv a1), some (.int (J x3)), some (.int (J x4)), some (.int (J x3))]) rfl rfl rfl rfl ?_
          obtain ⟨I22, m22, w, y22⟩ := w
          have Q22 : ∀ (n : Nat)  (x20 : Int) (h21 : XH), HT h21 → HX h h21 → rg x20 → m22 x20 h21 < n → I22 x20 h21 → RR sc goal fs 304 35 [some (rv 437), some (.int (J p0)), some (rv a1), some (.int (J x3)), some (.int (J x4)), some (.int (J x20))] [] h21 := by
            intro n
            induction n with
            | zero => intro x20 h21 t21 s21 rx20 q22 _; exact absurd q22 (Nat.not_lt_zero _)
            | succ n ih22 =>
              intro x20 h21 t21 s21 rx20 q22 z22
              have w := y22 x20 h21 t21 s21 rx20 z22
              refine r_n (pc1 := 37) [.int (J x20)] _ rfl rfl ?_
              obtain ⟨J23, j23, w⟩ := w
              have Q23 : J23 → RR sc goal fs 304 77 [some (rv 437), some (.int (J p0)), some (rv a1), some (.int (J x3)), some (.int (J x4)), some (.int (J x20))] [] h21 := by
                intro z23
                have w := j23 z23
                refine r_aldn (pc1 := 78) rfl rfl rfl ?_
                refine r_n (pc1 := 80) [.int (J x20), rv a1] _ rfl rfl ?_
                refine r_n (pc1 := 82) [.int (J x4), .int (J x20), rv a1] _ rfl rfl ?_
                obtain ⟨c24, w⟩ := w
                obtain ⟨c25, w⟩ := w
                refine r_iast (pc1 := 83) rfl rfl t21 c24 rx20 c25.1 c25.2 (fun h26 eh26 t26 u26 => ?_)
                have w := w h26 eh26 t26 u26
                have s26 := HX_trans s21 u26
                refine r_inc (pc1 := 86) (g := fun zz => [some (rv 437), some (.int (J p0)), some (rv a1), some (.int (J zz)), some (.int (J x4)), some (.int (J x20))]) rfl rfl rfl rfl (fun _ => xput1_rv rfl rfl) (fun x27 ex27 rx27 => ?_)
                have w := w x27 ex27 rx27
                exact Q18 _ x27 h26 t26 s26 rx27 w
              refine r_iz (t := 77) (pc1 := 40) rfl rfl rfl rx20 (fun c39 => ?_) (fun c39 => ?_)
              · have w := w.1 c39
                exact Q23     w
              · have w := w.2 c39
                refine r_aldn (pc1 := 41) rfl rfl rfl ?_
                refine r_aldn (pc1 := 42) rfl rfl rfl ?_
                refine r_n (pc1 := 44) [.int (J x20), rv a1, rv 437] _ rfl rfl ?_
                refine r_n (pc1 := 45) [.int (J 1), .int (J x20), rv a1, rv 437] _ rfl rfl ?_
                refine r_isub (pc1 := 46) rfl rfl ?_
                refine r_vI (rgw _) (fun x28 ex28 rx28 => ?_)
                have w := w x28 ex28 rx28
                obtain ⟨c29, w⟩ := w
                obtain ⟨c30, w⟩ := w
                refine r_ial (pc1 := 47) rfl rfl t21 c29 rx28 c30.1 c30.2 ?_
                refine r_n (pc1 := 48) [.int (J 1), .int (J (hI h21 a1 x28.toNat)), rv 437] _ rfl rfl ?_
                refine r_iv rfl rfl rfl rfl rfl rfl t21 (lyk t21 rfl) rfl (xe_of (xa_r (xa_i (xa_i xa_0))) rfl rfl) (r_d0 hd rfl) (a_X14_ver (hI h21 a1 x28.toNat) 1 (r_d1 hd rfl) (rgh _ _ _) (rgk rfl) w t21 (fun x31 rx31 w => ?_))
                refine r_fI (pc1 := 51) rfl ?_
                have w := w rx31
                refine r_aldn (pc1 := 52) rfl rfl rfl ?_
                refine r_n (pc1 := 54) [.int (J x4), rv 437, .int (J x31)] _ rfl rfl ?_
                refine r_n (pc1 := 55) [.int (J 1), .int (J x4), rv 437, .int (J x31)] _ rfl rfl ?_
                refine r_iv rfl rfl rfl rfl rfl rfl t21 (lyk t21 rfl) rfl (xe_of (xa_r (xa_i (xa_i xa_0))) rfl rfl) (r_d0 hd rfl) (a_X14_ver x4 1 (r_d1 hd rfl) rx4 (rgk rfl) w t21 (fun x32 rx32 w => ?_))
                refine r_fI (pc1 := 58) rfl ?_
                have w := w rx32
                refine r_ic (t := 77) (pc1 := 61) rfl rfl rfl rx31 rx32 (fun c38 => ?_) (fun c38 => ?_)
                · have w := w.1 c38
                  exact Q23     w
                · have w := w.2 c38
                  refine r_aldn (pc1 := 62) rfl rfl rfl ?_
                  refine r_n (pc1 := 64) [.int (J x20), rv a1] _ rfl rfl ?_
                  refine r_aldn (pc1 := 65) rfl rfl rfl ?_
                  refine r_n (pc1 := 67) [.int (J x20), rv a1, .int (J x20), rv a1] _ rfl rfl ?_
                  refine r_n (pc1 := 68) [.int (J 1), .int (J x20), rv a1, .int (J x20), rv a1] _ rfl rfl ?_
                  refine r_isub (pc1 := 69) rfl rfl ?_
                  refine r_vI (rgw _) (fun x33 ex33 rx33 => ?_)
                  have w := w x33 ex33 rx33
                  obtain ⟨c34, w⟩ := w
                  refine r_ial (pc1 := 70) rfl rfl t21 c29 rx33 c34.1 c34.2 ?_
                  obtain ⟨c35, w⟩ := w
                  refine r_iast (pc1 := 71) rfl rfl t21 c29 rx20 c35.1 c35.2 (fun h36 eh36 t36 u36 => ?_)
                  have w := w h36 eh36 t36 u36
                  have s36 := HX_trans s21 u36
                  refine r_inc (pc1 := 74) (g := fun zz => [some (rv 437), some (.int (J p0)), some (rv a1), some (.int (J x3)), some (.int (J x4)), some (.int (J zz))]) rfl rfl rfl rfl (fun _ => rfl) (fun x37 ex37 rx37 => ?_)
                  have w := w x37 ex37 rx37
                  refine r_goto (t := 35) rfl rfl ?_
                  exact ih22  x37 h36 t36 s36 rx37 (Nat.lt_of_lt_of_le w.2 (Nat.le_of_lt_succ q22)) w.1
          exact Q22 _  x3 h6 t6 s6 rx3 (Nat.lt_succ_self _) w
  exact Q7 _ _ 0 0 h2 t2 s2 (rgk rfl) (rgk rfl) (Nat.lt_succ_self _) w
def w_X14_versionsOf (p0 : Int) (K : Nat → XH → Prop) (h : XH) : Prop :=
  (∃ J3 : XH → Prop, (∀ (h2 : XH), HT h2 → HX h h2 → J3 h2 → ((0 ≤ p0 ∧ p0 < 12) ∧ K (hR h2 442 p0.toNat) h2)) ∧ ((hI h 437 12 = hI h 437 4 → J3 h) ∧ (¬ (hI h 437 12 = hI h 437 4) → (∀ h5 : XH, h5 = sI h 437 12 (hI h 437 4) → HT h5 → HX h h5 → (∃ (I8 : Int → XH → Prop) (m8 : Int → XH → Nat), I8 0 h5 ∧ ∀ (x6 : Int) (h7 : XH), HT h7 → HX h h7 → rg x6 → I8 x6 h7 → (((12 ≤ x6 → J3 h7) ∧ (¬ (12 ≤ x6) → (w_X14_sort x6 (fun a9 h10 => HT h10 → HX h7 h10 → ((0 ≤ x6 ∧ x6 < 12) ∧ hk h10 a9 = 100 ∧ ∀ h13 : XH, h13 = sR h10 442 x6.toNat a9 → HT h13 → HX h10 h13 → ∀ x14 : Int, x14 = wr (x6 + 1) → rg x14 → (I8 x14 h13 ∧ m8 x14 h13 < m8 x6 h7))) h7)))))))))
set_option maxHeartbeats 4000000 in
theorem a_X14_versionsOf {sc : Nat × (Nat → Int32)} {goal : XO → XH → Prop} {fs : List XF} {h : XH} (p0 : Int) {K : Nat → XH → Prop} (hd : fs.length + 2 ≤ 1000) (rp0 : rg p0) (w : w_X14_versionsOf p0 K h) (t0 : HT h) (k : ∀ (r : Nat) (h1 : XH), HT h1 → HX h h1 → K r h1 → XFin xP sc goal fs (.inl (some (rv r))) h1) : RR sc goal fs 321 0 [some (rv 437), some (.int (J p0)), none] [] h := by
  unfold w_X14_versionsOf at w
  refine r_aldn (pc1 := 1) rfl rfl rfl ?_
  refine r_gfI (pc1 := 4) rfl rfl rfl t0 (lyk t0 rfl) rfl rfl ?_
  refine r_aldn (pc1 := 5) rfl rfl rfl ?_
  refine r_gfI (pc1 := 8) rfl rfl rfl t0 (lyk t0 rfl) rfl rfl ?_
  obtain ⟨J3, j3, w⟩ := w
  have Q3 : ∀ (d1 : Option Value) (h2 : XH), HT h2 → HX h h2 → J3 h2 → RR sc goal fs 321 44 [some (rv 437), some (.int (J p0)), d1] [] h2 := by
    intro d1 h2 t2 s2 z3
    have w := j3 h2 t2 s2 z3
    refine r_aldn (pc1 := 45) rfl rfl rfl ?_
    refine r_gfC (pc1 := 48) (q := 442) rfl rfl rfl t2 (lyk t2 rfl) rfl rfl (lyR t2 rfl rfl) ?_
    refine r_n (pc1 := 49) [.int (J p0), rv 442] _ rfl rfl ?_
    obtain ⟨c4, w⟩ := w
    refine r_aal (pc1 := 50) (u := 7) rfl rfl t2 (lyk t2 rfl) rfl rfl rp0 c4.1 (lt_len (lyn t2 rfl) c4.2) ?_
    exact r_retR rfl rfl rfl xok_A xokr_A (k _ _ t2 s2 w)
  refine r_ic (t := 44) (pc1 := 11) rfl rfl rfl (rgh _ _ _) (rgh _ _ _) (fun c16 => ?_) (fun c16 => ?_)
  · have w := w.1 c16
    exact Q3 _  h t0 (HX_refl h)  w
  · have w := w.2 c16
    refine r_aldn (pc1 := 12) rfl rfl rfl ?_
    refine r_aldn (pc1 := 13) rfl rfl rfl ?_
    refine r_gfI (pc1 := 16) rfl rfl rfl t0 (lyk t0 rfl) rfl rfl ?_
    refine r_pfI (pc1 := 19) rfl rfl rfl t0 (lyk t0 rfl) rfl rfl rfl (fun h5 eh5 t5 u5 => ?_)
    have w := w h5 eh5 t5 u5
    have s5 := HX_trans (HX_refl h) u5
    refine r_n (pc1 := 20) [.int (J 0)] _ rfl rfl ?_
    refine r_istn (pc1 := 21) (ls1 := [some (rv 437), some (.int (J p0)), some (.int (J 0))]) rfl rfl rfl rfl ?_
    obtain ⟨I8, m8, w, y8⟩ := w
    have Q8 : ∀ (n : Nat)  (x6 : Int) (h7 : XH), HT h7 → HX h h7 → rg x6 → m8 x6 h7 < n → I8 x6 h7 → RR sc goal fs 321 21 [some (rv 437), some (.int (J p0)), some (.int (J x6))] [] h7 := by
      intro n
      induction n with
      | zero => intro x6 h7 t7 s7 rx6 q8 _; exact absurd q8 (Nat.not_lt_zero _)
      | succ n ih8 =>
        intro x6 h7 t7 s7 rx6 q8 z8
        have w := y8 x6 h7 t7 s7 rx6 z8
        refine r_n (pc1 := 22) [.int (J x6)] _ rfl rfl ?_
        refine r_n (pc1 := 24) [.int (J 12), .int (J x6)] _ rfl rfl ?_
        refine r_ic (t := 44) (pc1 := 27) rfl rfl rfl rx6 (rgk rfl) (fun c15 => ?_) (fun c15 => ?_)
        · have w := w.1 c15
          exact Q3 _  h7 t7 s7  w
        · have w := w.2 c15
          refine r_aldn (pc1 := 28) rfl rfl rfl ?_
          refine r_gfC (pc1 := 31) (q := 442) rfl rfl rfl t7 (lyk t7 rfl) rfl rfl (lyR t7 rfl rfl) ?_
          refine r_n (pc1 := 32) [.int (J x6), rv 442] _ rfl rfl ?_
          refine r_aldn (pc1 := 33) rfl rfl rfl ?_
          refine r_n (pc1 := 34) [.int (J x6), rv 437, .int (J x6), rv 442] _ rfl rfl ?_
          refine r_iv rfl rfl rfl rfl rfl rfl t7 (lyk t7 rfl) rfl (xe_of (xa_r (xa_i xa_0)) rfl rfl) (r_d0 hd rfl) (a_X14_sort x6 (r_d1 hd rfl) rx6 w t7 (fun a9 h10 t10 u10 w => ?_))
          refine r_fR (pc1 := 37) rfl ?_
          have s10 := HX_trans s7 u10
          have w := w t10 u10
          obtain ⟨c11, w⟩ := w
          obtain ⟨c12, w⟩ := w
          refine r_aast (pc1 := 38) (u := 7) rfl rfl t10 (lyk t10 rfl) (.inr (.inr (.inr ⟨rfl, nz_of (c := 0) t10 c12⟩))) (.inr (.inr (.inr (.inr ⟨rfl, c12⟩)))) rx6 c11.1 (lt_len (lyn t10 rfl) c11.2) (fun h13 eh13 t13 u13 => ?_)
          have w := w h13 eh13 t13 u13
          have s13 := HX_trans s10 u13
          refine r_inc (pc1 := 41) (g := fun zz => [some (rv 437), some (.int (J p0)), some (.int (J zz))]) rfl rfl rfl rfl (fun _ => rfl) (fun x14 ex14 rx14 => ?_)
          have w := w x14 ex14 rx14
          refine r_goto (t := 21) rfl rfl ?_
          exact ih8  x14 h13 t13 s13 rx14 (Nat.lt_of_lt_of_le w.2 (Nat.le_of_lt_succ q8)) w.1
    exact Q8 _  0 h5 t5 s5 (rgk rfl) (Nat.lt_succ_self _) w
def w_X14_slotOf (p0 : Int) (p1 : Int) (K : Int → Prop) (h : XH) : Prop :=
  ((∃ (I2 : Int → Prop) (m2 : Int → Nat), I2 0 ∧ ∀ (x1 : Int), rg x1 → I2 x1 → (((hI h 438 4 ≤ x1 → (K (-1))) ∧ (¬ (hI h 438 4 ≤ x1) → (w_X14_ver x1 0 (fun x3 => rg x3 → (∃ J4 : Prop, (J4 → (∀ x5 : Int, x5 = wr (x1 + 1) → rg x5 → (I2 x5 ∧ m2 x5 < m2 x1))) ∧ ((¬ x3 = p0 → J4) ∧ (¬ (¬ x3 = p0) → (w_X14_ver x1 1 (fun x6 => rg x6 → (((¬ x6 = p1 → J4) ∧ (¬ (¬ x6 = p1) → (K x1))))) h))))) h))))))
set_option maxHeartbeats 4000000 in
theorem a_X14_slotOf {sc : Nat × (Nat → Int32)} {goal : XO → XH → Prop} {fs : List XF} {h : XH} (p0 : Int) (p1 : Int) {K : Int → Prop} (hd : fs.length + 1 ≤ 1000) (rp0 : rg p0) (rp1 : rg p1) (w : w_X14_slotOf p0 p1 K h) (t0 : HT h) (k : ∀ (r : Int), rg r → K r → XFin xP sc goal fs (.inl (some (.int (J r)))) h) : RR sc goal fs 302 0 [some (rv 437), some (.int (J p0)), some (.int (J p1)), none] [] h := by
  unfold w_X14_slotOf at w
  refine r_n (pc1 := 1) [.int (J 0)] _ rfl rfl ?_
  refine r_istn (pc1 := 2) (ls1 := [some (rv 437), some (.int (J p0)), some (.int (J p1)), some (.int (J 0))]) rfl rfl rfl rfl ?_
  obtain ⟨I2, m2, w, y2⟩ := w
  have Q2 : ∀ (n : Nat)  (x1 : Int), rg x1 → m2 x1 < n → I2 x1 → RR sc goal fs 302 2 [some (rv 437), some (.int (J p0)), some (.int (J p1)), some (.int (J x1))] [] h := by
    intro n
    induction n with
    | zero => intro x1 rx1 q2 _; exact absurd q2 (Nat.not_lt_zero _)
    | succ n ih2 =>
      intro x1 rx1 q2 z2
      have w := y2 x1 rx1 z2
      refine r_n (pc1 := 3) [.int (J x1)] _ rfl rfl ?_
      refine r_aldn (pc1 := 4) rfl rfl rfl ?_
      refine r_gfC (pc1 := 7) (q := 438) rfl rfl rfl t0 (lyk t0 rfl) rfl rfl (lyR t0 rfl rfl) ?_
      refine r_n (pc1 := 8) [.int (J 4), rv 438, .int (J x1)] _ rfl rfl ?_
      refine r_ial (pc1 := 9) rfl rfl t0 (lyk t0 rfl) (rgk rfl) (by decide) (lt_len (lyn t0 rfl) (by decide)) ?_
      refine r_ic (t := 40) (pc1 := 12) rfl rfl rfl rx1 (rgh _ _ _) (fun c9 => ?_) (fun c9 => ?_)
      · have w := w.1 c9
        refine r_n (pc1 := 41) [.int (J (-1))] _ rfl rfl ?_
        exact r_retI rfl rfl rfl (k _ (rgk rfl) w)
      · have w := w.2 c9
        refine r_aldn (pc1 := 13) rfl rfl rfl ?_
        refine r_n (pc1 := 14) [.int (J x1), rv 437] _ rfl rfl ?_
        refine r_n (pc1 := 15) [.int (J 0), .int (J x1), rv 437] _ rfl rfl ?_
        refine r_iv rfl rfl rfl rfl rfl rfl t0 (lyk t0 rfl) rfl (xe_of (xa_r (xa_i (xa_i xa_0))) rfl rfl) (r_d0 hd rfl) (a_X14_ver x1 0 (r_d1 hd rfl) rx1 (rgk rfl) w t0 (fun x3 rx3 w => ?_))
        refine r_fI (pc1 := 18) rfl ?_
        have w := w rx3
        refine r_n (pc1 := 19) [.int (J p0), .int (J x3)] _ rfl rfl ?_
        obtain ⟨J4, j4, w⟩ := w
        have Q4 : J4 → RR sc goal fs 302 34 [some (rv 437), some (.int (J p0)), some (.int (J p1)), some (.int (J x1))] [] h := by
          intro z4
          have w := j4 z4
          refine r_inc (pc1 := 37) (g := fun zz => [some (rv 437), some (.int (J p0)), some (.int (J p1)), some (.int (J zz))]) rfl rfl rfl rfl (fun _ => rfl) (fun x5 ex5 rx5 => ?_)
          have w := w x5 ex5 rx5
          refine r_goto (t := 2) rfl rfl ?_
          exact ih2  x5  rx5 (Nat.lt_of_lt_of_le w.2 (Nat.le_of_lt_succ q2)) w.1
        refine r_ic (t := 34) (pc1 := 22) rfl rfl rfl rx3 rp0 (fun c8 => ?_) (fun c8 => ?_)
        · have w := w.1 c8
          exact Q4     w
        · have w := w.2 c8
          refine r_aldn (pc1 := 23) rfl rfl rfl ?_
          refine r_n (pc1 := 24) [.int (J x1), rv 437] _ rfl rfl ?_
          refine r_n (pc1 := 25) [.int (J 1), .int (J x1), rv 437] _ rfl rfl ?_
          refine r_iv rfl rfl rfl rfl rfl rfl t0 (lyk t0 rfl) rfl (xe_of (xa_r (xa_i (xa_i xa_0))) rfl rfl) (r_d0 hd rfl) (a_X14_ver x1 1 (r_d1 hd rfl) rx1 (rgk rfl) w t0 (fun x6 rx6 w => ?_))
          refine r_fI (pc1 := 28) rfl ?_
          have w := w rx6
          refine r_n (pc1 := 29) [.int (J p1), .int (J x6)] _ rfl rfl ?_
          refine r_ic (t := 34) (pc1 := 32) rfl rfl rfl rx6 rp1 (fun c7 => ?_) (fun c7 => ?_)
          · have w := w.1 c7
            exact Q4     w
          · have w := w.2 c7
            refine r_n (pc1 := 33) [.int (J x1)] _ rfl rfl ?_
            exact r_retI rfl rfl rfl (k _ rx1 w)
  exact Q2 _  0  (rgk rfl) (Nat.lt_succ_self _) w
def w_X14_put (p0 : Int) (p1 : Int) (p2 : Int) (K : XH → Prop) (h : XH) : Prop :=
  ((0 ≤ wr ((wr (5 + (wr (20 * p0)))) + p1) ∧ wr ((wr (5 + (wr (20 * p0)))) + p1) < 1957) ∧ ∀ h2 : XH, h2 = sI h 438 (wr ((wr (5 + (wr (20 * p0)))) + p1)).toNat p2 → HT h2 → HX h h2 → K h2)
set_option maxHeartbeats 4000000 in
theorem a_X14_put {sc : Nat × (Nat → Int32)} {goal : XO → XH → Prop} {fs : List XF} {h : XH} (p0 : Int) (p1 : Int) (p2 : Int) {K : XH → Prop} (hd : fs.length + 0 ≤ 1000) (rp0 : rg p0) (rp1 : rg p1) (rp2 : rg p2) (w : w_X14_put p0 p1 p2 K h) (t0 : HT h) (k : ∀ (h1 : XH), HT h1 → HX h h1 → K h1 → XFin xP sc goal fs (.inl none) h1) : RR sc goal fs 276 0 [some (rv 437), some (.int (J p0)), some (.int (J p1)), some (.int (J p2))] [] h := by
  unfold w_X14_put at w
  refine r_aldn (pc1 := 1) rfl rfl rfl ?_
  refine r_gfC (pc1 := 4) (q := 438) rfl rfl rfl t0 (lyk t0 rfl) rfl rfl (lyR t0 rfl rfl) ?_
  refine r_n (pc1 := 5) [.int (J 5), rv 438] _ rfl rfl ?_
  refine r_n (pc1 := 7) [.int (J 20), .int (J 5), rv 438] _ rfl rfl ?_
  refine r_n (pc1 := 8) [.int (J p0), .int (J 20), .int (J 5), rv 438] _ rfl rfl ?_
  refine r_imul (pc1 := 9) rfl rfl ?_
  refine r_iadd (pc1 := 10) rfl rfl ?_
  refine r_n (pc1 := 11) [.int (J p1), .int (J (wr (5 + (wr (20 * p0))))), rv 438] _ rfl rfl ?_
  refine r_iadd (pc1 := 12) rfl rfl ?_
  refine r_n (pc1 := 13) [.int (J p2), .int (J (wr ((wr (5 + (wr (20 * p0)))) + p1))), rv 438] _ rfl rfl ?_
  obtain ⟨c1, w⟩ := w
  refine r_iast (pc1 := 14) rfl rfl t0 (lyk t0 rfl) (rgw _) c1.1 (lt_len (lyn t0 rfl) c1.2) (fun h2 eh2 t2 u2 => ?_)
  have w := w h2 eh2 t2 u2
  have s2 := HX_trans (HX_refl h) u2
  exact r_retV rfl rfl rfl (k _ t2 s2 w)
def w_X14_version (p0 : Int) (p1 : Int) (p2 : Int) (p3 : Int) (p4 : Int) (K : Int → XH → Prop) (h : XH) : Prop :=
  (∀ h1 : XH, h1 = sI h 437 5 0 → HT h1 → HX h h1 → w_X14_isPack p0 (fun x2 => rg x2 → (x2 = 0 ∨ x2 = 1) → (w_X14_refused x2 1 (fun x3 h4 => HT h4 → HX h1 h4 → rg x3 → (x3 = 0 ∨ x3 = 1) → (∃ J6 : XH → Prop, (∀ (h5 : XH), HT h5 → HX h h5 → J6 h5 → (K 0 h5)) ∧ ((¬ x3 = 0 → J6 h4) ∧ (¬ (¬ x3 = 0) → (w_X14_isCode p1 (fun x7 => rg x7 → (x7 = 0 ∨ x7 = 1) → (∃ J9 : Int → Prop, (∀ (x8 : Int), rg x8 → J9 x8 → (w_X14_refused x8 2 (fun x10 h11 => HT h11 → HX h4 h11 → rg x10 → (x10 = 0 ∨ x10 = 1) → (((x10 = 0 → (w_X14_versionsOf p0 (fun a12 h13 => HT h13 → HX h11 h13 → (hk h13 a12 = 100 ∧ (hn h13 a12 : Int) < 2147483648 ∧ ∀ x16 : Int, x16 = (hn h13 a12 : Int) → rg x16 → w_X14_slotOf p0 p1 (fun x17 => rg x17 → (∃ J19 : Int → Prop, (∀ (x18 : Int), rg x18 → J19 x18 → (w_X14_refused x18 3 (fun x20 h21 => HT h21 → HX h13 h21 → rg x20 → (x20 = 0 ∨ x20 = 1) → (((x20 = 0 → (w_X14_record (fun h22 => HT h22 → HX h21 h22 → (∀ x23 : Int, x23 = hI h22 438 4 → rg x23 → ∀ h24 : XH, h24 = sI h22 438 4 (wr ((hI h22 438 4) + 1)) → HT h24 → HX h22 h24 → w_X14_put x23 0 p0 (fun h25 => HT h25 → HX h24 h25 → (w_X14_put x23 1 p1 (fun h26 => HT h26 → HX h25 h26 → (w_X14_put x23 2 p2 (fun h27 => HT h27 → HX h26 h27 → (w_X14_put x23 3 p3 (fun h28 => HT h28 → HX h27 h28 → (w_X14_put x23 4 p4 (fun h29 => HT h29 → HX h28 h29 → (K (wr (x16 + 1)) h29)) h28)) h27)) h26)) h25)) h24)) h21)) ∧ (¬ (x20 = 0) → (K 0 h21))))) h13)) ∧ ∃ J31 : Prop, (J31 → (J19 0)) ∧ ((¬ x17 = (-1) → J31) ∧ (¬ (¬ x17 = (-1)) → (((8 ≤ x16 → J31) ∧ (¬ (8 ≤ x16) → (((40 ≤ hI h13 438 4 → J31) ∧ (¬ (40 ≤ hI h13 438 4) → (J19 1))))))))))) h13)) h11)) ∧ (¬ (x10 = 0) → J6 h11)))) h4)) ∧ ∃ J36 : Prop, (J36 → (J9 0)) ∧ ((x7 = 0 → J36) ∧ (¬ (x7 = 0) → (((p2 < 0 → J36) ∧ (¬ (p2 < 0) → (w_X14_within p3 0 1000 (fun x37 => rg x37 → (x37 = 0 ∨ x37 = 1) → (((x37 = 0 → J36) ∧ (¬ (x37 = 0) → (J9 1))))) h4)))))))) h4))))) h1)) h1)
set_option maxHeartbeats 4000000 in
theorem a_X14_version {sc : Nat × (Nat → Int32)} {goal : XO → XH → Prop} {fs : List XF} {h : XH} (p0 : Int) (p1 : Int) (p2 : Int) (p3 : Int) (p4 : Int) {K : Int → XH → Prop} (hd : fs.length + 3 ≤ 1000) (rp0 : rg p0) (rp1 : rg p1) (rp2 : rg p2) (rp3 : rg p3) (rp4 : rg p4) (w : w_X14_version p0 p1 p2 p3 p4 K h) (t0 : HT h) (k : ∀ (r : Int) (h1 : XH), HT h1 → HX h h1 → rg r → K r h1 → XFin xP sc goal fs (.inl (some (.int (J r)))) h1) : RR sc goal fs 317 0 [some (rv 437), some (.int (J p0)), some (.int (J p1)), some (.int (J p2)), some (.int (J p3)), some (.int (J p4)), none, none] [] h := by
  unfold w_X14_version at w
  refine r_aldn (pc1 := 1) rfl rfl rfl ?_
  refine r_n (pc1 := 2) [.int (J 0), rv 437] _ rfl rfl ?_
  refine r_pfI (pc1 := 5) rfl rfl rfl t0 (lyk t0 rfl) rfl rfl rfl (fun h1 eh1 t1 u1 => ?_)
  have w := w h1 eh1 t1 u1
  have s1 := HX_trans (HX_refl h) u1
  refine r_aldn (pc1 := 6) rfl rfl rfl ?_
  refine r_aldn (pc1 := 7) rfl rfl rfl ?_
  refine r_n (pc1 := 8) [.int (J p0), rv 437, rv 437] _ rfl rfl ?_
  refine r_iv rfl rfl rfl rfl rfl rfl t1 (lyk t1 rfl) rfl (xe_of (xa_r (xa_i xa_0)) rfl rfl) (r_d0 hd rfl) (a_X14_isPack p0 (r_d1 hd rfl) rp0 w t1 (fun x2 rx2 vx2 w => ?_))
  refine r_fI (pc1 := 11) rfl ?_
  have w := w rx2 vx2
  refine r_n (pc1 := 12) [.int (J 1), .int (J x2), rv 437] _ rfl rfl ?_
  refine r_iv rfl rfl rfl rfl rfl rfl t1 (lyk t1 rfl) rfl (xe_of (xa_r (xa_i (xa_i xa_0))) rfl rfl) (r_d0 hd rfl) (a_X14_refused x2 1 (r_d1 hd rfl) rx2 (rgk rfl) w t1 (fun x3 h4 t4 u4 rx3 vx3 w => ?_))
  refine r_fI (pc1 := 15) rfl ?_
  have s4 := HX_trans s1 u4
  have w := w t4 u4
  have w := w rx3 vx3
  obtain ⟨J6, j6, w⟩ := w
  have Q6 : ∀ (h5 : XH), HT h5 → HX h h5 → J6 h5 → RR sc goal fs 317 54 [some (rv 437), some (.int (J p0)), some (.int (J p1)), some (.int (J p2)), some (.int (J p3)), some (.int (J p4)), none, none] [] h5 := by
    intro h5 t5 s5 z6
    have w := j6 h5 t5 s5 z6
    refine r_n (pc1 := 55) [.int (J 0)] _ rfl rfl ?_
    exact r_retI rfl rfl rfl (k _ _ t5 s5 (rgk rfl) w)
  refine r_iz (t := 54) (pc1 := 18) rfl rfl rfl rx3 (fun c41 => ?_) (fun c41 => ?_)
  · have w := w.1 c41
    exact Q6   h4 t4 s4  w
  · have w := w.2 c41
    refine r_aldn (pc1 := 19) rfl rfl rfl ?_
    refine r_n (pc1 := 20) [.int (J p1), rv 437] _ rfl rfl ?_
    refine r_iq rfl rfl rfl rfl rfl rfl (xe_of (xa_i xa_0) rfl rfl) (r_d0 hd rfl) (a_X14_isCode p1 (r_d1 hd rfl) rp1 w t4 (fun x7 rx7 vx7 w => ?_))
    refine r_fI (pc1 := 23) rfl ?_
    have w := w rx7 vx7
    obtain ⟨J9, j9, w⟩ := w
    have Q9 : ∀ (x8 : Int), rg x8 → J9 x8 → RR sc goal fs 317 47 [some (rv 437), some (.int (J p0)), some (.int (J p1)), some (.int (J p2)), some (.int (J p3)), some (.int (J p4)), none, none] [.int (J x8), rv 437] h4 := by
      intro x8 rx8 z9
      have w := j9 x8 rx8 z9
      refine r_n (pc1 := 48) [.int (J 2), .int (J x8), rv 437] _ rfl rfl ?_
      refine r_iv rfl rfl rfl rfl rfl rfl t4 (lyk t4 rfl) rfl (xe_of (xa_r (xa_i (xa_i xa_0))) rfl rfl) (r_d0 hd rfl) (a_X14_refused x8 2 (r_d1 hd rfl) rx8 (rgk rfl) w t4 (fun x10 h11 t11 u11 rx10 vx10 w => ?_))
      refine r_fI (pc1 := 51) rfl ?_
      have s11 := HX_trans s4 u11
      have w := w t11 u11
      have w := w rx10 vx10
      refine r_iz (t := 56) (pc1 := 54) rfl rfl rfl rx10 (fun c35 => ?_) (fun c35 => ?_)
      · have w := w.1 c35
        refine r_aldn (pc1 := 57) rfl rfl rfl ?_
        refine r_n (pc1 := 58) [.int (J p0), rv 437] _ rfl rfl ?_
        refine r_iv rfl rfl rfl rfl rfl rfl t11 (lyk t11 rfl) rfl (xe_of (xa_r (xa_i xa_0)) rfl rfl) (r_d0 hd rfl) (a_X14_versionsOf p0 (r_d1 hd rfl) rp0 w t11 (fun a12 h13 t13 u13 w => ?_))
        refine r_fR (pc1 := 61) rfl ?_
        have s13 := HX_trans s11 u13
        have w := w t13 u13
        obtain ⟨c14, w⟩ := w
        obtain ⟨c15, w⟩ := w
        refine r_len (pc1 := 62) (u := 0) rfl rfl t13 c14 (by decide) (fun rc15 => ?_) c15
        refine r_vI rc15 (fun x16 ex16 rx16 => ?_)
        have w := w x16 ex16 rx16
        refine r_ist (pc1 := 64) (ls1 := [some (rv 437), some (.int (J p0)), some (.int (J p1)), some (.int (J p2)), some (.int (J p3)), some (.int (J p4)), some (.int (J x16)), none]) rfl rfl rfl rfl ?_
        refine r_aldn (pc1 := 65) rfl rfl rfl ?_
        refine r_aldn (pc1 := 66) rfl rfl rfl ?_
        refine r_n (pc1 := 67) [.int (J p0), rv 437, rv 437] _ rfl rfl ?_
        refine r_n (pc1 := 68) [.int (J p1), .int (J p0), rv 437, rv 437] _ rfl rfl ?_
        refine r_iv rfl rfl rfl rfl rfl rfl t13 (lyk t13 rfl) rfl (xe_of (xa_r (xa_i (xa_i xa_0))) rfl rfl) (r_d0 hd rfl) (a_X14_slotOf p0 p1 (r_d1 hd rfl) rp0 rp1 w t13 (fun x17 rx17 w => ?_))
        refine r_fI (pc1 := 71) rfl ?_
        have w := w rx17
        refine r_n (pc1 := 72) [.int (J (-1)), .int (J x17), rv 437] _ rfl rfl ?_
        obtain ⟨J19, j19, w⟩ := w
        have Q19 : ∀ (x18 : Int), rg x18 → J19 x18 → RR sc goal fs 317 98 [some (rv 437), some (.int (J p0)), some (.int (J p1)), some (.int (J p2)), some (.int (J p3)), some (.int (J p4)), some (.int (J x16)), none] [.int (J x18), rv 437] h13 := by
          intro x18 rx18 z19
          have w := j19 x18 rx18 z19
          refine r_n (pc1 := 99) [.int (J 3), .int (J x18), rv 437] _ rfl rfl ?_
          refine r_iv rfl rfl rfl rfl rfl rfl t13 (lyk t13 rfl) rfl (xe_of (xa_r (xa_i (xa_i xa_0))) rfl rfl) (r_d0 hd rfl) (a_X14_refused x18 3 (r_d1 hd rfl) rx18 (rgk rfl) w t13 (fun x20 h21 t21 u21 rx20 vx20 w => ?_))
          refine r_fI (pc1 := 102) rfl ?_
          have s21 := HX_trans s13 u21
          have w := w t21 u21
          have w := w rx20 vx20
          refine r_iz (t := 107) (pc1 := 105) rfl rfl rfl rx20 (fun c30 => ?_) (fun c30 => ?_)
          · have w := w.1 c30
            refine r_aldn (pc1 := 108) rfl rfl rfl ?_
            refine r_iv rfl rfl rfl rfl rfl rfl t21 (lyk t21 rfl) rfl (xe_of (xa_r xa_0) rfl rfl) (r_d0 hd rfl) (a_X14_record  (r_d1 hd rfl)  w t21 (fun h22 t22 u22 w => ?_))
            refine r_fV (pc1 := 111) rfl ?_
            have s22 := HX_trans s21 u22
            have w := w t22 u22
            refine r_aldn (pc1 := 112) rfl rfl rfl ?_
            refine r_gfC (pc1 := 115) (q := 438) rfl rfl rfl t22 (lyk t22 rfl) rfl rfl (lyR t22 rfl rfl) ?_
            refine r_n (pc1 := 116) [.int (J 4), rv 438] _ rfl rfl ?_
            refine r_ial (pc1 := 117) rfl rfl t22 (lyk t22 rfl) (rgk rfl) (by decide) (lt_len (lyn t22 rfl) (by decide)) ?_
            refine r_vI (rgh _ _ _) (fun x23 ex23 rx23 => ?_)
            have w := w x23 ex23 rx23
            refine r_ist (pc1 := 119) (ls1 := [some (rv 437), some (.int (J p0)), some (.int (J p1)), some (.int (J p2)), some (.int (J p3)), some (.int (J p4)), some (.int (J x16)), some (.int (J x23))]) rfl rfl rfl rfl ?_
            refine r_aldn (pc1 := 120) rfl rfl rfl ?_
            refine r_gfC (pc1 := 123) (q := 438) rfl rfl rfl t22 (lyk t22 rfl) rfl rfl (lyR t22 rfl rfl) ?_
            refine r_n (pc1 := 124) [.int (J 4), rv 438] _ rfl rfl ?_
            refine r_dup2 (pc1 := 125) rfl rfl ?_
            refine r_ial (pc1 := 126) rfl rfl t22 (lyk t22 rfl) (rgk rfl) (by decide) (lt_len (lyn t22 rfl) (by decide)) ?_
            refine r_n (pc1 := 127) [.int (J 1), .int (J (hI h22 438 4)), .int (J 4), rv 438] _ rfl rfl ?_
            refine r_iadd (pc1 := 128) rfl rfl ?_
            refine r_iast (pc1 := 129) rfl rfl t22 (lyk t22 rfl) (rgk rfl) (by decide) (lt_len (lyn t22 rfl) (by decide)) (fun h24 eh24 t24 u24 => ?_)
            have w := w h24 eh24 t24 u24
            have s24 := HX_trans s22 u24
            refine r_aldn (pc1 := 130) rfl rfl rfl ?_
            refine r_n (pc1 := 132) [.int (J x23), rv 437] _ rfl rfl ?_
            refine r_n (pc1 := 133) [.int (J 0), .int (J x23), rv 437] _ rfl rfl ?_
            refine r_n (pc1 := 134) [.int (J p0), .int (J 0), .int (J x23), rv 437] _ rfl rfl ?_
            refine r_iv rfl rfl rfl rfl rfl rfl t24 (lyk t24 rfl) rfl (xe_of (xa_r (xa_i (xa_i (xa_i xa_0)))) rfl rfl) (r_d0 hd rfl) (a_X14_put x23 0 p0 (r_d1 hd rfl) rx23 (rgk rfl) rp0 w t24 (fun h25 t25 u25 w => ?_))
            refine r_fV (pc1 := 137) rfl ?_
            have s25 := HX_trans s24 u25
            have w := w t25 u25
            refine r_aldn (pc1 := 138) rfl rfl rfl ?_
            refine r_n (pc1 := 140) [.int (J x23), rv 437] _ rfl rfl ?_
            refine r_n (pc1 := 141) [.int (J 1), .int (J x23), rv 437] _ rfl rfl ?_
            refine r_n (pc1 := 142) [.int (J p1), .int (J 1), .int (J x23), rv 437] _ rfl rfl ?_
            refine r_iv rfl rfl rfl rfl rfl rfl t25 (lyk t25 rfl) rfl (xe_of (xa_r (xa_i (xa_i (xa_i xa_0)))) rfl rfl) (r_d0 hd rfl) (a_X14_put x23 1 p1 (r_d1 hd rfl) rx23 (rgk rfl) rp1 w t25 (fun h26 t26 u26 w => ?_))
            refine r_fV (pc1 := 145) rfl ?_
            have s26 := HX_trans s25 u26
            have w := w t26 u26
            refine r_aldn (pc1 := 146) rfl rfl rfl ?_
            refine r_n (pc1 := 148) [.int (J x23), rv 437] _ rfl rfl ?_
            refine r_n (pc1 := 149) [.int (J 2), .int (J x23), rv 437] _ rfl rfl ?_
            refine r_n (pc1 := 150) [.int (J p2), .int (J 2), .int (J x23), rv 437] _ rfl rfl ?_
            refine r_iv rfl rfl rfl rfl rfl rfl t26 (lyk t26 rfl) rfl (xe_of (xa_r (xa_i (xa_i (xa_i xa_0)))) rfl rfl) (r_d0 hd rfl) (a_X14_put x23 2 p2 (r_d1 hd rfl) rx23 (rgk rfl) rp2 w t26 (fun h27 t27 u27 w => ?_))
            refine r_fV (pc1 := 153) rfl ?_
            have s27 := HX_trans s26 u27
            have w := w t27 u27
            refine r_aldn (pc1 := 154) rfl rfl rfl ?_
            refine r_n (pc1 := 156) [.int (J x23), rv 437] _ rfl rfl ?_
            refine r_n (pc1 := 157) [.int (J 3), .int (J x23), rv 437] _ rfl rfl ?_
            refine r_n (pc1 := 159) [.int (J p3), .int (J 3), .int (J x23), rv 437] _ rfl rfl ?_
            refine r_iv rfl rfl rfl rfl rfl rfl t27 (lyk t27 rfl) rfl (xe_of (xa_r (xa_i (xa_i (xa_i xa_0)))) rfl rfl) (r_d0 hd rfl) (a_X14_put x23 3 p3 (r_d1 hd rfl) rx23 (rgk rfl) rp3 w t27 (fun h28 t28 u28 w => ?_))
            refine r_fV (pc1 := 162) rfl ?_
            have s28 := HX_trans s27 u28
            have w := w t28 u28
            refine r_aldn (pc1 := 163) rfl rfl rfl ?_
            refine r_n (pc1 := 165) [.int (J x23), rv 437] _ rfl rfl ?_
            refine r_n (pc1 := 166) [.int (J 4), .int (J x23), rv 437] _ rfl rfl ?_
            refine r_n (pc1 := 168) [.int (J p4), .int (J 4), .int (J x23), rv 437] _ rfl rfl ?_
            refine r_iv rfl rfl rfl rfl rfl rfl t28 (lyk t28 rfl) rfl (xe_of (xa_r (xa_i (xa_i (xa_i xa_0)))) rfl rfl) (r_d0 hd rfl) (a_X14_put x23 4 p4 (r_d1 hd rfl) rx23 (rgk rfl) rp4 w t28 (fun h29 t29 u29 w => ?_))
            refine r_fV (pc1 := 171) rfl ?_
            have s29 := HX_trans s28 u29
            have w := w t29 u29
            refine r_n (pc1 := 173) [.int (J x16)] _ rfl rfl ?_
            refine r_n (pc1 := 174) [.int (J 1), .int (J x16)] _ rfl rfl ?_
            refine r_iadd (pc1 := 175) rfl rfl ?_
            exact r_retI rfl rfl rfl (k _ _ t29 s29 (rgw _) w)
          · have w := w.2 c30
            refine r_n (pc1 := 106) [.int (J 0)] _ rfl rfl ?_
            exact r_retI rfl rfl rfl (k _ _ t21 s21 (rgk rfl) w)
        obtain ⟨J31, j31, w⟩ := w
        have Q31 : J31 → RR sc goal fs 317 97 [some (rv 437), some (.int (J p0)), some (.int (J p1)), some (.int (J p2)), some (.int (J p3)), some (.int (J p4)), some (.int (J x16)), none] [rv 437] h13 := by
          intro z31
          have w := j31 z31
          refine r_n (pc1 := 98) [.int (J 0), rv 437] _ rfl rfl ?_
          exact Q19  0  (rgk rfl) w
        refine r_ic (t := 97) (pc1 := 75) rfl rfl rfl rx17 (rgk rfl) (fun c34 => ?_) (fun c34 => ?_)
        · have w := w.1 c34
          exact Q31     w
        · have w := w.2 c34
          refine r_n (pc1 := 77) [.int (J x16), rv 437] _ rfl rfl ?_
          refine r_n (pc1 := 79) [.int (J 8), .int (J x16), rv 437] _ rfl rfl ?_
          refine r_ic (t := 97) (pc1 := 82) rfl rfl rfl rx16 (rgk rfl) (fun c33 => ?_) (fun c33 => ?_)
          · have w := w.1 c33
            exact Q31     w
          · have w := w.2 c33
            refine r_aldn (pc1 := 83) rfl rfl rfl ?_
            refine r_gfC (pc1 := 86) (q := 438) rfl rfl rfl t13 (lyk t13 rfl) rfl rfl (lyR t13 rfl rfl) ?_
            refine r_n (pc1 := 87) [.int (J 4), rv 438, rv 437] _ rfl rfl ?_
            refine r_ial (pc1 := 88) rfl rfl t13 (lyk t13 rfl) (rgk rfl) (by decide) (lt_len (lyn t13 rfl) (by decide)) ?_
            refine r_n (pc1 := 90) [.int (J 40), .int (J (hI h13 438 4)), rv 437] _ rfl rfl ?_
            refine r_ic (t := 97) (pc1 := 93) rfl rfl rfl (rgh _ _ _) (rgk rfl) (fun c32 => ?_) (fun c32 => ?_)
            · have w := w.1 c32
              exact Q31     w
            · have w := w.2 c32
              refine r_n (pc1 := 94) [.int (J 1), rv 437] _ rfl rfl ?_
              refine r_goto (t := 98) rfl rfl ?_
              exact Q19  1  (rgk rfl) w
      · have w := w.2 c35
        exact Q6   h11 t11 s11  w
    obtain ⟨J36, j36, w⟩ := w
    have Q36 : J36 → RR sc goal fs 317 46 [some (rv 437), some (.int (J p0)), some (.int (J p1)), some (.int (J p2)), some (.int (J p3)), some (.int (J p4)), none, none] [rv 437] h4 := by
      intro z36
      have w := j36 z36
      refine r_n (pc1 := 47) [.int (J 0), rv 437] _ rfl rfl ?_
      exact Q9  0  (rgk rfl) w
    refine r_iz (t := 46) (pc1 := 26) rfl rfl rfl rx7 (fun c40 => ?_) (fun c40 => ?_)
    · have w := w.1 c40
      exact Q36     w
    · have w := w.2 c40
      refine r_n (pc1 := 27) [.int (J p2), rv 437] _ rfl rfl ?_
      refine r_iz (t := 46) (pc1 := 30) rfl rfl rfl rp2 (fun c39 => ?_) (fun c39 => ?_)
      · have w := w.1 c39
        exact Q36     w
      · have w := w.2 c39
        refine r_n (pc1 := 32) [.int (J p3), rv 437] _ rfl rfl ?_
        refine r_n (pc1 := 33) [.int (J 0), .int (J p3), rv 437] _ rfl rfl ?_
        refine r_n (pc1 := 36) [.int (J 1000), .int (J 0), .int (J p3), rv 437] _ rfl rfl ?_
        refine r_iq rfl rfl rfl rfl rfl rfl (xe_of (xa_i (xa_i (xa_i xa_0))) rfl rfl) (r_d0 hd rfl) (a_X14_within p3 0 1000 (r_d1 hd rfl) rp3 (rgk rfl) (rgk rfl) w t4 (fun x37 rx37 vx37 w => ?_))
        refine r_fI (pc1 := 39) rfl ?_
        have w := w rx37 vx37
        refine r_iz (t := 46) (pc1 := 42) rfl rfl rfl rx37 (fun c38 => ?_) (fun c38 => ?_)
        · have w := w.1 c38
          exact Q36     w
        · have w := w.2 c38
          refine r_n (pc1 := 43) [.int (J 1), rv 437] _ rfl rfl ?_
          refine r_goto (t := 47) rfl rfl ?_
          exact Q9  1  (rgk rfl) w
