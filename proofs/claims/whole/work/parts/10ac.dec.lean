/-! printed by dec.py: what each method wants, and that the machine keeps it -/ 
def w_X5_readRange  (K : Nat → XH → Prop) (h : XH) : Prop :=
  (w_X5_readSpan (fun a1 h2 => HT h2 → HX h h2 → ((∃ (I6 : Nat → Int → XH → Prop) (m6 : Nat → Int → XH → Nat), I6 a1 0 h2 ∧ ∀ (a3 : Nat) (x4 : Int) (h5 : XH), HT h5 → HX h h5 → rg x4 → I6 a3 x4 h5 → (∃ J7 : Prop, (J7 → (∃ J9 : Nat → Prop, (∀ (a8 : Nat), J9 a8 → (K a8 h5)) ∧ ((¬ a3 = 0 → (J9 a1)) ∧ (¬ (¬ a3 = 0) → (J9 0))))) ∧ ((200 ≤ x4 → J7) ∧ (¬ (200 ≤ x4) → (((a3 = 0 → J7) ∧ (¬ (a3 = 0) → (w_X5_isNext 44 (fun x11 => rg x11 → (x11 = 0 ∨ x11 = 1) → (((x11 = 0 → J7) ∧ (¬ (x11 = 0) → (∀ h12 : XH, h12 = sI h5 3 7 (wr ((hI h5 3 7) + 1)) → HT h12 → HX h5 h12 → w_X5_readSpan (fun a13 h14 => HT h14 → HX h12 h14 → (hk h14 a3 = 11 ∧ ∀ h16 : XH, h16 = sR h14 a3 5 a13 → HT h16 → HX h14 h16 → ∀ a17 : Nat, a17 = hR h16 a3 5 → ∀ x18 : Int, x18 = wr (x4 + 1) → rg x18 → (I6 a17 x18 h16 ∧ m6 a17 x18 h16 < m6 a3 x4 h5))) h12))))) h5)))))))))) h)
set_option maxHeartbeats 4000000 in
theorem a_X5_readRange {sc : Nat × (Nat → Int32)} {goal : XO → XH → Prop} {fs : List XF} {h : XH}  {K : Nat → XH → Prop} (hd : fs.length + 3 ≤ 1000) (w : w_X5_readRange  K h) (t0 : HT h) (k : ∀ (r : Nat) (h1 : XH), HT h1 → HX h h1 → K r h1 → XFin xP sc goal fs (.inl (some (rv r))) h1) : RR sc goal fs 409 0 [some (rv 3), none, none, none] [] h := by
  unfold w_X5_readRange at w
  refine r_aldn (pc1 := 1) rfl rfl rfl ?_
  refine r_iv rfl rfl rfl rfl rfl rfl t0 (lyk t0 rfl) rfl (xe_of (xa_r xa_0) rfl rfl) (r_d0 hd rfl) (a_X5_readSpan  (r_d1 hd rfl)  w t0 (fun a1 h2 t2 u2 w => ?_))
  refine r_fR (pc1 := 4) rfl ?_
  have s2 := HX_trans (HX_refl h) u2
  have w := w t2 u2
  refine r_astn (pc1 := 5) (ls1 := [some (rv 3), some (rv a1), none, none]) rfl rfl rfl rfl ?_
  refine r_aldn (pc1 := 6) rfl rfl rfl ?_
  refine r_astn (pc1 := 7) (ls1 := [some (rv 3), some (rv a1), some (rv a1), none]) rfl rfl rfl (xput1_rv rfl rfl) ?_
  refine r_n (pc1 := 8) [.int (J 0)] _ rfl rfl ?_
  refine r_istn (pc1 := 9) (ls1 := [some (rv 3), some (rv a1), some (rv a1), some (.int (J 0))]) rfl rfl rfl (xput1_rv rfl rfl) ?_
  obtain ⟨I6, m6, w, y6⟩ := w
  have Q6 : ∀ (n : Nat)  (a3 : Nat) (x4 : Int) (h5 : XH), HT h5 → HX h h5 → rg x4 → m6 a3 x4 h5 < n → I6 a3 x4 h5 → RR sc goal fs 409 9 [some (rv 3), some (rv a1), some (rv a3), some (.int (J x4))] [] h5 := by
    intro n
    induction n with
    | zero => intro a3 x4 h5 t5 s5 rx4 q6 _; exact absurd q6 (Nat.not_lt_zero _)
    | succ n ih6 =>
      intro a3 x4 h5 t5 s5 rx4 q6 z6
      have w := y6 a3 x4 h5 t5 s5 rx4 z6
      refine r_n (pc1 := 10) [.int (J x4)] _ rfl rfl ?_
      refine r_n (pc1 := 13) [.int (J 200), .int (J x4)] _ rfl rfl ?_
      obtain ⟨J7, j7, w⟩ := w
      have Q7 : J7 → RR sc goal fs 409 58 [some (rv 3), some (rv a1), some (rv a3), some (.int (J x4))] [] h5 := by
        intro z7
        have w := j7 z7
        refine r_aldn (pc1 := 59) rfl rfl rfl ?_
        obtain ⟨J9, j9, w⟩ := w
        have Q9 : ∀ (a8 : Nat), J9 a8 → RR sc goal fs 409 67 [some (rv 3), some (rv a1), some (rv a3), some (.int (J x4))] [rv a8] h5 := by
          intro a8 z9
          have w := j9 a8 z9
          exact r_retR rfl rfl rfl xok_O xokr_O (k _ _ t5 s5 w)
        refine r_nonnull (t := 66) (pc1 := 62) rfl rfl rfl (fun c10 => ?_) (fun c10 => ?_)
        · have w := w.1 c10
          refine r_aldn (pc1 := 67) rfl rfl rfl ?_
          exact Q9  a1   w
        · have w := w.2 c10
          refine r_n (pc1 := 63) [rv 0] _ rfl rfl ?_
          refine r_goto (t := 67) rfl rfl ?_
          exact Q9  0   w
      refine r_ic (t := 58) (pc1 := 16) rfl rfl rfl rx4 (rgk rfl) (fun c21 => ?_) (fun c21 => ?_)
      · have w := w.1 c21
        exact Q7     w
      · have w := w.2 c21
        refine r_aldn (pc1 := 17) rfl rfl rfl ?_
        refine r_null (t := 58) (pc1 := 20) rfl rfl rfl (fun c20 => ?_) (fun c20 => ?_)
        · have w := w.1 c20
          exact Q7     w
        · have w := w.2 c20
          refine r_aldn (pc1 := 21) rfl rfl rfl ?_
          refine r_n (pc1 := 23) [.int (J 44), rv 3] _ rfl rfl ?_
          refine r_iv rfl rfl rfl rfl rfl rfl t5 (lyk t5 rfl) rfl (xe_of (xa_r (xa_i xa_0)) rfl rfl) (r_d0 hd rfl) (a_X5_isNext 44 (r_d1 hd rfl) (rgk rfl) w t5 (fun x11 rx11 vx11 w => ?_))
          refine r_fI (pc1 := 26) rfl ?_
          have w := w rx11 vx11
          refine r_iz (t := 58) (pc1 := 29) rfl rfl rfl rx11 (fun c19 => ?_) (fun c19 => ?_)
          · have w := w.1 c19
            exact Q7     w
          · have w := w.2 c19
            refine r_aldn (pc1 := 30) rfl rfl rfl ?_
            refine r_dupR (pc1 := 31) rfl rfl ?_
            refine r_gfI (pc1 := 34) rfl rfl rfl t5 (lyk t5 rfl) rfl rfl ?_
            refine r_n (pc1 := 35) [.int (J 1), .int (J (hI h5 3 7)), rv 3] _ rfl rfl ?_
            refine r_iadd (pc1 := 36) rfl rfl ?_
            refine r_pfI (pc1 := 39) rfl rfl rfl t5 (lyk t5 rfl) rfl rfl rfl (fun h12 eh12 t12 u12 => ?_)
            have w := w h12 eh12 t12 u12
            have s12 := HX_trans s5 u12
            refine r_aldn (pc1 := 40) rfl rfl rfl ?_
            refine r_aldn (pc1 := 41) rfl rfl rfl ?_
            refine r_iv rfl rfl rfl rfl rfl rfl t12 (lyk t12 rfl) rfl (xe_of (xa_r xa_0) rfl rfl) (r_d0 hd rfl) (a_X5_readSpan  (r_d1 hd rfl)  w t12 (fun a13 h14 t14 u14 w => ?_))
            refine r_fR (pc1 := 44) rfl ?_
            have s14 := HX_trans s12 u14
            have w := w t14 u14
            obtain ⟨c15, w⟩ := w
            refine r_pfO (pc1 := 47) rfl rfl rfl t14 c15 rfl rfl rfl (fun h16 eh16 t16 u16 => ?_)
            have w := w h16 eh16 t16 u16
            have s16 := HX_trans s14 u16
            refine r_aldn (pc1 := 48) rfl rfl rfl ?_
            refine r_gfR (pc1 := 51) rfl rfl rfl t16 (HXk u16 c15 rfl) rfl rfl ?_
            refine r_vR (fun a17 ea17 => ?_)
            have w := w a17 ea17
            refine r_astn (pc1 := 52) (ls1 := [some (rv 3), some (rv a1), some (rv a17), some (.int (J x4))]) rfl rfl rfl (xput1_rv rfl rfl) ?_
            refine r_inc (pc1 := 55) (g := fun zz => [some (rv 3), some (rv a1), some (rv a17), some (.int (J zz))]) rfl rfl rfl rfl (fun _ => xput1_rv rfl rfl) (fun x18 ex18 rx18 => ?_)
            have w := w x18 ex18 rx18
            refine r_goto (t := 9) rfl rfl ?_
            exact ih6  a17 x18 h16 t16 s16 rx18 (Nat.lt_of_lt_of_le w.2 (Nat.le_of_lt_succ q6)) w.1
  exact Q6 _  a1 0 h2 t2 s2 (rgk rfl) (Nat.lt_succ_self _) w
def w_X0_init (t : Nat) (p0 : Int) (p1 : Int) (p2 : Nat) (K : XH → Prop) (h : XH) : Prop :=
  (∀ h1 : XH, h1 = sI h t 0 p0 → HT h1 → HX h h1 → (p1 = 0 ∨ p1 = 1) ∧ ∀ h3 : XH, h3 = sI h1 t 1 p1 → HT h3 → HX h1 h3 → ∀ h4 : XH, h4 = sR h3 t 2 p2 → HT h4 → HX h3 h4 → K h4)
set_option maxHeartbeats 4000000 in
theorem a_X0_init {sc : Nat × (Nat → Int32)} {goal : XO → XH → Prop} {fs : List XF} {h : XH} (t : Nat) (p0 : Int) (p1 : Int) (p2 : Nat) {K : XH → Prop} (hd : fs.length + 0 ≤ 1000) (c0 : hk h t = 1) (rp0 : rg p0) (rp1 : rg p1) (w : w_X0_init t p0 p1 p2 K h) (t0 : HT h) (k : ∀ (h1 : XH), HT h1 → HX h h1 → K h1 → XFin xP sc goal fs (.inl none) h1) : RR sc goal fs 71 0 [some (rv t), some (.int (J p0)), some (.int (J p1)), some (rv p2)] [] h := by
  unfold w_X0_init at w
  refine r_aldn (pc1 := 1) rfl rfl rfl ?_
  refine r_i7 (pc1 := 4) rfl rfl rfl t0 (HXk (HX_refl h) c0 rfl) rfl rfl ?_
  refine r_aldn (pc1 := 5) rfl rfl rfl ?_
  refine r_n (pc1 := 6) [.int (J p0), rv t] _ rfl rfl ?_
  refine r_pfI (pc1 := 9) rfl rfl rfl t0 (HXk (HX_refl h) c0 rfl) rfl rfl rfl (fun h1 eh1 t1 u1 => ?_)
  have w := w h1 eh1 t1 u1
  have s1 := HX_trans (HX_refl h) u1
  refine r_aldn (pc1 := 10) rfl rfl rfl ?_
  refine r_n (pc1 := 11) [.int (J p1), rv t] _ rfl rfl ?_
  obtain ⟨c2, w⟩ := w
  refine r_pfB (pc1 := 14) rfl rfl rfl t1 (HXk s1 c0 rfl) rfl rfl rfl c2 (fun h3 eh3 t3 u3 => ?_)
  have w := w h3 eh3 t3 u3
  have s3 := HX_trans s1 u3
  refine r_aldn (pc1 := 15) rfl rfl rfl ?_
  refine r_aldn (pc1 := 16) rfl rfl rfl ?_
  refine r_pfO (pc1 := 19) rfl rfl rfl t3 (HXk s3 c0 rfl) rfl rfl rfl (fun h4 eh4 t4 u4 => ?_)
  have w := w h4 eh4 t4 u4
  have s4 := HX_trans s3 u4
  exact r_retV rfl rfl rfl (k _ t4 s4 w)
def w_X5_readAtom (p0 : Int) (K : Nat → XH → Prop) (h : XH) : Prop :=
  (w_X5_pass 2 (fun x1 h2 => HT h2 → HX h h2 → rg x1 → (((¬ x1 = (-1) → (∃ J4 : Int → Prop, (∀ (x3 : Int), rg x3 → J4 x3 → (∃ J6 : Int → Prop, (∀ (x5 : Int), rg x5 → J6 x5 → (∀ h7 : XH, h7 = sI h2 3 7 (wr ((hI h2 3 7) + x5)) → HT h7 → HX h2 h7 → w_X5_isNext 42 (fun x8 => rg x8 → (x8 = 0 ∨ x8 = 1) → (∃ J10 : Int → Prop, (∀ (x9 : Int), rg x9 → J10 x9 → (∃ J13 : Nat → XH → Prop, (∀ (a11 : Nat) (h12 : XH), HT h12 → HX h h12 → J13 a11 h12 → (∃ J16 : Nat → XH → Prop, (∀ (a14 : Nat) (h15 : XH), HT h15 → HX h h15 → J16 a14 h15 → (K a14 h15)) ∧ ((¬ a11 = 0 → (∀ (a17 : Nat) (h18 : XH), a17 = h12.length → h18 = nO h12 1 → HT h18 → HX h12 h18 → hk h18 a17 = 1 → w_X0_init a17 x1 x3 a11 (fun h19 => HT h19 → HX h18 h19 → J16 a17 h19) h18)) ∧ (¬ (¬ a11 = 0) → (J16 0 h12))))) ∧ ((x9 = 0 → (w_X10_any (fun a21 h22 => HT h22 → HX h7 h22 → J13 a21 h22) h7)) ∧ (¬ (x9 = 0) → (w_X5_readRange (fun a23 h24 => HT h24 → HX h7 h24 → (J13 a23 h24)) h7))))) ∧ ∃ J26 : Prop, (J26 → (J10 1)) ∧ ((¬ x8 = 0 → J26) ∧ (¬ (¬ x8 = 0) → (w_X5_isNext 3 (fun x27 => rg x27 → (x27 = 0 ∨ x27 = 1) → (((¬ x27 = 0 → J26) ∧ (¬ (¬ x27 = 0) → (∀ x28 : Int, x28 = hI h7 3 7 → rg x28 → (0 ≤ x28 ∧ x28 < 201) ∧ w_X5_isSpanSign (hI h7 5 x28.toNat) (fun x30 => rg x30 → (x30 = 0 ∨ x30 = 1) → (((x30 = 0 → (J10 0)) ∧ (¬ (x30 = 0) → J26)))) h7))))) h7))))) h7)) ∧ ((x3 = 0 → (J6 0)) ∧ (¬ (x3 = 0) → (J6 1))))) ∧ ∃ J35 : Prop, (J35 → (J4 0)) ∧ ((p0 = 0 → J35) ∧ (¬ (p0 = 0) → (w_X5_isNext 35 (fun x36 => rg x36 → (x36 = 0 ∨ x36 = 1) → (((x36 = 0 → J35) ∧ (¬ (x36 = 0) → (J4 1))))) h2))))) ∧ (¬ (¬ x1 = (-1)) → (K 0 h2))))) h)
set_option maxHeartbeats 4000000 in
theorem a_X5_readAtom {sc : Nat × (Nat → Int32)} {goal : XO → XH → Prop} {fs : List XF} {h : XH} (p0 : Int) {K : Nat → XH → Prop} (hd : fs.length + 4 ≤ 1000) (rp0 : rg p0) (w : w_X5_readAtom p0 K h) (t0 : HT h) (k : ∀ (r : Nat) (h1 : XH), HT h1 → HX h h1 → K r h1 → XFin xP sc goal fs (.inl (some (rv r))) h1) : RR sc goal fs 407 0 [some (rv 3), some (.int (J p0)), none, none, none, none] [] h := by
  unfold w_X5_readAtom at w
  refine r_aldn (pc1 := 1) rfl rfl rfl ?_
  refine r_n (pc1 := 2) [.int (J 2), rv 3] _ rfl rfl ?_
  refine r_iv rfl rfl rfl rfl rfl rfl t0 (lyk t0 rfl) rfl (xe_of (xa_r (xa_i xa_0)) rfl rfl) (r_d0 hd rfl) (a_X5_pass 2 (r_d1 hd rfl) (rgk rfl) w t0 (fun x1 h2 t2 u2 rx1 w => ?_))
  refine r_fI (pc1 := 5) rfl ?_
  have s2 := HX_trans (HX_refl h) u2
  have w := w t2 u2
  have w := w rx1
  refine r_istn (pc1 := 6) (ls1 := [some (rv 3), some (.int (J p0)), some (.int (J x1)), none, none, none]) rfl rfl rfl rfl ?_
  refine r_n (pc1 := 7) [.int (J x1)] _ rfl rfl ?_
  refine r_n (pc1 := 8) [.int (J (-1)), .int (J x1)] _ rfl rfl ?_
  refine r_ic (t := 13) (pc1 := 11) rfl rfl rfl rx1 (rgk rfl) (fun c39 => ?_) (fun c39 => ?_)
  · have w := w.1 c39
    refine r_n (pc1 := 14) [.int (J p0)] _ rfl rfl ?_
    obtain ⟨J4, j4, w⟩ := w
    have Q4 : ∀ (x3 : Int), rg x3 → J4 x3 → RR sc goal fs 407 31 [some (rv 3), some (.int (J p0)), some (.int (J x1)), none, none, none] [.int (J x3)] h2 := by
      intro x3 rx3 z4
      have w := j4 x3 rx3 z4
      refine r_istn (pc1 := 32) (ls1 := [some (rv 3), some (.int (J p0)), some (.int (J x1)), some (.int (J x3)), none, none]) rfl rfl rfl rfl ?_
      refine r_aldn (pc1 := 33) rfl rfl rfl ?_
      refine r_dupR (pc1 := 34) rfl rfl ?_
      refine r_gfI (pc1 := 37) rfl rfl rfl t2 (lyk t2 rfl) rfl rfl ?_
      refine r_n (pc1 := 38) [.int (J x3), .int (J (hI h2 3 7)), rv 3] _ rfl rfl ?_
      obtain ⟨J6, j6, w⟩ := w
      have Q6 : ∀ (x5 : Int), rg x5 → J6 x5 → RR sc goal fs 407 46 [some (rv 3), some (.int (J p0)), some (.int (J x1)), some (.int (J x3)), none, none] [.int (J x5), .int (J (hI h2 3 7)), rv 3] h2 := by
        intro x5 rx5 z6
        have w := j6 x5 rx5 z6
        refine r_iadd (pc1 := 47) rfl rfl ?_
        refine r_pfI (pc1 := 50) rfl rfl rfl t2 (lyk t2 rfl) rfl rfl rfl (fun h7 eh7 t7 u7 => ?_)
        have w := w h7 eh7 t7 u7
        have s7 := HX_trans s2 u7
        refine r_aldn (pc1 := 51) rfl rfl rfl ?_
        refine r_n (pc1 := 53) [.int (J 42), rv 3] _ rfl rfl ?_
        refine r_iv rfl rfl rfl rfl rfl rfl t7 (lyk t7 rfl) rfl (xe_of (xa_r (xa_i xa_0)) rfl rfl) (r_d0 hd rfl) (a_X5_isNext 42 (r_d1 hd rfl) (rgk rfl) w t7 (fun x8 rx8 vx8 w => ?_))
        refine r_fI (pc1 := 56) rfl ?_
        have w := w rx8 vx8
        obtain ⟨J10, j10, w⟩ := w
        have Q10 : ∀ (x9 : Int), rg x9 → J10 x9 → RR sc goal fs 407 87 [some (rv 3), some (.int (J p0)), some (.int (J x1)), some (.int (J x3)), none, none] [.int (J x9)] h7 := by
          intro x9 rx9 z10
          have w := j10 x9 rx9 z10
          refine r_ist (pc1 := 89) (ls1 := [some (rv 3), some (.int (J p0)), some (.int (J x1)), some (.int (J x3)), some (.int (J x9)), none]) rfl rfl rfl rfl ?_
          refine r_n (pc1 := 91) [.int (J x9)] _ rfl rfl ?_
          obtain ⟨J13, j13, w⟩ := w
          have Q13 : ∀ (a11 : Nat) (h12 : XH), HT h12 → HX h h12 → J13 a11 h12 → RR sc goal fs 407 104 [some (rv 3), some (.int (J p0)), some (.int (J x1)), some (.int (J x3)), some (.int (J x9)), none] [rv a11] h12 := by
            intro a11 h12 t12 s12 z13
            have w := j13 a11 h12 t12 s12 z13
            refine r_ast (pc1 := 106) (ls1 := [some (rv 3), some (.int (J p0)), some (.int (J x1)), some (.int (J x3)), some (.int (J x9)), some (rv a11)]) rfl rfl rfl rfl ?_
            refine r_ald (pc1 := 108) rfl rfl rfl ?_
            obtain ⟨J16, j16, w⟩ := w
            have Q16 : ∀ (a14 : Nat) (h15 : XH), HT h15 → HX h h15 → J16 a14 h15 → RR sc goal fs 407 126 [some (rv 3), some (.int (J p0)), some (.int (J x1)), some (.int (J x3)), some (.int (J x9)), some (rv a11)] [rv a14] h15 := by
              intro a14 h15 t15 s15 z16
              have w := j16 a14 h15 t15 s15 z16
              exact r_retR rfl rfl rfl xok_O xokr_O (k _ _ t15 s15 w)
            refine r_nonnull (t := 115) (pc1 := 111) rfl rfl rfl (fun c20 => ?_) (fun c20 => ?_)
            · have w := w.1 c20
              refine r_new (pc1 := 118) rfl rfl rfl t12 (by decide) (fun a17 h18 ea17 eh18 t18 u18 ca17 => ?_)
              have w := w a17 h18 ea17 eh18 t18 u18 ca17
              have s18 := HX_trans s12 u18
              refine r_dupR (pc1 := 119) rfl rfl ?_
              refine r_n (pc1 := 120) [.int (J x1), rv a17, rv a17] _ rfl rfl ?_
              refine r_n (pc1 := 121) [.int (J x3), .int (J x1), rv a17, rv a17] _ rfl rfl ?_
              refine r_ald (pc1 := 123) rfl rfl rfl ?_
              refine r_ip rfl rfl rfl rfl rfl rfl t18 ca17 rfl (xe_of (xa_r (xa_i (xa_i (xa_r xa_0)))) rfl rfl) (r_d0 hd rfl) (a_X0_init a17 x1 x3 a11 (r_d1 hd rfl) ca17 rx1 rx3 w t18 (fun h19 t19 u19 w => ?_))
              refine r_fV (pc1 := 126) rfl ?_
              have s19 := HX_trans s18 u19
              have w := w t19 u19
              exact Q16  a17 h19 t19 s19  w
            · have w := w.2 c20
              refine r_n (pc1 := 112) [rv 0] _ rfl rfl ?_
              refine r_goto (t := 126) rfl rfl ?_
              exact Q16  0 h12 t12 s12  w
          refine r_iz (t := 101) (pc1 := 94) rfl rfl rfl rx9 (fun c25 => ?_) (fun c25 => ?_)
          · have w := w.1 c25
            refine r_iq rfl rfl rfl rfl rfl rfl (xe_of xa_0 rfl rfl) (r_d0 hd rfl) (a_X10_any  (r_d1 hd rfl)  w t7 (fun a21 h22 t22 u22 w => ?_))
            refine r_fR (pc1 := 104) rfl ?_
            have s22 := HX_trans s7 u22
            have w := w t22 u22
            exact Q13  a21 h22 t22 s22  w
          · have w := w.2 c25
            refine r_aldn (pc1 := 95) rfl rfl rfl ?_
            refine r_iv rfl rfl rfl rfl rfl rfl t7 (lyk t7 rfl) rfl (xe_of (xa_r xa_0) rfl rfl) (r_d0 hd rfl) (a_X5_readRange  (r_d1 hd rfl)  w t7 (fun a23 h24 t24 u24 w => ?_))
            refine r_fR (pc1 := 98) rfl ?_
            have s24 := HX_trans s7 u24
            have w := w t24 u24
            refine r_goto (t := 104) rfl rfl ?_
            exact Q13  a23 h24 t24 s24  w
        obtain ⟨J26, j26, w⟩ := w
        have Q26 : J26 → RR sc goal fs 407 82 [some (rv 3), some (.int (J p0)), some (.int (J x1)), some (.int (J x3)), none, none] [] h7 := by
          intro z26
          have w := j26 z26
          refine r_n (pc1 := 83) [.int (J 1)] _ rfl rfl ?_
          refine r_goto (t := 87) rfl rfl ?_
          exact Q10  1  (rgk rfl) w
        refine r_iz (t := 82) (pc1 := 59) rfl rfl rfl rx8 (fun c33 => ?_) (fun c33 => ?_)
        · have w := w.1 c33
          exact Q26     w
        · have w := w.2 c33
          refine r_aldn (pc1 := 60) rfl rfl rfl ?_
          refine r_n (pc1 := 61) [.int (J 3), rv 3] _ rfl rfl ?_
          refine r_iv rfl rfl rfl rfl rfl rfl t7 (lyk t7 rfl) rfl (xe_of (xa_r (xa_i xa_0)) rfl rfl) (r_d0 hd rfl) (a_X5_isNext 3 (r_d1 hd rfl) (rgk rfl) w t7 (fun x27 rx27 vx27 w => ?_))
          refine r_fI (pc1 := 64) rfl ?_
          have w := w rx27 vx27
          refine r_iz (t := 82) (pc1 := 67) rfl rfl rfl rx27 (fun c32 => ?_) (fun c32 => ?_)
          · have w := w.1 c32
            exact Q26     w
          · have w := w.2 c32
            refine r_aldn (pc1 := 68) rfl rfl rfl ?_
            refine r_gfC (pc1 := 71) (q := 5) rfl rfl rfl t7 (lyk t7 rfl) rfl rfl (lyR t7 rfl rfl) ?_
            refine r_aldn (pc1 := 72) rfl rfl rfl ?_
            refine r_gfI (pc1 := 75) rfl rfl rfl t7 (lyk t7 rfl) rfl rfl ?_
            refine r_vI (rgh _ _ _) (fun x28 ex28 rx28 => ?_)
            have w := w x28 ex28 rx28
            obtain ⟨c29, w⟩ := w
            refine r_ial (pc1 := 76) rfl rfl t7 (lyk t7 rfl) rx28 c29.1 (lt_len (lyn t7 rfl) c29.2) ?_
            refine r_iq rfl rfl rfl rfl rfl rfl (xe_of (xa_i xa_0) rfl rfl) (r_d0 hd rfl) (a_X5_isSpanSign (hI h7 5 x28.toNat) (r_d1 hd rfl) (rgh _ _ _) w t7 (fun x30 rx30 vx30 w => ?_))
            refine r_fI (pc1 := 79) rfl ?_
            have w := w rx30 vx30
            refine r_iz (t := 86) (pc1 := 82) rfl rfl rfl rx30 (fun c31 => ?_) (fun c31 => ?_)
            · have w := w.1 c31
              refine r_n (pc1 := 87) [.int (J 0)] _ rfl rfl ?_
              exact Q10  0  (rgk rfl) w
            · have w := w.2 c31
              exact Q26     w
      refine r_iz (t := 45) (pc1 := 41) rfl rfl rfl rx3 (fun c34 => ?_) (fun c34 => ?_)
      · have w := w.1 c34
        refine r_n (pc1 := 46) [.int (J 0), .int (J (hI h2 3 7)), rv 3] _ rfl rfl ?_
        exact Q6  0  (rgk rfl) w
      · have w := w.2 c34
        refine r_n (pc1 := 42) [.int (J 1), .int (J (hI h2 3 7)), rv 3] _ rfl rfl ?_
        refine r_goto (t := 46) rfl rfl ?_
        exact Q6  1  (rgk rfl) w
    obtain ⟨J35, j35, w⟩ := w
    have Q35 : J35 → RR sc goal fs 407 30 [some (rv 3), some (.int (J p0)), some (.int (J x1)), none, none, none] [] h2 := by
      intro z35
      have w := j35 z35
      refine r_n (pc1 := 31) [.int (J 0)] _ rfl rfl ?_
      exact Q4  0  (rgk rfl) w
    refine r_iz (t := 30) (pc1 := 17) rfl rfl rfl rp0 (fun c38 => ?_) (fun c38 => ?_)
    · have w := w.1 c38
      exact Q35     w
    · have w := w.2 c38
      refine r_aldn (pc1 := 18) rfl rfl rfl ?_
      refine r_n (pc1 := 20) [.int (J 35), rv 3] _ rfl rfl ?_
      refine r_iv rfl rfl rfl rfl rfl rfl t2 (lyk t2 rfl) rfl (xe_of (xa_r (xa_i xa_0)) rfl rfl) (r_d0 hd rfl) (a_X5_isNext 35 (r_d1 hd rfl) (rgk rfl) w t2 (fun x36 rx36 vx36 w => ?_))
      refine r_fI (pc1 := 23) rfl ?_
      have w := w rx36 vx36
      refine r_iz (t := 30) (pc1 := 26) rfl rfl rfl rx36 (fun c37 => ?_) (fun c37 => ?_)
      · have w := w.1 c37
        exact Q35     w
      · have w := w.2 c37
        refine r_n (pc1 := 27) [.int (J 1)] _ rfl rfl ?_
        refine r_goto (t := 31) rfl rfl ?_
        exact Q4  1  (rgk rfl) w
  · have w := w.2 c39
    refine r_n (pc1 := 12) [rv 0] _ rfl rfl ?_
    exact r_retR rfl rfl rfl xok_O xokr_O (k _ _ t2 s2 w)
def w_X5_readNeed (p0 : Int) (p1 : Int) (K : Nat → XH → Prop) (h : XH) : Prop :=
  (w_X5_findTokens p0 (fun h1 => HT h1 → HX h h1 → (∃ J3 : Int → Prop, (∀ (x2 : Int), rg x2 → J3 x2 → (w_X5_readAtom x2 (fun a4 h5 => HT h5 → HX h1 h5 → (∃ J7 : Int → Prop, (∀ (x6 : Int), rg x6 → J7 x6 → ((∃ (I11 : Nat → Int → XH → Prop) (m11 : Nat → Int → XH → Nat), I11 a4 0 h5 ∧ ∀ (a8 : Nat) (x9 : Int) (h10 : XH), HT h10 → HX h h10 → rg x9 → I11 a8 x9 h10 → (∃ J12 : Prop, (J12 → (w_X5_pass 0 (fun x13 h14 => HT h14 → HX h10 h14 → rg x13 → (∀ h15 : XH, h15 = sI h14 3 1 0 → HT h15 → HX h14 h15 → ∃ J17 : Nat → Prop, (∀ (a16 : Nat), J17 a16 → (K a16 h15)) ∧ ((¬ hI h15 3 2 = (-1) → (J17 0)) ∧ (¬ (¬ hI h15 3 2 = (-1)) → (J17 a4))))) h10)) ∧ ((200 ≤ x9 → J12) ∧ (¬ (200 ≤ x9) → (((x6 = 0 → J12) ∧ (¬ (x6 = 0) → (((a8 = 0 → J12) ∧ (¬ (a8 = 0) → (w_X5_isNext 124 (fun x19 => rg x19 → (x19 = 0 ∨ x19 = 1) → (((x19 = 0 → J12) ∧ (¬ (x19 = 0) → (∀ h20 : XH, h20 = sI h10 3 7 (wr ((hI h10 3 7) + 1)) → HT h20 → HX h10 h20 → w_X5_readAtom 0 (fun a21 h22 => HT h22 → HX h20 h22 → (hk h22 a8 = 1 ∧ ∀ h24 : XH, h24 = sR h22 a8 3 a21 → HT h24 → HX h22 h24 → ∀ a25 : Nat, a25 = hR h24 a8 3 → ∀ x26 : Int, x26 = wr (x9 + 1) → rg x26 → (I11 a25 x26 h24 ∧ m11 a25 x26 h24 < m11 a8 x9 h10))) h20))))) h10))))))))))))) ∧ ∃ J31 : Prop, (J31 → (J7 0)) ∧ ((¬ p1 = 0 → J31) ∧ (¬ (¬ p1 = 0) → (((a4 = 0 → J31) ∧ (¬ (a4 = 0) → (hk h5 a4 = 1 ∧ ((¬ hI h5 a4 1 = 0 → J31) ∧ (¬ (¬ hI h5 a4 1 = 0) → (J7 1))))))))))) h1)) ∧ ((¬ p1 = 0 → (J3 0)) ∧ (¬ (¬ p1 = 0) → (J3 1))))) h)
set_option maxHeartbeats 4000000 in
theorem a_X5_readNeed {sc : Nat × (Nat → Int32)} {goal : XO → XH → Prop} {fs : List XF} {h : XH} (p0 : Int) (p1 : Int) {K : Nat → XH → Prop} (hd : fs.length + 5 ≤ 1000) (rp0 : rg p0) (rp1 : rg p1) (w : w_X5_readNeed p0 p1 K h) (t0 : HT h) (k : ∀ (r : Nat) (h1 : XH), HT h1 → HX h h1 → K r h1 → XFin xP sc goal fs (.inl (some (rv r))) h1) : RR sc goal fs 408 0 [some (rv 3), some (.int (J p0)), some (.int (J p1)), none, none, none, none] [] h := by
  unfold w_X5_readNeed at w
  refine r_aldn (pc1 := 1) rfl rfl rfl ?_
  refine r_n (pc1 := 2) [.int (J p0), rv 3] _ rfl rfl ?_
  refine r_iv rfl rfl rfl rfl rfl rfl t0 (lyk t0 rfl) rfl (xe_of (xa_r (xa_i xa_0)) rfl rfl) (r_d0 hd rfl) (a_X5_findTokens p0 (r_d1 hd rfl) rp0 w t0 (fun h1 t1 u1 w => ?_))
  refine r_fV (pc1 := 5) rfl ?_
  have s1 := HX_trans (HX_refl h) u1
  have w := w t1 u1
  refine r_aldn (pc1 := 6) rfl rfl rfl ?_
  refine r_n (pc1 := 7) [.int (J p1), rv 3] _ rfl rfl ?_
  obtain ⟨J3, j3, w⟩ := w
  have Q3 : ∀ (x2 : Int), rg x2 → J3 x2 → RR sc goal fs 408 15 [some (rv 3), some (.int (J p0)), some (.int (J p1)), none, none, none, none] [.int (J x2), rv 3] h1 := by
    intro x2 rx2 z3
    have w := j3 x2 rx2 z3
    refine r_iv rfl rfl rfl rfl rfl rfl t1 (lyk t1 rfl) rfl (xe_of (xa_r (xa_i xa_0)) rfl rfl) (r_d0 hd rfl) (a_X5_readAtom x2 (r_d1 hd rfl) rx2 w t1 (fun a4 h5 t5 u5 w => ?_))
    refine r_fR (pc1 := 18) rfl ?_
    have s5 := HX_trans s1 u5
    have w := w t5 u5
    refine r_astn (pc1 := 19) (ls1 := [some (rv 3), some (.int (J p0)), some (.int (J p1)), some (rv a4), none, none, none]) rfl rfl rfl rfl ?_
    refine r_n (pc1 := 20) [.int (J p1)] _ rfl rfl ?_
    obtain ⟨J7, j7, w⟩ := w
    have Q7 : ∀ (x6 : Int), rg x6 → J7 x6 → RR sc goal fs 408 39 [some (rv 3), some (.int (J p0)), some (.int (J p1)), some (rv a4), none, none, none] [.int (J x6)] h5 := by
      intro x6 rx6 z7
      have w := j7 x6 rx6 z7
      refine r_ist (pc1 := 41) (ls1 := [some (rv 3), some (.int (J p0)), some (.int (J p1)), some (rv a4), some (.int (J x6)), none, none]) rfl rfl rfl (xput1_rv rfl rfl) ?_
      refine r_aldn (pc1 := 42) rfl rfl rfl ?_
      refine r_ast (pc1 := 44) (ls1 := [some (rv 3), some (.int (J p0)), some (.int (J p1)), some (rv a4), some (.int (J x6)), some (rv a4), none]) rfl rfl rfl rfl ?_
      refine r_n (pc1 := 45) [.int (J 0)] _ rfl rfl ?_
      refine r_ist (pc1 := 47) (ls1 := [some (rv 3), some (.int (J p0)), some (.int (J p1)), some (rv a4), some (.int (J x6)), some (rv a4), some (.int (J 0))]) rfl rfl rfl (xput1_rv rfl rfl) ?_
      obtain ⟨I11, m11, w, y11⟩ := w
      have Q11 : ∀ (n : Nat)  (a8 : Nat) (x9 : Int) (h10 : XH), HT h10 → HX h h10 → rg x9 → m11 a8 x9 h10 < n → I11 a8 x9 h10 → RR sc goal fs 408 47 [some (rv 3), some (.int (J p0)), some (.int (J p1)), some (rv a4), some (.int (J x6)), some (rv a8), some (.int (J x9))] [] h10 := by
        intro n
        induction n with
        | zero => intro a8 x9 h10 t10 s10 rx9 q11 _; exact absurd q11 (Nat.not_lt_zero _)
        | succ n ih11 =>
          intro a8 x9 h10 t10 s10 rx9 q11 z11
          have w := y11 a8 x9 h10 t10 s10 rx9 z11
          refine r_n (pc1 := 49) [.int (J x9)] _ rfl rfl ?_
          refine r_n (pc1 := 52) [.int (J 200), .int (J x9)] _ rfl rfl ?_
          obtain ⟨J12, j12, w⟩ := w
          have Q12 : J12 → RR sc goal fs 408 107 [some (rv 3), some (.int (J p0)), some (.int (J p1)), some (rv a4), some (.int (J x6)), some (rv a8), some (.int (J x9))] [] h10 := by
            intro z12
            have w := j12 z12
            refine r_aldn (pc1 := 108) rfl rfl rfl ?_
            refine r_n (pc1 := 109) [.int (J 0), rv 3] _ rfl rfl ?_
            refine r_iv rfl rfl rfl rfl rfl rfl t10 (lyk t10 rfl) rfl (xe_of (xa_r (xa_i xa_0)) rfl rfl) (r_d0 hd rfl) (a_X5_pass 0 (r_d1 hd rfl) (rgk rfl) w t10 (fun x13 h14 t14 u14 rx13 w => ?_))
            refine r_fI (pc1 := 112) rfl ?_
            have s14 := HX_trans s10 u14
            have w := w t14 u14
            have w := w rx13
            refine r_n (pc1 := 113) [] _ rfl rfl ?_
            refine r_aldn (pc1 := 114) rfl rfl rfl ?_
            refine r_n (pc1 := 115) [.int (J 0), rv 3] _ rfl rfl ?_
            refine r_pfI (pc1 := 118) rfl rfl rfl t14 (lyk t14 rfl) rfl rfl rfl (fun h15 eh15 t15 u15 => ?_)
            have w := w h15 eh15 t15 u15
            have s15 := HX_trans s14 u15
            refine r_aldn (pc1 := 119) rfl rfl rfl ?_
            refine r_gfI (pc1 := 122) rfl rfl rfl t15 (lyk t15 rfl) rfl rfl ?_
            refine r_n (pc1 := 123) [.int (J (-1)), .int (J (hI h15 3 2))] _ rfl rfl ?_
            obtain ⟨J17, j17, w⟩ := w
            have Q17 : ∀ (a16 : Nat), J17 a16 → RR sc goal fs 408 131 [some (rv 3), some (.int (J p0)), some (.int (J p1)), some (rv a4), some (.int (J x6)), some (rv a8), some (.int (J x9))] [rv a16] h15 := by
              intro a16 z17
              have w := j17 a16 z17
              exact r_retR rfl rfl rfl xok_O xokr_O (k _ _ t15 s15 w)
            refine r_ic (t := 130) (pc1 := 126) rfl rfl rfl (rgh _ _ _) (rgk rfl) (fun c18 => ?_) (fun c18 => ?_)
            · have w := w.1 c18
              refine r_n (pc1 := 131) [rv 0] _ rfl rfl ?_
              exact Q17  0   w
            · have w := w.2 c18
              refine r_aldn (pc1 := 127) rfl rfl rfl ?_
              refine r_goto (t := 131) rfl rfl ?_
              exact Q17  a4   w
          refine r_ic (t := 107) (pc1 := 55) rfl rfl rfl rx9 (rgk rfl) (fun c30 => ?_) (fun c30 => ?_)
          · have w := w.1 c30
            exact Q12     w
          · have w := w.2 c30
            refine r_n (pc1 := 57) [.int (J x6)] _ rfl rfl ?_
            refine r_iz (t := 107) (pc1 := 60) rfl rfl rfl rx6 (fun c29 => ?_) (fun c29 => ?_)
            · have w := w.1 c29
              exact Q12     w
            · have w := w.2 c29
              refine r_ald (pc1 := 62) rfl rfl rfl ?_
              refine r_null (t := 107) (pc1 := 65) rfl rfl rfl (fun c28 => ?_) (fun c28 => ?_)
              · have w := w.1 c28
                exact Q12     w
              · have w := w.2 c28
                refine r_aldn (pc1 := 66) rfl rfl rfl ?_
                refine r_n (pc1 := 68) [.int (J 124), rv 3] _ rfl rfl ?_
                refine r_iv rfl rfl rfl rfl rfl rfl t10 (lyk t10 rfl) rfl (xe_of (xa_r (xa_i xa_0)) rfl rfl) (r_d0 hd rfl) (a_X5_isNext 124 (r_d1 hd rfl) (rgk rfl) w t10 (fun x19 rx19 vx19 w => ?_))
                refine r_fI (pc1 := 71) rfl ?_
                have w := w rx19 vx19
                refine r_iz (t := 107) (pc1 := 74) rfl rfl rfl rx19 (fun c27 => ?_) (fun c27 => ?_)
                · have w := w.1 c27
                  exact Q12     w
                · have w := w.2 c27
                  refine r_aldn (pc1 := 75) rfl rfl rfl ?_
                  refine r_dupR (pc1 := 76) rfl rfl ?_
                  refine r_gfI (pc1 := 79) rfl rfl rfl t10 (lyk t10 rfl) rfl rfl ?_
                  refine r_n (pc1 := 80) [.int (J 1), .int (J (hI h10 3 7)), rv 3] _ rfl rfl ?_
                  refine r_iadd (pc1 := 81) rfl rfl ?_
                  refine r_pfI (pc1 := 84) rfl rfl rfl t10 (lyk t10 rfl) rfl rfl rfl (fun h20 eh20 t20 u20 => ?_)
                  have w := w h20 eh20 t20 u20
                  have s20 := HX_trans s10 u20
                  refine r_ald (pc1 := 86) rfl rfl rfl ?_
                  refine r_aldn (pc1 := 87) rfl rfl rfl ?_
                  refine r_n (pc1 := 88) [.int (J 0), rv 3, rv a8] _ rfl rfl ?_
                  refine r_iv rfl rfl rfl rfl rfl rfl t20 (lyk t20 rfl) rfl (xe_of (xa_r (xa_i xa_0)) rfl rfl) (r_d0 hd rfl) (a_X5_readAtom 0 (r_d1 hd rfl) (rgk rfl) w t20 (fun a21 h22 t22 u22 w => ?_))
                  refine r_fR (pc1 := 91) rfl ?_
                  have s22 := HX_trans s20 u22
                  have w := w t22 u22
                  obtain ⟨c23, w⟩ := w
                  refine r_pfO (pc1 := 94) rfl rfl rfl t22 c23 rfl rfl rfl (fun h24 eh24 t24 u24 => ?_)
                  have w := w h24 eh24 t24 u24
                  have s24 := HX_trans s22 u24
                  refine r_ald (pc1 := 96) rfl rfl rfl ?_
                  refine r_gfR (pc1 := 99) rfl rfl rfl t24 (HXk u24 c23 rfl) rfl rfl ?_
                  refine r_vR (fun a25 ea25 => ?_)
                  have w := w a25 ea25
                  refine r_ast (pc1 := 101) (ls1 := [some (rv 3), some (.int (J p0)), some (.int (J p1)), some (rv a4), some (.int (J x6)), some (rv a25), some (.int (J x9))]) rfl rfl rfl rfl ?_
                  refine r_inc (pc1 := 104) (g := fun zz => [some (rv 3), some (.int (J p0)), some (.int (J p1)), some (rv a4), some (.int (J x6)), some (rv a25), some (.int (J zz))]) rfl rfl rfl rfl (fun _ => xput1_rv rfl rfl) (fun x26 ex26 rx26 => ?_)
                  have w := w x26 ex26 rx26
                  refine r_goto (t := 47) rfl rfl ?_
                  exact ih11  a25 x26 h24 t24 s24 rx26 (Nat.lt_of_lt_of_le w.2 (Nat.le_of_lt_succ q11)) w.1
      exact Q11 _  a4 0 h5 t5 s5 (rgk rfl) (Nat.lt_succ_self _) w
    obtain ⟨J31, j31, w⟩ := w
    have Q31 : J31 → RR sc goal fs 408 38 [some (rv 3), some (.int (J p0)), some (.int (J p1)), some (rv a4), none, none, none] [] h5 := by
      intro z31
      have w := j31 z31
      refine r_n (pc1 := 39) [.int (J 0)] _ rfl rfl ?_
      exact Q7  0  (rgk rfl) w
    refine r_iz (t := 38) (pc1 := 23) rfl rfl rfl rp1 (fun c35 => ?_) (fun c35 => ?_)
    · have w := w.1 c35
      exact Q31     w
    · have w := w.2 c35
      refine r_aldn (pc1 := 24) rfl rfl rfl ?_
      refine r_null (t := 38) (pc1 := 27) rfl rfl rfl (fun c34 => ?_) (fun c34 => ?_)
      · have w := w.1 c34
        exact Q31     w
      · have w := w.2 c34
        refine r_aldn (pc1 := 28) rfl rfl rfl ?_
        obtain ⟨c32, w⟩ := w
        refine r_gfI (pc1 := 31) rfl rfl rfl t5 c32 rfl rfl ?_
        refine r_iz (t := 38) (pc1 := 34) rfl rfl rfl (rgh _ _ _) (fun c33 => ?_) (fun c33 => ?_)
        · have w := w.1 c33
          exact Q31     w
        · have w := w.2 c33
          refine r_n (pc1 := 35) [.int (J 1)] _ rfl rfl ?_
          refine r_goto (t := 39) rfl rfl ?_
          exact Q7  1  (rgk rfl) w
  refine r_iz (t := 14) (pc1 := 10) rfl rfl rfl rp1 (fun c36 => ?_) (fun c36 => ?_)
  · have w := w.1 c36
    refine r_n (pc1 := 15) [.int (J 0), rv 3] _ rfl rfl ?_
    exact Q3  0  (rgk rfl) w
  · have w := w.2 c36
    refine r_n (pc1 := 11) [.int (J 1), rv 3] _ rfl rfl ?_
    refine r_goto (t := 15) rfl rfl ?_
    exact Q3  1  (rgk rfl) w
def w_X12_checkedNeed (p0 : Int) (K : Nat → XH → Prop) (E : Nat → XH → Prop) (h : XH) : Prop :=
  (w_X5_readNeed (hI h 9 0) p0 (fun a1 h2 => HT h2 → HX h h2 → (((¬ a1 = 0 → (K a1 h2)) ∧ (¬ (¬ a1 = 0) → (E 1 (nT h2)))))) h)
set_option maxHeartbeats 4000000 in
theorem a_X12_checkedNeed {sc : Nat × (Nat → Int32)} {goal : XO → XH → Prop} {fs : List XF} {h : XH} (p0 : Int) {K : Nat → XH → Prop} {E : Nat → XH → Prop} (hd : fs.length + 6 ≤ 1000) (rp0 : rg p0) (w : w_X12_checkedNeed p0 K E h) (t0 : HT h) (k : ∀ (r : Nat) (h1 : XH), HT h1 → HX h h1 → K r h1 → XFin xP sc goal fs (.inl (some (rv r))) h1) (kE : ∀ (x : Nat) (h1 : XH), HT h1 → HX h h1 → E x h1 → XFin xP sc goal fs (.inr x) h1) : RR sc goal fs 94 0 [some (rv 2), some (.int (J p0)), none] [] h := by
  unfold w_X12_checkedNeed at w
  refine r_aldn (pc1 := 1) rfl rfl rfl ?_
  refine r_gfC (pc1 := 4) (q := 3) rfl rfl rfl t0 (lyk t0 rfl) rfl rfl (lyR t0 rfl rfl) ?_
  refine r_aldn (pc1 := 5) rfl rfl rfl ?_
  refine r_gfC (pc1 := 8) (q := 8) rfl rfl rfl t0 (lyk t0 rfl) rfl rfl (lyR t0 rfl rfl) ?_
  refine r_gfC (pc1 := 11) (q := 9) rfl rfl rfl t0 (lyk t0 rfl) rfl rfl (lyR t0 rfl rfl) ?_
  refine r_gfI (pc1 := 14) rfl rfl rfl t0 (lyk t0 rfl) rfl rfl ?_
  refine r_n (pc1 := 15) [.int (J p0), .int (J (hI h 9 0)), rv 3] _ rfl rfl ?_
  refine r_iv rfl rfl rfl rfl rfl rfl t0 (lyk t0 rfl) rfl (xe_of (xa_r (xa_i (xa_i xa_0))) rfl rfl) (r_d0 hd rfl) (a_X5_readNeed (hI h 9 0) p0 (r_d1 hd rfl) (rgh _ _ _) rp0 w t0 (fun a1 h2 t2 u2 w => ?_))
  refine r_fR (pc1 := 18) rfl ?_
  have s2 := HX_trans (HX_refl h) u2
  have w := w t2 u2
  refine r_astn (pc1 := 19) (ls1 := [some (rv 2), some (.int (J p0)), some (rv a1)]) rfl rfl rfl rfl ?_
  refine r_aldn (pc1 := 20) rfl rfl rfl ?_
  refine r_nonnull (t := 34) (pc1 := 23) rfl rfl rfl (fun c3 => ?_) (fun c3 => ?_)
  · have w := w.1 c3
    refine r_aldn (pc1 := 35) rfl rfl rfl ?_
    exact r_retR rfl rfl rfl xok_O xokr_O (k _ _ t2 s2 w)
  · have w := w.2 c3
    exact r_thr rfl rfl rfl rfl rfl rfl (kE _ _ (HT_nT t2).1 (HX_trans s2 (HT_nT t2).2) w)
def w_X8_addBan (p0 : Int) (p1 : Nat) (K : Int → XH → Prop) (h : XH) : Prop :=
  ((0 ≤ p0 ∧ p0 < 40) ∧ (0 ≤ wr ((wr (p0 * 2)) + (hI h 21 p0.toNat)) ∧ wr ((wr (p0 * 2)) + (hI h 21 p0.toNat)) < 80) ∧ (p1 = 0 ∨ hk h p1 = 1) ∧ ∀ h4 : XH, h4 = sR h 22 (wr ((wr (p0 * 2)) + (hI h 21 p0.toNat))).toNat p1 → HT h4 → HX h h4 → ∀ h5 : XH, h5 = sI h4 21 p0.toNat (wr ((hI h4 21 p0.toNat) + 1)) → HT h5 → HX h4 h5 → K (hI h5 21 p0.toNat) h5)
set_option maxHeartbeats 4000000 in
theorem a_X8_addBan {sc : Nat × (Nat → Int32)} {goal : XO → XH → Prop} {fs : List XF} {h : XH} (p0 : Int) (p1 : Nat) {K : Int → XH → Prop} (hd : fs.length + 0 ≤ 1000) (rp0 : rg p0) (w : w_X8_addBan p0 p1 K h) (t0 : HT h) (k : ∀ (r : Int) (h1 : XH), HT h1 → HX h h1 → rg r → K r h1 → XFin xP sc goal fs (.inl (some (.int (J r)))) h1) : RR sc goal fs 449 0 [some (rv 9), some (.int (J p0)), some (rv p1)] [] h := by
  unfold w_X8_addBan at w
  refine r_aldn (pc1 := 1) rfl rfl rfl ?_
  refine r_gfC (pc1 := 4) (q := 22) rfl rfl rfl t0 (lyk t0 rfl) rfl rfl (lyR t0 rfl rfl) ?_
  refine r_n (pc1 := 5) [.int (J p0), rv 22] _ rfl rfl ?_
  refine r_n (pc1 := 6) [.int (J 2), .int (J p0), rv 22] _ rfl rfl ?_
  refine r_imul (pc1 := 7) rfl rfl ?_
  refine r_aldn (pc1 := 8) rfl rfl rfl ?_
  refine r_gfC (pc1 := 11) (q := 21) rfl rfl rfl t0 (lyk t0 rfl) rfl rfl (lyR t0 rfl rfl) ?_
  refine r_n (pc1 := 12) [.int (J p0), rv 21, .int (J (wr (p0 * 2))), rv 22] _ rfl rfl ?_
  obtain ⟨c1, w⟩ := w
  refine r_ial (pc1 := 13) rfl rfl t0 (lyk t0 rfl) rp0 c1.1 (lt_len (lyn t0 rfl) c1.2) ?_
  refine r_iadd (pc1 := 14) rfl rfl ?_
  refine r_aldn (pc1 := 15) rfl rfl rfl ?_
  obtain ⟨c2, w⟩ := w
  obtain ⟨c3, w⟩ := w
  refine r_aast (pc1 := 16) (u := 3) rfl rfl t0 (lyk t0 rfl) (.inl rfl) (c3.elim .inl (fun q => .inr (.inl ⟨rfl, q⟩))) (rgw _) c2.1 (lt_len (lyn t0 rfl) c2.2) (fun h4 eh4 t4 u4 => ?_)
  have w := w h4 eh4 t4 u4
  have s4 := HX_trans (HX_refl h) u4
  refine r_aldn (pc1 := 17) rfl rfl rfl ?_
  refine r_gfC (pc1 := 20) (q := 21) rfl rfl rfl t4 (lyk t4 rfl) rfl rfl (lyR t4 rfl rfl) ?_
  refine r_n (pc1 := 21) [.int (J p0), rv 21] _ rfl rfl ?_
  refine r_dup2 (pc1 := 22) rfl rfl ?_
  refine r_ial (pc1 := 23) rfl rfl t4 (lyk t4 rfl) rp0 c1.1 (lt_len (lyn t4 rfl) c1.2) ?_
  refine r_n (pc1 := 24) [.int (J 1), .int (J (hI h4 21 p0.toNat)), .int (J p0), rv 21] _ rfl rfl ?_
  refine r_iadd (pc1 := 25) rfl rfl ?_
  refine r_iast (pc1 := 26) rfl rfl t4 (lyk t4 rfl) rp0 c1.1 (lt_len (lyn t4 rfl) c1.2) (fun h5 eh5 t5 u5 => ?_)
  have w := w h5 eh5 t5 u5
  have s5 := HX_trans s4 u5
  refine r_aldn (pc1 := 27) rfl rfl rfl ?_
  refine r_gfC (pc1 := 30) (q := 21) rfl rfl rfl t5 (lyk t5 rfl) rfl rfl (lyR t5 rfl rfl) ?_
  refine r_n (pc1 := 31) [.int (J p0), rv 21] _ rfl rfl ?_
  refine r_ial (pc1 := 32) rfl rfl t5 (lyk t5 rfl) rp0 c1.1 (lt_len (lyn t5 rfl) c1.2) ?_
  exact r_retI rfl rfl rfl (k _ _ t5 s5 (rgh _ _ _) w)
def w_X12_ban (p0 : Int) (p1 : Int) (K : Int → XH → Prop) (E : Nat → XH → Prop) (h : XH) : Prop :=
  (w_X12_checkedId p0 p1 (fun x1 => rg x1 → ((0 ≤ x1 ∧ x1 < 40) ∧ ∃ J3 : Prop, (J3 → (E 0 (nT h))) ∧ ((2 ≤ hI h 21 x1.toNat → J3) ∧ (¬ (2 ≤ hI h 21 x1.toNat) → (w_X11_isInUse x1 (fun x4 => rg x4 → (x4 = 0 ∨ x4 = 1) → (((x4 = 0 → (w_X12_checkedNeed 1 (fun a5 h6 => HT h6 → HX h h6 → (w_X12_remember (fun h7 => HT h7 → HX h6 h7 → (w_X8_addBan x1 a5 (fun x8 h9 => HT h9 → HX h7 h9 → rg x8 → (K x8 h9)) h7)) h6)) E h)) ∧ (¬ (x4 = 0) → J3)))) h))))) E h)
set_option maxHeartbeats 4000000 in
theorem a_X12_ban {sc : Nat × (Nat → Int32)} {goal : XO → XH → Prop} {fs : List XF} {h : XH} (p0 : Int) (p1 : Int) {K : Int → XH → Prop} {E : Nat → XH → Prop} (hd : fs.length + 7 ≤ 1000) (rp0 : rg p0) (rp1 : rg p1) (w : w_X12_ban p0 p1 K E h) (t0 : HT h) (k : ∀ (r : Int) (h1 : XH), HT h1 → HX h h1 → rg r → K r h1 → XFin xP sc goal fs (.inl (some (.int (J r)))) h1) (kE : ∀ (x : Nat) (h1 : XH), HT h1 → HX h h1 → E x h1 → XFin xP sc goal fs (.inr x) h1) : RR sc goal fs 85 0 [some (rv 2), some (.int (J p0)), some (.int (J p1)), none, none] [] h := by
  unfold w_X12_ban at w
  refine r_aldn (pc1 := 1) rfl rfl rfl ?_
  refine r_n (pc1 := 2) [.int (J p0), rv 2] _ rfl rfl ?_
  refine r_n (pc1 := 3) [.int (J p1), .int (J p0), rv 2] _ rfl rfl ?_
  refine r_iv rfl rfl rfl rfl rfl rfl t0 (lyk t0 rfl) rfl (xe_of (xa_r (xa_i (xa_i xa_0))) rfl rfl) (r_d0 hd rfl) (a_X12_checkedId p0 p1 (r_d1 hd rfl) rp0 rp1 w t0 (fun x1 rx1 w => ?_) (fun x y ty uy w => r_finx rfl rfl (kE x y ty (HX_trans (HX_refl h) uy) w)))
  refine r_fI (pc1 := 6) rfl ?_
  have w := w rx1
  refine r_istn (pc1 := 7) (ls1 := [some (rv 2), some (.int (J p0)), some (.int (J p1)), some (.int (J x1)), none]) rfl rfl rfl rfl ?_
  refine r_aldn (pc1 := 8) rfl rfl rfl ?_
  refine r_gfC (pc1 := 11) (q := 8) rfl rfl rfl t0 (lyk t0 rfl) rfl rfl (lyR t0 rfl rfl) ?_
  refine r_gfC (pc1 := 14) (q := 9) rfl rfl rfl t0 (lyk t0 rfl) rfl rfl (lyR t0 rfl rfl) ?_
  refine r_gfC (pc1 := 17) (q := 21) rfl rfl rfl t0 (lyk t0 rfl) rfl rfl (lyR t0 rfl rfl) ?_
  refine r_n (pc1 := 18) [.int (J x1), rv 21] _ rfl rfl ?_
  obtain ⟨c2, w⟩ := w
  refine r_ial (pc1 := 19) rfl rfl t0 (lyk t0 rfl) rx1 c2.1 (lt_len (lyn t0 rfl) c2.2) ?_
  refine r_n (pc1 := 20) [.int (J 2), .int (J (hI h 21 x1.toNat))] _ rfl rfl ?_
  obtain ⟨J3, j3, w⟩ := w
  have Q3 : J3 → RR sc goal fs 85 34 [some (rv 2), some (.int (J p0)), some (.int (J p1)), some (.int (J x1)), none] [] h := by
    intro z3
    have w := j3 z3
    exact r_thr rfl rfl rfl rfl rfl rfl (kE _ _ (HT_nT t0).1 (HX_trans (HX_refl h) (HT_nT t0).2) w)
  refine r_ic (t := 34) (pc1 := 23) rfl rfl rfl (rgh _ _ _) (rgk rfl) (fun c11 => ?_) (fun c11 => ?_)
  · have w := w.1 c11
    exact Q3     w
  · have w := w.2 c11
    refine r_aldn (pc1 := 24) rfl rfl rfl ?_
    refine r_gfC (pc1 := 27) (q := 8) rfl rfl rfl t0 (lyk t0 rfl) rfl rfl (lyR t0 rfl rfl) ?_
    refine r_n (pc1 := 28) [.int (J x1), rv 8] _ rfl rfl ?_
    refine r_iv rfl rfl rfl rfl rfl rfl t0 (lyk t0 rfl) rfl (xe_of (xa_r (xa_i xa_0)) rfl rfl) (r_d0 hd rfl) (a_X11_isInUse x1 (r_d1 hd rfl) rx1 w t0 (fun x4 rx4 vx4 w => ?_))
    refine r_fI (pc1 := 31) rfl ?_
    have w := w rx4 vx4
    refine r_iz (t := 44) (pc1 := 34) rfl rfl rfl rx4 (fun c10 => ?_) (fun c10 => ?_)
    · have w := w.1 c10
      refine r_aldn (pc1 := 45) rfl rfl rfl ?_
      refine r_n (pc1 := 46) [.int (J 1), rv 2] _ rfl rfl ?_
      refine r_iv rfl rfl rfl rfl rfl rfl t0 (lyk t0 rfl) rfl (xe_of (xa_r (xa_i xa_0)) rfl rfl) (r_d0 hd rfl) (a_X12_checkedNeed 1 (r_d1 hd rfl) (rgk rfl) w t0 (fun a5 h6 t6 u6 w => ?_) (fun x y ty uy w => r_finx rfl rfl (kE x y ty (HX_trans (HX_refl h) uy) w)))
      refine r_fR (pc1 := 49) rfl ?_
      have s6 := HX_trans (HX_refl h) u6
      have w := w t6 u6
      refine r_ast (pc1 := 51) (ls1 := [some (rv 2), some (.int (J p0)), some (.int (J p1)), some (.int (J x1)), some (rv a5)]) rfl rfl rfl rfl ?_
      refine r_aldn (pc1 := 52) rfl rfl rfl ?_
      refine r_iv rfl rfl rfl rfl rfl rfl t6 (lyk t6 rfl) rfl (xe_of (xa_r xa_0) rfl rfl) (r_d0 hd rfl) (a_X12_remember  (r_d1 hd rfl)  w t6 (fun h7 t7 u7 w => ?_))
      refine r_fV (pc1 := 55) rfl ?_
      have s7 := HX_trans s6 u7
      have w := w t7 u7
      refine r_aldn (pc1 := 56) rfl rfl rfl ?_
      refine r_gfC (pc1 := 59) (q := 8) rfl rfl rfl t7 (lyk t7 rfl) rfl rfl (lyR t7 rfl rfl) ?_
      refine r_gfC (pc1 := 62) (q := 9) rfl rfl rfl t7 (lyk t7 rfl) rfl rfl (lyR t7 rfl rfl) ?_
      refine r_n (pc1 := 63) [.int (J x1), rv 9] _ rfl rfl ?_
      refine r_ald (pc1 := 65) rfl rfl rfl ?_
      refine r_iv rfl rfl rfl rfl rfl rfl t7 (lyk t7 rfl) rfl (xe_of (xa_r (xa_i (xa_r xa_0))) rfl rfl) (r_d0 hd rfl) (a_X8_addBan x1 a5 (r_d1 hd rfl) rx1 w t7 (fun x8 h9 t9 u9 rx8 w => ?_))
      refine r_fI (pc1 := 68) rfl ?_
      have s9 := HX_trans s7 u9
      have w := w t9 u9
      have w := w rx8
      exact r_retI rfl rfl rfl (k _ _ t9 s9 rx8 w)
    · have w := w.2 c10
      exact Q3     w
def w_L_ban (p1 : Int) (p2 : Int) (K : Int → XH → Prop) (h : XH) : Prop :=
  (w_X12_ban p1 p2 (fun x1 h2 => HT h2 → HX h h2 → rg x1 → (∀ h5 : XH, h5 = sL h2 467 0 (i2l x1) → HT h5 → HX h2 h5 → (K 0 h5))) (fun y4 h3 => ((y4 = 2 ∧ K 1 h3) ∨ (y4 = 0 ∧ K 2 h3) ∨ (y4 = 1 ∧ K 3 h3))) h)
set_option maxHeartbeats 4000000 in
theorem a_L_ban {sc : Nat × (Nat → Int32)} {goal : XO → XH → Prop} {fs : List XF} {h : XH} (p1 : Int) (p2 : Int) {K : Int → XH → Prop} (hd : fs.length + 8 ≤ 1000) (rp1 : rg p1) (rp2 : rg p2) (w : w_L_ban p1 p2 K h) (t0 : HT h) (k : ∀ (r : Int) (h1 : XH), HT h1 → HX h h1 → rg r → K r h1 → XFin xP sc goal fs (.inl (some (.int (J r)))) h1) : RR sc goal fs 29 0 [some (rv 2), some (.int (J p1)), some (.int (J p2)), some (rv 467), none] [] h := by
  unfold w_L_ban at w
  refine r_aldn (pc1 := 1) rfl rfl rfl ?_
  refine r_n (pc1 := 2) [.int (J 0), rv 467] _ rfl rfl ?_
  refine r_aldn (pc1 := 3) rfl rfl rfl ?_
  refine r_n (pc1 := 4) [.int (J p1), rv 2, .int (J 0), rv 467] _ rfl rfl ?_
  refine r_n (pc1 := 5) [.int (J p2), .int (J p1), rv 2, .int (J 0), rv 467] _ rfl rfl ?_
  refine r_iv rfl rfl rfl rfl rfl rfl t0 (lyk t0 rfl) rfl (xe_of (xa_r (xa_i (xa_i xa_0))) rfl rfl) (r_d0 hd rfl) (a_X12_ban p1 p2 (r_d1 hd rfl) rp1 rp2 w t0 (fun x1 h2 t2 u2 rx1 w => ?_) (fun y4 h3 ty uy w => ?_))
  · refine r_fI (pc1 := 8) rfl ?_
    have s2 := HX_trans (HX_refl h) u2
    have w := w t2 u2
    have w := w rx1
    refine r_i2l (pc1 := 9) rfl rfl ?_
    refine r_last (pc1 := 10) rfl rfl t2 (lyk t2 rfl) (rgk rfl) (by decide) (lt_len (lyn t2 rfl) (by decide)) (fun h5 eh5 t5 u5 => ?_)
    have w := w h5 eh5 t5 u5
    have s5 := HX_trans s2 u5
    refine r_goto (t := 25) rfl rfl ?_
    refine r_n (pc1 := 26) [.int (J 0)] _ rfl rfl ?_
    exact r_retI rfl rfl rfl (k _ _ t5 s5 (rgk rfl) w)
  · rcases w with ⟨rfl, w⟩ | w
    · exact r_fink (z := 1) rfl (by decide) rfl rfl (k _ _ ty (HX_trans (HX_refl h) uy) (rgk rfl) w)
    rcases w with ⟨rfl, w⟩ | w
    · exact r_fink (z := 2) rfl (by decide) rfl rfl (k _ _ ty (HX_trans (HX_refl h) uy) (rgk rfl) w)
    obtain ⟨rfl, w⟩ := w
    exact r_fink (z := 3) rfl (by decide) rfl rfl (k _ _ ty (HX_trans (HX_refl h) uy) (rgk rfl) w)
def w_X10_isMetBy (t : Nat) (p0 : Int) (K : Int → Prop) (h : XH) : Prop :=
  (∀ x1 : Int, x1 = idiv p0 100 → rg x1 → ∃ J3 : Int → Prop, (∀ (x2 : Int), rg x2 → J3 x2 → (∃ J4 : Prop, (J4 → (((¬ hI h t 0 = 42 ∧ ¬ hI h t 0 = 60 ∧ ¬ hI h t 0 = 61 ∧ ¬ hI h t 0 = 62 ∧ ¬ hI h t 0 = 94 ∧ ¬ hI h t 0 = 126 → (∃ J7 : Int → Prop, (∀ (x6 : Int), rg x6 → J7 x6 → ((x6 = 0 ∨ x6 = 1) ∧ K x6)) ∧ ∃ J9 : Prop, (J9 → (J7 0)) ∧ ((p0 < hI h t 1 → J9) ∧ (¬ (p0 < hI h t 1) → (((hI h t 2 < p0 → J9) ∧ (¬ (hI h t 2 < p0) → (J7 1)))))))) ∧ (hI h t 0 = 42 → (K 1)) ∧ (hI h t 0 = 60 → (∃ J13 : Int → Prop, (∀ (x12 : Int), rg x12 → J13 x12 → ((x12 = 0 ∨ x12 = 1) ∧ K x12)) ∧ ((hI h t 1 ≤ p0 → (J13 0)) ∧ (¬ (hI h t 1 ≤ p0) → (J13 1))))) ∧ (hI h t 0 = 61 → (∃ J17 : Int → Prop, (∀ (x16 : Int), rg x16 → J17 x16 → ((x16 = 0 ∨ x16 = 1) ∧ K x16)) ∧ ((¬ p0 = hI h t 1 → (J17 0)) ∧ (¬ (¬ p0 = hI h t 1) → (J17 1))))) ∧ (hI h t 0 = 62 → (∃ J21 : Int → Prop, (∀ (x20 : Int), rg x20 → J21 x20 → ((x20 = 0 ∨ x20 = 1) ∧ K x20)) ∧ ((p0 < hI h t 1 → (J21 0)) ∧ (¬ (p0 < hI h t 1) → (J21 1))))) ∧ (hI h t 0 = 94 → (∃ J25 : Int → Prop, (∀ (x24 : Int), rg x24 → J25 x24 → ((x24 = 0 ∨ x24 = 1) ∧ K x24)) ∧ ∃ J27 : Prop, (J27 → (J25 0)) ∧ ((p0 < hI h t 1 → J27) ∧ (¬ (p0 < hI h t 1) → (((¬ idiv x1 100 = idiv (hI h t 1) 10000 → J27) ∧ (¬ (¬ idiv x1 100 = idiv (hI h t 1) 10000) → (J25 1)))))))) ∧ (hI h t 0 = 126 → (∃ J31 : Int → Prop, (∀ (x30 : Int), rg x30 → J31 x30 → ((x30 = 0 ∨ x30 = 1) ∧ K x30)) ∧ ∃ J33 : Prop, (J33 → (J31 0)) ∧ ((p0 < hI h t 1 → J33) ∧ (¬ (p0 < hI h t 1) → (((¬ x1 = idiv (hI h t 1) 100 → J33) ∧ (¬ (¬ x1 = idiv (hI h t 1) 100) → (J31 1))))))))))) ∧ ((x2 = 0 → J4) ∧ (¬ (x2 = 0) → (((hI h t 0 = 61 → J4) ∧ (¬ (hI h t 0 = 61) → (((x1 = hI h t 3 → J4) ∧ (¬ (x1 = hI h t 3) → (((x1 = hI h t 4 → J4) ∧ (¬ (x1 = hI h t 4) → (K 0)))))))))))))) ∧ ((irem p0 100 = 99 → (J3 0)) ∧ (¬ (irem p0 100 = 99) → (J3 1))))
set_option maxHeartbeats 4000000 in
theorem a_X10_isMetBy {sc : Nat × (Nat → Int32)} {goal : XO → XH → Prop} {fs : List XF} {h : XH} (t : Nat) (p0 : Int) {K : Int → Prop} (hd : fs.length + 0 ≤ 1000) (c0 : hk h t = 11) (rp0 : rg p0) (w : w_X10_isMetBy t p0 K h) (t0 : HT h) (k : ∀ (r : Int), rg r → (r = 0 ∨ r = 1) → K r → XFin xP sc goal fs (.inl (some (.int (J r)))) h) : RR sc goal fs 75 0 [some (rv t), some (.int (J p0)), none, none] [] h := by
  unfold w_X10_isMetBy at w
  refine r_n (pc1 := 1) [.int (J p0)] _ rfl rfl ?_
  refine r_n (pc1 := 3) [.int (J 100), .int (J p0)] _ rfl rfl ?_
  refine r_idiv (pc1 := 4) rfl rfl (rgk rfl) (by decide) ?_
  refine r_vI (rgt _) (fun x1 ex1 rx1 => ?_)
  have w := w x1 ex1 rx1
  refine r_istn (pc1 := 5) (ls1 := [some (rv t), some (.int (J p0)), some (.int (J x1)), none]) rfl rfl rfl rfl ?_
  refine r_n (pc1 := 6) [.int (J p0)] _ rfl rfl ?_
  refine r_n (pc1 := 8) [.int (J 100), .int (J p0)] _ rfl rfl ?_
  refine r_irem (pc1 := 9) rfl rfl (rgk rfl) (by decide) ?_
  refine r_n (pc1 := 11) [.int (J 99), .int (J (irem p0 100))] _ rfl rfl ?_
  obtain ⟨J3, j3, w⟩ := w
  have Q3 : ∀ (x2 : Int), rg x2 → J3 x2 → RR sc goal fs 75 19 [some (rv t), some (.int (J p0)), some (.int (J x1)), none] [.int (J x2)] h := by
    intro x2 rx2 z3
    have w := j3 x2 rx2 z3
    refine r_istn (pc1 := 20) (ls1 := [some (rv t), some (.int (J p0)), some (.int (J x1)), some (.int (J x2))]) rfl rfl rfl rfl ?_
    refine r_n (pc1 := 21) [.int (J x2)] _ rfl rfl ?_
    obtain ⟨J4, j4, w⟩ := w
    have Q4 : J4 → RR sc goal fs 75 51 [some (rv t), some (.int (J p0)), some (.int (J x1)), some (.int (J x2))] [] h := by
      intro z4
      have w := j4 z4
      refine r_aldn (pc1 := 52) rfl rfl rfl ?_
      refine r_gfI (pc1 := 55) rfl rfl rfl t0 (HXk (HX_refl h) c0 rfl) rfl rfl ?_
      refine r_lsw (t0 := 210) rfl (rgh _ _ _) rfl rfl (fun c5 => ?_) ?_
      · have w := w.1 ⟨c5.1, c5.2.1, c5.2.2.1, c5.2.2.2.1, c5.2.2.2.2.1, c5.2.2.2.2.2.1⟩
        refine r_n (pc1 := 211) [.int (J p0)] _ rfl rfl ?_
        refine r_aldn (pc1 := 212) rfl rfl rfl ?_
        refine r_gfI (pc1 := 215) rfl rfl rfl t0 (HXk (HX_refl h) c0 rfl) rfl rfl ?_
        obtain ⟨J7, j7, w⟩ := w
        have Q7 : ∀ (x6 : Int), rg x6 → J7 x6 → RR sc goal fs 75 231 [some (rv t), some (.int (J p0)), some (.int (J x1)), some (.int (J x2))] [.int (J x6)] h := by
          intro x6 rx6 z7
          have w := j7 x6 rx6 z7
          obtain ⟨c8, w⟩ := w
          exact r_retB rfl rfl rfl c8 (k _ rx6 c8 w)
        obtain ⟨J9, j9, w⟩ := w
        have Q9 : J9 → RR sc goal fs 75 230 [some (rv t), some (.int (J p0)), some (.int (J x1)), some (.int (J x2))] [] h := by
          intro z9
          have w := j9 z9
          refine r_n (pc1 := 231) [.int (J 0)] _ rfl rfl ?_
          exact Q7  0  (rgk rfl) w
        refine r_ic (t := 230) (pc1 := 218) rfl rfl rfl rp0 (rgh _ _ _) (fun c11 => ?_) (fun c11 => ?_)
        · have w := w.1 c11
          exact Q9     w
        · have w := w.2 c11
          refine r_n (pc1 := 219) [.int (J p0)] _ rfl rfl ?_
          refine r_aldn (pc1 := 220) rfl rfl rfl ?_
          refine r_gfI (pc1 := 223) rfl rfl rfl t0 (HXk (HX_refl h) c0 rfl) rfl rfl ?_
          refine r_ic (t := 230) (pc1 := 226) rfl rfl rfl rp0 (rgh _ _ _) (fun c10 => ?_) (fun c10 => ?_)
          · have w := w.1 c10
            exact Q9     w
          · have w := w.2 c10
            refine r_n (pc1 := 227) [.int (J 1)] _ rfl rfl ?_
            refine r_goto (t := 231) rfl rfl ?_
            exact Q7  1  (rgk rfl) w
      have w := w.2
      refine ⟨fun c5 => ⟨112, rfl, ?_⟩, ⟨fun c5 => ⟨142, rfl, ?_⟩, ⟨fun c5 => ⟨114, rfl, ?_⟩, ⟨fun c5 => ⟨128, rfl, ?_⟩, ⟨fun c5 => ⟨156, rfl, ?_⟩, ⟨fun c5 => ⟨185, rfl, ?_⟩, trivial⟩⟩⟩⟩⟩⟩
      · have w := w.1 c5
        refine r_n (pc1 := 113) [.int (J 1)] _ rfl rfl ?_
        exact r_retB rfl rfl rfl (.inr rfl) (k _ (rgk rfl) (.inr rfl) w)
      · have w := w.2.1 c5
        refine r_n (pc1 := 143) [.int (J p0)] _ rfl rfl ?_
        refine r_aldn (pc1 := 144) rfl rfl rfl ?_
        refine r_gfI (pc1 := 147) rfl rfl rfl t0 (HXk (HX_refl h) c0 rfl) rfl rfl ?_
        obtain ⟨J13, j13, w⟩ := w
        have Q13 : ∀ (x12 : Int), rg x12 → J13 x12 → RR sc goal fs 75 155 [some (rv t), some (.int (J p0)), some (.int (J x1)), some (.int (J x2))] [.int (J x12)] h := by
          intro x12 rx12 z13
          have w := j13 x12 rx12 z13
          obtain ⟨c14, w⟩ := w
          exact r_retB rfl rfl rfl c14 (k _ rx12 c14 w)
        refine r_ic (t := 154) (pc1 := 150) rfl rfl rfl rp0 (rgh _ _ _) (fun c15 => ?_) (fun c15 => ?_)
        · have w := w.1 c15
          refine r_n (pc1 := 155) [.int (J 0)] _ rfl rfl ?_
          exact Q13  0  (rgk rfl) w
        · have w := w.2 c15
          refine r_n (pc1 := 151) [.int (J 1)] _ rfl rfl ?_
          refine r_goto (t := 155) rfl rfl ?_
          exact Q13  1  (rgk rfl) w
      · have w := w.2.2.1 c5
        refine r_n (pc1 := 115) [.int (J p0)] _ rfl rfl ?_
        refine r_aldn (pc1 := 116) rfl rfl rfl ?_
        refine r_gfI (pc1 := 119) rfl rfl rfl t0 (HXk (HX_refl h) c0 rfl) rfl rfl ?_
        obtain ⟨J17, j17, w⟩ := w
        have Q17 : ∀ (x16 : Int), rg x16 → J17 x16 → RR sc goal fs 75 127 [some (rv t), some (.int (J p0)), some (.int (J x1)), some (.int (J x2))] [.int (J x16)] h := by
          intro x16 rx16 z17
          have w := j17 x16 rx16 z17
          obtain ⟨c18, w⟩ := w
          exact r_retB rfl rfl rfl c18 (k _ rx16 c18 w)
        refine r_ic (t := 126) (pc1 := 122) rfl rfl rfl rp0 (rgh _ _ _) (fun c19 => ?_) (fun c19 => ?_)
        · have w := w.1 c19
          refine r_n (pc1 := 127) [.int (J 0)] _ rfl rfl ?_
          exact Q17  0  (rgk rfl) w
        · have w := w.2 c19
          refine r_n (pc1 := 123) [.int (J 1)] _ rfl rfl ?_
          refine r_goto (t := 127) rfl rfl ?_
          exact Q17  1  (rgk rfl) w
      · have w := w.2.2.2.1 c5
        refine r_n (pc1 := 129) [.int (J p0)] _ rfl rfl ?_
        refine r_aldn (pc1 := 130) rfl rfl rfl ?_
        refine r_gfI (pc1 := 133) rfl rfl rfl t0 (HXk (HX_refl h) c0 rfl) rfl rfl ?_
        obtain ⟨J21, j21, w⟩ := w
        have Q21 : ∀ (x20 : Int), rg x20 → J21 x20 → RR sc goal fs 75 141 [some (rv t), some (.int (J p0)), some (.int (J x1)), some (.int (J x2))] [.int (J x20)] h := by
          intro x20 rx20 z21
          have w := j21 x20 rx20 z21
          obtain ⟨c22, w⟩ := w
          exact r_retB rfl rfl rfl c22 (k _ rx20 c22 w)
        refine r_ic (t := 140) (pc1 := 136) rfl rfl rfl rp0 (rgh _ _ _) (fun c23 => ?_) (fun c23 => ?_)
        · have w := w.1 c23
          refine r_n (pc1 := 141) [.int (J 0)] _ rfl rfl ?_
          exact Q21  0  (rgk rfl) w
        · have w := w.2 c23
          refine r_n (pc1 := 137) [.int (J 1)] _ rfl rfl ?_
          refine r_goto (t := 141) rfl rfl ?_
          exact Q21  1  (rgk rfl) w
      · have w := w.2.2.2.2.1 c5
        refine r_n (pc1 := 157) [.int (J p0)] _ rfl rfl ?_
        refine r_aldn (pc1 := 158) rfl rfl rfl ?_
        refine r_gfI (pc1 := 161) rfl rfl rfl t0 (HXk (HX_refl h) c0 rfl) rfl rfl ?_
        obtain ⟨J25, j25, w⟩ := w
        have Q25 : ∀ (x24 : Int), rg x24 → J25 x24 → RR sc goal fs 75 184 [some (rv t), some (.int (J p0)), some (.int (J x1)), some (.int (J x2))] [.int (J x24)] h := by
          intro x24 rx24 z25
          have w := j25 x24 rx24 z25
          obtain ⟨c26, w⟩ := w
          exact r_retB rfl rfl rfl c26 (k _ rx24 c26 w)
        obtain ⟨J27, j27, w⟩ := w
        have Q27 : J27 → RR sc goal fs 75 183 [some (rv t), some (.int (J p0)), some (.int (J x1)), some (.int (J x2))] [] h := by
          intro z27
          have w := j27 z27
          refine r_n (pc1 := 184) [.int (J 0)] _ rfl rfl ?_
          exact Q25  0  (rgk rfl) w
        refine r_ic (t := 183) (pc1 := 164) rfl rfl rfl rp0 (rgh _ _ _) (fun c29 => ?_) (fun c29 => ?_)
        · have w := w.1 c29
          exact Q27     w
        · have w := w.2 c29
          refine r_n (pc1 := 165) [.int (J x1)] _ rfl rfl ?_
          refine r_n (pc1 := 167) [.int (J 100), .int (J x1)] _ rfl rfl ?_
          refine r_idiv (pc1 := 168) rfl rfl (rgk rfl) (by decide) ?_
          refine r_aldn (pc1 := 169) rfl rfl rfl ?_
          refine r_gfI (pc1 := 172) rfl rfl rfl t0 (HXk (HX_refl h) c0 rfl) rfl rfl ?_
          refine r_n (pc1 := 175) [.int (J 10000), .int (J (hI h t 1)), .int (J (idiv x1 100))] _ rfl rfl ?_
          refine r_idiv (pc1 := 176) rfl rfl (rgk rfl) (by decide) ?_
          refine r_ic (t := 183) (pc1 := 179) rfl rfl rfl (rgt _) (rgt _) (fun c28 => ?_) (fun c28 => ?_)
          · have w := w.1 c28
            exact Q27     w
          · have w := w.2 c28
            refine r_n (pc1 := 180) [.int (J 1)] _ rfl rfl ?_
            refine r_goto (t := 184) rfl rfl ?_
            exact Q25  1  (rgk rfl) w
      · have w := w.2.2.2.2.2 c5
        refine r_n (pc1 := 186) [.int (J p0)] _ rfl rfl ?_
        refine r_aldn (pc1 := 187) rfl rfl rfl ?_
        refine r_gfI (pc1 := 190) rfl rfl rfl t0 (HXk (HX_refl h) c0 rfl) rfl rfl ?_
        obtain ⟨J31, j31, w⟩ := w
        have Q31 : ∀ (x30 : Int), rg x30 → J31 x30 → RR sc goal fs 75 209 [some (rv t), some (.int (J p0)), some (.int (J x1)), some (.int (J x2))] [.int (J x30)] h := by
          intro x30 rx30 z31
          have w := j31 x30 rx30 z31
          obtain ⟨c32, w⟩ := w
          exact r_retB rfl rfl rfl c32 (k _ rx30 c32 w)
        obtain ⟨J33, j33, w⟩ := w
        have Q33 : J33 → RR sc goal fs 75 208 [some (rv t), some (.int (J p0)), some (.int (J x1)), some (.int (J x2))] [] h := by
          intro z33
          have w := j33 z33
          refine r_n (pc1 := 209) [.int (J 0)] _ rfl rfl ?_
          exact Q31  0  (rgk rfl) w
        refine r_ic (t := 208) (pc1 := 193) rfl rfl rfl rp0 (rgh _ _ _) (fun c35 => ?_) (fun c35 => ?_)
        · have w := w.1 c35
          exact Q33     w
        · have w := w.2 c35
          refine r_n (pc1 := 194) [.int (J x1)] _ rfl rfl ?_
          refine r_aldn (pc1 := 195) rfl rfl rfl ?_
          refine r_gfI (pc1 := 198) rfl rfl rfl t0 (HXk (HX_refl h) c0 rfl) rfl rfl ?_
          refine r_n (pc1 := 200) [.int (J 100), .int (J (hI h t 1)), .int (J x1)] _ rfl rfl ?_
          refine r_idiv (pc1 := 201) rfl rfl (rgk rfl) (by decide) ?_
          refine r_ic (t := 208) (pc1 := 204) rfl rfl rfl rx1 (rgt _) (fun c34 => ?_) (fun c34 => ?_)
          · have w := w.1 c34
            exact Q33     w
          · have w := w.2 c34
            refine r_n (pc1 := 205) [.int (J 1)] _ rfl rfl ?_
            refine r_goto (t := 209) rfl rfl ?_
            exact Q31  1  (rgk rfl) w
    refine r_iz (t := 51) (pc1 := 24) rfl rfl rfl rx2 (fun c39 => ?_) (fun c39 => ?_)
    · have w := w.1 c39
      exact Q4     w
    · have w := w.2 c39
      refine r_aldn (pc1 := 25) rfl rfl rfl ?_
      refine r_gfI (pc1 := 28) rfl rfl rfl t0 (HXk (HX_refl h) c0 rfl) rfl rfl ?_
      refine r_n (pc1 := 30) [.int (J 61), .int (J (hI h t 0))] _ rfl rfl ?_
      refine r_ic (t := 51) (pc1 := 33) rfl rfl rfl (rgh _ _ _) (rgk rfl) (fun c38 => ?_) (fun c38 => ?_)
      · have w := w.1 c38
        exact Q4     w
      · have w := w.2 c38
        refine r_n (pc1 := 34) [.int (J x1)] _ rfl rfl ?_
        refine r_aldn (pc1 := 35) rfl rfl rfl ?_
        refine r_gfI (pc1 := 38) rfl rfl rfl t0 (HXk (HX_refl h) c0 rfl) rfl rfl ?_
        refine r_ic (t := 51) (pc1 := 41) rfl rfl rfl rx1 (rgh _ _ _) (fun c37 => ?_) (fun c37 => ?_)
        · have w := w.1 c37
          exact Q4     w
        · have w := w.2 c37
          refine r_n (pc1 := 42) [.int (J x1)] _ rfl rfl ?_
          refine r_aldn (pc1 := 43) rfl rfl rfl ?_
          refine r_gfI (pc1 := 46) rfl rfl rfl t0 (HXk (HX_refl h) c0 rfl) rfl rfl ?_
          refine r_ic (t := 51) (pc1 := 49) rfl rfl rfl rx1 (rgh _ _ _) (fun c36 => ?_) (fun c36 => ?_)
          · have w := w.1 c36
            exact Q4     w
          · have w := w.2 c36
            refine r_n (pc1 := 50) [.int (J 0)] _ rfl rfl ?_
            exact r_retB rfl rfl rfl (.inl rfl) (k _ (rgk rfl) (.inl rfl) w)
  refine r_ic (t := 18) (pc1 := 14) rfl rfl rfl (rgt _) (rgk rfl) (fun c40 => ?_) (fun c40 => ?_)
  · have w := w.1 c40
    refine r_n (pc1 := 19) [.int (J 0)] _ rfl rfl ?_
    exact Q3  0  (rgk rfl) w
  · have w := w.2 c40
    refine r_n (pc1 := 15) [.int (J 1)] _ rfl rfl ?_
    refine r_goto (t := 19) rfl rfl ?_
    exact Q3  1  (rgk rfl) w
def w_X10_isAnyMet (p0 : Nat) (p1 : Int) (K : Int → Prop) (h : XH) : Prop :=
  ((∃ (I2 : Nat → Prop) (m2 : Nat → Nat), I2 p0 ∧ ∀ (a1 : Nat), I2 a1 → (((a1 = 0 → (K 0)) ∧ (¬ (a1 = 0) → (hk h a1 = 11 ∧ w_X10_isMetBy a1 p1 (fun x4 => rg x4 → (x4 = 0 ∨ x4 = 1) → (((x4 = 0 → (∀ a5 : Nat, a5 = hR h a1 5 → (I2 a5 ∧ m2 a5 < m2 a1))) ∧ (¬ (x4 = 0) → (K 1))))) h))))))
set_option maxHeartbeats 4000000 in
theorem a_X10_isAnyMet {sc : Nat × (Nat → Int32)} {goal : XO → XH → Prop} {fs : List XF} {h : XH} (p0 : Nat) (p1 : Int) {K : Int → Prop} (hd : fs.length + 1 ≤ 1000) (rp1 : rg p1) (w : w_X10_isAnyMet p0 p1 K h) (t0 : HT h) (k : ∀ (r : Int), rg r → (r = 0 ∨ r = 1) → K r → XFin xP sc goal fs (.inl (some (.int (J r)))) h) : RR sc goal fs 74 0 [some (rv p0), some (.int (J p1)), none] [] h := by
  unfold w_X10_isAnyMet at w
  refine r_aldn (pc1 := 1) rfl rfl rfl ?_
  refine r_astn (pc1 := 2) (ls1 := [some (rv p0), some (.int (J p1)), some (rv p0)]) rfl rfl rfl rfl ?_
  obtain ⟨I2, m2, w, y2⟩ := w
  have Q2 : ∀ (n : Nat)  (a1 : Nat), m2 a1 < n → I2 a1 → RR sc goal fs 74 2 [some (rv p0), some (.int (J p1)), some (rv a1)] [] h := by
    intro n
    induction n with
    | zero => intro a1 q2 _; exact absurd q2 (Nat.not_lt_zero _)
    | succ n ih2 =>
      intro a1 q2 z2
      have w := y2 a1 z2
      refine r_aldn (pc1 := 3) rfl rfl rfl ?_
      refine r_null (t := 24) (pc1 := 6) rfl rfl rfl (fun c7 => ?_) (fun c7 => ?_)
      · have w := w.1 c7
        refine r_n (pc1 := 25) [.int (J 0)] _ rfl rfl ?_
        exact r_retB rfl rfl rfl (.inl rfl) (k _ (rgk rfl) (.inl rfl) w)
      · have w := w.2 c7
        refine r_aldn (pc1 := 7) rfl rfl rfl ?_
        refine r_n (pc1 := 8) [.int (J p1), rv a1] _ rfl rfl ?_
        obtain ⟨c3, w⟩ := w
        refine r_iv rfl rfl rfl rfl rfl rfl t0 c3 rfl (xe_of (xa_r (xa_i xa_0)) rfl rfl) (r_d0 hd rfl) (a_X10_isMetBy a1 p1 (r_d1 hd rfl) c3 rp1 w t0 (fun x4 rx4 vx4 w => ?_))
        refine r_fI (pc1 := 11) rfl ?_
        have w := w rx4 vx4
        refine r_iz (t := 16) (pc1 := 14) rfl rfl rfl rx4 (fun c6 => ?_) (fun c6 => ?_)
        · have w := w.1 c6
          refine r_aldn (pc1 := 17) rfl rfl rfl ?_
          refine r_gfR (pc1 := 20) rfl rfl rfl t0 c3 rfl rfl ?_
          refine r_vR (fun a5 ea5 => ?_)
          have w := w a5 ea5
          refine r_astn (pc1 := 21) (ls1 := [some (rv p0), some (.int (J p1)), some (rv a5)]) rfl rfl rfl rfl ?_
          refine r_goto (t := 2) rfl rfl ?_
          exact ih2  a5   (Nat.lt_of_lt_of_le w.2 (Nat.le_of_lt_succ q2)) w.1
        · have w := w.2 c6
          refine r_n (pc1 := 15) [.int (J 1)] _ rfl rfl ?_
          exact r_retB rfl rfl rfl (.inr rfl) (k _ (rgk rfl) (.inr rfl) w)
  exact Q2 _  p0   (Nat.lt_succ_self _) w
def w_X3_isMeeting (p0 : Int) (p1 : Nat) (K : Int → Prop) (h : XH) : Prop :=
  ((0 ≤ p0 ∧ p0 < 40) ∧ hk h p1 = 1 ∧ ((¬ hI h 13 p0.toNat = hI h p1 0 → (∀ x3 : Int, x3 = wr (p0 * 2) → rg x3 → (∃ (I5 : Int → Prop) (m5 : Int → Nat), I5 0 ∧ ∀ (x4 : Int), rg x4 → I5 x4 → (∃ J6 : Prop, (J6 → (K 0)) ∧ ((hI h 23 p0.toNat ≤ x4 → J6) ∧ (¬ (hI h 23 p0.toNat ≤ x4) → (((¬ hI h p1 1 = 0 → J6) ∧ (¬ (¬ hI h p1 1 = 0) → (∀ x7 : Int, x7 = wr (x3 + x4) → rg x7 → (0 ≤ x7 ∧ x7 < 80) ∧ ∃ J9 : Prop, (J9 → (∀ x10 : Int, x10 = wr (x4 + 1) → rg x10 → (I5 x10 ∧ m5 x10 < m5 x4))) ∧ ((¬ hI h 24 x7.toNat = hI h p1 0 → J9) ∧ (¬ (¬ hI h 24 x7.toNat = hI h p1 0) → (∀ x11 : Int, x11 = wr (x3 + x4) → rg x11 → (0 ≤ x11 ∧ x11 < 80) ∧ w_X10_isAnyMet (hR h p1 2) (hI h 25 x11.toNat) (fun x13 => rg x13 → (x13 = 0 ∨ x13 = 1) → (((x13 = 0 → J9) ∧ (¬ (x13 = 0) → (K 1))))) h))))))))))))) ∧ (¬ (¬ hI h 13 p0.toNat = hI h p1 0) → (w_X10_isAnyMet (hR h p1 2) (hI h 14 p0.toNat) (fun x18 => rg x18 → (x18 = 0 ∨ x18 = 1) → (K x18)) h))))
set_option maxHeartbeats 4000000 in
theorem a_X3_isMeeting {sc : Nat × (Nat → Int32)} {goal : XO → XH → Prop} {fs : List XF} {h : XH} (p0 : Int) (p1 : Nat) {K : Int → Prop} (hd : fs.length + 2 ≤ 1000) (rp0 : rg p0) (w : w_X3_isMeeting p0 p1 K h) (t0 : HT h) (k : ∀ (r : Int), rg r → (r = 0 ∨ r = 1) → K r → XFin xP sc goal fs (.inl (some (.int (J r)))) h) : RR sc goal fs 367 0 [some (rv 44), some (.int (J p0)), some (rv p1), none, none] [] h := by
  unfold w_X3_isMeeting at w
  refine r_aldn (pc1 := 1) rfl rfl rfl ?_
  refine r_gfC (pc1 := 4) (q := 9) rfl rfl rfl t0 (lyk t0 rfl) rfl rfl (lyR t0 rfl rfl) ?_
  refine r_gfC (pc1 := 7) (q := 13) rfl rfl rfl t0 (lyk t0 rfl) rfl rfl (lyR t0 rfl rfl) ?_
  refine r_n (pc1 := 8) [.int (J p0), rv 13] _ rfl rfl ?_
  obtain ⟨c1, w⟩ := w
  refine r_ial (pc1 := 9) rfl rfl t0 (lyk t0 rfl) rp0 c1.1 (lt_len (lyn t0 rfl) c1.2) ?_
  refine r_aldn (pc1 := 10) rfl rfl rfl ?_
  obtain ⟨c2, w⟩ := w
  refine r_gfI (pc1 := 13) rfl rfl rfl t0 c2 rfl rfl ?_
  refine r_ic (t := 33) (pc1 := 16) rfl rfl rfl (rgh _ _ _) (rgh _ _ _) (fun c19 => ?_) (fun c19 => ?_)
  · have w := w.1 c19
    refine r_n (pc1 := 34) [.int (J p0)] _ rfl rfl ?_
    refine r_n (pc1 := 35) [.int (J 2), .int (J p0)] _ rfl rfl ?_
    refine r_imul (pc1 := 36) rfl rfl ?_
    refine r_vI (rgw _) (fun x3 ex3 rx3 => ?_)
    have w := w x3 ex3 rx3
    refine r_istn (pc1 := 37) (ls1 := [some (rv 44), some (.int (J p0)), some (rv p1), some (.int (J x3)), none]) rfl rfl rfl (xput1_rv rfl rfl) ?_
    refine r_n (pc1 := 38) [.int (J 0)] _ rfl rfl ?_
    refine r_ist (pc1 := 40) (ls1 := [some (rv 44), some (.int (J p0)), some (rv p1), some (.int (J x3)), some (.int (J 0))]) rfl rfl rfl rfl ?_
    obtain ⟨I5, m5, w, y5⟩ := w
    have Q5 : ∀ (n : Nat)  (x4 : Int), rg x4 → m5 x4 < n → I5 x4 → RR sc goal fs 367 40 [some (rv 44), some (.int (J p0)), some (rv p1), some (.int (J x3)), some (.int (J x4))] [] h := by
      intro n
      induction n with
      | zero => intro x4 rx4 q5 _; exact absurd q5 (Nat.not_lt_zero _)
      | succ n ih5 =>
        intro x4 rx4 q5 z5
        have w := y5 x4 rx4 z5
        refine r_n (pc1 := 42) [.int (J x4)] _ rfl rfl ?_
        refine r_aldn (pc1 := 43) rfl rfl rfl ?_
        refine r_gfC (pc1 := 46) (q := 9) rfl rfl rfl t0 (lyk t0 rfl) rfl rfl (lyR t0 rfl rfl) ?_
        refine r_gfC (pc1 := 49) (q := 23) rfl rfl rfl t0 (lyk t0 rfl) rfl rfl (lyR t0 rfl rfl) ?_
        refine r_n (pc1 := 50) [.int (J p0), rv 23, .int (J x4)] _ rfl rfl ?_
        refine r_ial (pc1 := 51) rfl rfl t0 (lyk t0 rfl) rp0 c1.1 (lt_len (lyn t0 rfl) c1.2) ?_
        obtain ⟨J6, j6, w⟩ := w
        have Q6 : J6 → RR sc goal fs 367 110 [some (rv 44), some (.int (J p0)), some (rv p1), some (.int (J x3)), some (.int (J x4))] [] h := by
          intro z6
          have w := j6 z6
          refine r_n (pc1 := 111) [.int (J 0)] _ rfl rfl ?_
          exact r_retB rfl rfl rfl (.inl rfl) (k _ (rgk rfl) (.inl rfl) w)
        refine r_ic (t := 110) (pc1 := 54) rfl rfl rfl rx4 (rgh _ _ _) (fun c17 => ?_) (fun c17 => ?_)
        · have w := w.1 c17
          exact Q6     w
        · have w := w.2 c17
          refine r_aldn (pc1 := 55) rfl rfl rfl ?_
          refine r_gfI (pc1 := 58) rfl rfl rfl t0 c2 rfl rfl ?_
          refine r_iz (t := 110) (pc1 := 61) rfl rfl rfl (rgh _ _ _) (fun c16 => ?_) (fun c16 => ?_)
          · have w := w.1 c16
            exact Q6     w
          · have w := w.2 c16
            refine r_aldn (pc1 := 62) rfl rfl rfl ?_
            refine r_gfC (pc1 := 65) (q := 9) rfl rfl rfl t0 (lyk t0 rfl) rfl rfl (lyR t0 rfl rfl) ?_
            refine r_gfC (pc1 := 68) (q := 24) rfl rfl rfl t0 (lyk t0 rfl) rfl rfl (lyR t0 rfl rfl) ?_
            refine r_n (pc1 := 69) [.int (J x3), rv 24] _ rfl rfl ?_
            refine r_n (pc1 := 71) [.int (J x4), .int (J x3), rv 24] _ rfl rfl ?_
            refine r_iadd (pc1 := 72) rfl rfl ?_
            refine r_vI (rgw _) (fun x7 ex7 rx7 => ?_)
            have w := w x7 ex7 rx7
            obtain ⟨c8, w⟩ := w
            refine r_ial (pc1 := 73) rfl rfl t0 (lyk t0 rfl) rx7 c8.1 (lt_len (lyn t0 rfl) c8.2) ?_
            refine r_aldn (pc1 := 74) rfl rfl rfl ?_
            refine r_gfI (pc1 := 77) rfl rfl rfl t0 c2 rfl rfl ?_
            obtain ⟨J9, j9, w⟩ := w
            have Q9 : J9 → RR sc goal fs 367 104 [some (rv 44), some (.int (J p0)), some (rv p1), some (.int (J x3)), some (.int (J x4))] [] h := by
              intro z9
              have w := j9 z9
              refine r_inc (pc1 := 107) (g := fun zz => [some (rv 44), some (.int (J p0)), some (rv p1), some (.int (J x3)), some (.int (J zz))]) rfl rfl rfl rfl (fun _ => rfl) (fun x10 ex10 rx10 => ?_)
              have w := w x10 ex10 rx10
              refine r_goto (t := 40) rfl rfl ?_
              exact ih5  x10  rx10 (Nat.lt_of_lt_of_le w.2 (Nat.le_of_lt_succ q5)) w.1
            refine r_ic (t := 104) (pc1 := 80) rfl rfl rfl (rgh _ _ _) (rgh _ _ _) (fun c15 => ?_) (fun c15 => ?_)
            · have w := w.1 c15
              exact Q9     w
            · have w := w.2 c15
              refine r_aldn (pc1 := 81) rfl rfl rfl ?_
              refine r_gfR (pc1 := 84) rfl rfl rfl t0 c2 rfl rfl ?_
              refine r_aldn (pc1 := 85) rfl rfl rfl ?_
              refine r_gfC (pc1 := 88) (q := 9) rfl rfl rfl t0 (lyk t0 rfl) rfl rfl (lyR t0 rfl rfl) ?_
              refine r_gfC (pc1 := 91) (q := 25) rfl rfl rfl t0 (lyk t0 rfl) rfl rfl (lyR t0 rfl rfl) ?_
              refine r_n (pc1 := 92) [.int (J x3), rv 25, rv (hR h p1 2)] _ rfl rfl ?_
              refine r_n (pc1 := 94) [.int (J x4), .int (J x3), rv 25, rv (hR h p1 2)] _ rfl rfl ?_
              refine r_iadd (pc1 := 95) rfl rfl ?_
              refine r_vI (rgw _) (fun x11 ex11 rx11 => ?_)
              have w := w x11 ex11 rx11
              obtain ⟨c12, w⟩ := w
              refine r_ial (pc1 := 96) rfl rfl t0 (lyk t0 rfl) rx11 c12.1 (lt_len (lyn t0 rfl) c12.2) ?_
              refine r_iq rfl rfl rfl rfl rfl rfl (xe_of (xa_r (xa_i xa_0)) rfl rfl) (r_d0 hd rfl) (a_X10_isAnyMet (hR h p1 2) (hI h 25 x11.toNat) (r_d1 hd rfl) (rgh _ _ _) w t0 (fun x13 rx13 vx13 w => ?_))
              refine r_fI (pc1 := 99) rfl ?_
              have w := w rx13 vx13
              refine r_iz (t := 104) (pc1 := 102) rfl rfl rfl rx13 (fun c14 => ?_) (fun c14 => ?_)
              · have w := w.1 c14
                exact Q9     w
              · have w := w.2 c14
                refine r_n (pc1 := 103) [.int (J 1)] _ rfl rfl ?_
                exact r_retB rfl rfl rfl (.inr rfl) (k _ (rgk rfl) (.inr rfl) w)
    exact Q5 _  0  (rgk rfl) (Nat.lt_succ_self _) w
  · have w := w.2 c19
    refine r_aldn (pc1 := 17) rfl rfl rfl ?_
    refine r_gfR (pc1 := 20) rfl rfl rfl t0 c2 rfl rfl ?_
    refine r_aldn (pc1 := 21) rfl rfl rfl ?_
    refine r_gfC (pc1 := 24) (q := 9) rfl rfl rfl t0 (lyk t0 rfl) rfl rfl (lyR t0 rfl rfl) ?_
    refine r_gfC (pc1 := 27) (q := 14) rfl rfl rfl t0 (lyk t0 rfl) rfl rfl (lyR t0 rfl rfl) ?_
    refine r_n (pc1 := 28) [.int (J p0), rv 14, rv (hR h p1 2)] _ rfl rfl ?_
    refine r_ial (pc1 := 29) rfl rfl t0 (lyk t0 rfl) rp0 c1.1 (lt_len (lyn t0 rfl) c1.2) ?_
    refine r_iq rfl rfl rfl rfl rfl rfl (xe_of (xa_r (xa_i xa_0)) rfl rfl) (r_d0 hd rfl) (a_X10_isAnyMet (hR h p1 2) (hI h 14 p0.toNat) (r_d1 hd rfl) (rgh _ _ _) w t0 (fun x18 rx18 vx18 w => ?_))
    refine r_fI (pc1 := 32) rfl ?_
    have w := w rx18 vx18
    exact r_retB rfl rfl rfl vx18 (k _ rx18 vx18 w)
def w_X3_meeting (p0 : Nat) (K : BitVec 64 → Prop) (h : XH) : Prop :=
  ((∃ (I5 : BitVec 64 → Nat → Prop) (m5 : BitVec 64 → Nat → Nat), I5 (0#64) p0 ∧ ∀ (b2 : BitVec 64) (a3 : Nat), I5 b2 a3 → (((a3 = 0 → (K b2)) ∧ (¬ (a3 = 0) → ((∃ (I9 : BitVec 64 → Int → Prop) (m9 : BitVec 64 → Int → Nat), I9 b2 0 ∧ ∀ (b7 : BitVec 64) (x8 : Int), rg x8 → I9 b7 x8 → (((hI h 9 1 ≤ x8 → (hk h a3 = 1 ∧ ∀ a11 : Nat, a11 = hR h a3 3 → (I5 b7 a11 ∧ m5 b7 a11 < m5 b2 a3))) ∧ (¬ (hI h 9 1 ≤ x8) → (w_X3_isMeeting x8 a3 (fun x12 => rg x12 → (x12 = 0 ∨ x12 = 1) → (∃ J14 : BitVec 64 → Prop, (∀ (b13 : BitVec 64), J14 b13 → (∀ b15 : BitVec 64, b15 = b7 ||| b13 → ∀ x16 : Int, x16 = wr (x8 + 1) → rg x16 → (I9 b15 x16 ∧ m9 b15 x16 < m9 b7 x8))) ∧ ((x12 = 0 → (J14 (0#64))) ∧ (¬ (x12 = 0) → (J14 (lshl (1#64) x8)))))) h)))))))))))
set_option maxHeartbeats 4000000 in
theorem a_X3_meeting {sc : Nat × (Nat → Int32)} {goal : XO → XH → Prop} {fs : List XF} {h : XH} (p0 : Nat) {K : BitVec 64 → Prop} (hd : fs.length + 3 ≤ 1000) (w : w_X3_meeting p0 K h) (t0 : HT h) (k : ∀ (r : BitVec 64), K r → XFin xP sc goal fs (.inl (some (.long (G r)))) h) : RR sc goal fs 371 0 [some (rv 44), some (rv p0), none, none, none, none] [] h := by
  unfold w_X3_meeting at w
  refine r_n (pc1 := 1) [.long (G (0#64))] _ rfl rfl ?_
  refine r_lstn (pc1 := 2) (ls1 := [some (rv 44), some (rv p0), some (.long (G (0#64))), none, none, none]) rfl rfl rfl (xput2_rv rfl rfl) ?_
  refine r_aldn (pc1 := 3) rfl rfl rfl ?_
  refine r_ast (pc1 := 5) (ls1 := [some (rv 44), some (rv p0), some (.long (G (0#64))), none, some (rv p0), none]) rfl rfl rfl rfl ?_
  obtain ⟨I5, m5, w, y5⟩ := w
  have Q5 : ∀ (n : Nat) (d1 : Option Value) (d4 : Option Value) (b2 : BitVec 64) (a3 : Nat), m5 b2 a3 < n → I5 b2 a3 → RR sc goal fs 371 5 [some (rv 44), d1, some (.long (G b2)), none, some (rv a3), d4] [] h := by
    intro n
    induction n with
    | zero => intro d1 d4 b2 a3 q5 _; exact absurd q5 (Nat.not_lt_zero _)
    | succ n ih5 =>
      intro d1 d4 b2 a3 q5 z5
      have w := y5 b2 a3 z5
      refine r_ald (pc1 := 7) rfl rfl rfl ?_
      refine r_null (t := 63) (pc1 := 10) rfl rfl rfl (fun c19 => ?_) (fun c19 => ?_)
      · have w := w.1 c19
        refine r_n (pc1 := 64) [.long (G b2)] _ rfl rfl ?_
        exact r_retL rfl rfl rfl (k _ w)
      · have w := w.2 c19
        refine r_n (pc1 := 11) [.int (J 0)] _ rfl rfl ?_
        refine r_ist (pc1 := 13) (ls1 := [some (rv 44), d1, some (.long (G b2)), none, some (rv a3), some (.int (J 0))]) rfl rfl rfl (xput1_rv rfl rfl) ?_
        obtain ⟨I9, m9, w, y9⟩ := w
        have Q9 : ∀ (n : Nat) (d6 : Option Value) (b7 : BitVec 64) (x8 : Int), rg x8 → m9 b7 x8 < n → I9 b7 x8 → RR sc goal fs 371 13 [some (rv 44), d6, some (.long (G b7)), none, some (rv a3), some (.int (J x8))] [] h := by
          intro n
          induction n with
          | zero => intro d6 b7 x8 rx8 q9 _; exact absurd q9 (Nat.not_lt_zero _)
          | succ n ih9 =>
            intro d6 b7 x8 rx8 q9 z9
            have w := y9 b7 x8 rx8 z9
            refine r_n (pc1 := 15) [.int (J x8)] _ rfl rfl ?_
            refine r_aldn (pc1 := 16) rfl rfl rfl ?_
            refine r_gfC (pc1 := 19) (q := 9) rfl rfl rfl t0 (lyk t0 rfl) rfl rfl (lyR t0 rfl rfl) ?_
            refine r_gfI (pc1 := 22) rfl rfl rfl t0 (lyk t0 rfl) rfl rfl ?_
            refine r_ic (t := 53) (pc1 := 25) rfl rfl rfl rx8 (rgh _ _ _) (fun c18 => ?_) (fun c18 => ?_)
            · have w := w.1 c18
              refine r_ald (pc1 := 55) rfl rfl rfl ?_
              obtain ⟨c10, w⟩ := w
              refine r_gfR (pc1 := 58) rfl rfl rfl t0 c10 rfl rfl ?_
              refine r_vR (fun a11 ea11 => ?_)
              have w := w a11 ea11
              refine r_ast (pc1 := 60) (ls1 := [some (rv 44), d6, some (.long (G b7)), none, some (rv a11), some (.int (J x8))]) rfl rfl rfl rfl ?_
              refine r_goto (t := 5) rfl rfl ?_
              exact ih5 _ _ b7 a11   (Nat.lt_of_lt_of_le w.2 (Nat.le_of_lt_succ q5)) w.1
            · have w := w.2 c18
              refine r_n (pc1 := 26) [.long (G b7)] _ rfl rfl ?_
              refine r_aldn (pc1 := 27) rfl rfl rfl ?_
              refine r_n (pc1 := 29) [.int (J x8), rv 44, .long (G b7)] _ rfl rfl ?_
              refine r_ald (pc1 := 31) rfl rfl rfl ?_
              refine r_iv rfl rfl rfl rfl rfl rfl t0 (lyk t0 rfl) rfl (xe_of (xa_r (xa_i (xa_r xa_0))) rfl rfl) (r_d0 hd rfl) (a_X3_isMeeting x8 a3 (r_d1 hd rfl) rx8 w t0 (fun x12 rx12 vx12 w => ?_))
              refine r_fI (pc1 := 34) rfl ?_
              have w := w rx12 vx12
              obtain ⟨J14, j14, w⟩ := w
              have Q14 : ∀ (b13 : BitVec 64), J14 b13 → RR sc goal fs 371 45 [some (rv 44), d6, some (.long (G b7)), none, some (rv a3), some (.int (J x8))] [.long (G b13), .long (G b7)] h := by
                intro b13 z14
                have w := j14 b13 z14
                refine r_lor (pc1 := 46) rfl rfl ?_
                refine r_vL (fun b15 eb15 => ?_)
                have w := w b15 eb15
                refine r_lstn (pc1 := 47) (ls1 := [some (rv 44), (dcl d6), some (.long (G b15)), none, some (rv a3), some (.int (J x8))]) rfl rfl rfl (xput2_d rfl rfl) ?_
                refine r_inc (pc1 := 50) (g := fun zz => [some (rv 44), (dcl d6), some (.long (G b15)), none, some (rv a3), some (.int (J zz))]) rfl rfl rfl rfl (fun _ => xput1_rv rfl rfl) (fun x16 ex16 rx16 => ?_)
                have w := w x16 ex16 rx16
                refine r_goto (t := 13) rfl rfl ?_
                exact ih9 _ b15 x16  rx16 (Nat.lt_of_lt_of_le w.2 (Nat.le_of_lt_succ q9)) w.1
              refine r_iz (t := 44) (pc1 := 37) rfl rfl rfl rx12 (fun c17 => ?_) (fun c17 => ?_)
              · have w := w.1 c17
                refine r_n (pc1 := 45) [.long (G (0#64)), .long (G b7)] _ rfl rfl ?_
                exact Q14  (0#64)   w
              · have w := w.2 c17
                refine r_n (pc1 := 38) [.long (G (1#64)), .long (G b7)] _ rfl rfl ?_
                refine r_n (pc1 := 40) [.int (J x8), .long (G (1#64)), .long (G b7)] _ rfl rfl ?_
                refine r_lshl (pc1 := 41) rfl rfl ?_
                refine r_goto (t := 45) rfl rfl ?_
                exact Q14  (lshl (1#64) x8)   w
        exact Q9 _ _ b2 0  (rgk rfl) (Nat.lt_succ_self _) w
  exact Q5 _ _ _ (0#64) p0   (Nat.lt_succ_self _) w
def w_X8_withOption (p0 : Int) (K : BitVec 64 → Prop) (h : XH) : Prop :=
  ((∃ (I3 : BitVec 64 → Int → Prop) (m3 : BitVec 64 → Int → Nat), I3 (0#64) 0 ∧ ∀ (b1 : BitVec 64) (x2 : Int), rg x2 → I3 b1 x2 → (((hI h 9 1 ≤ x2 → (K b1)) ∧ (¬ (hI h 9 1 ≤ x2) → ((0 ≤ x2 ∧ x2 < 40) ∧ ∃ J6 : BitVec 64 → Prop, (∀ (b5 : BitVec 64), J6 b5 → (∀ x7 : Int, x7 = wr (x2 + 1) → rg x7 → (I3 b5 x7 ∧ m3 b5 x7 < m3 b1 x2))) ∧ ((¬ hI h 13 x2.toNat = p0 → J6 b1) ∧ (¬ (¬ hI h 13 x2.toNat = p0) → (((hR h 26 x2.toNat = 0 → J6 b1) ∧ (¬ (hR h 26 x2.toNat = 0) → (∀ b8 : BitVec 64, b8 = b1 ||| (lshl (1#64) x2) → J6 b8))))))))))))
set_option maxHeartbeats 4000000 in
theorem a_X8_withOption {sc : Nat × (Nat → Int32)} {goal : XO → XH → Prop} {fs : List XF} {h : XH} (p0 : Int) {K : BitVec 64 → Prop} (hd : fs.length + 0 ≤ 1000) (rp0 : rg p0) (w : w_X8_withOption p0 K h) (t0 : HT h) (k : ∀ (r : BitVec 64), K r → XFin xP sc goal fs (.inl (some (.long (G r)))) h) : RR sc goal fs 467 0 [some (rv 9), some (.int (J p0)), none, none, none] [] h := by
  unfold w_X8_withOption at w
  refine r_n (pc1 := 1) [.long (G (0#64))] _ rfl rfl ?_
  refine r_lstn (pc1 := 2) (ls1 := [some (rv 9), some (.int (J p0)), some (.long (G (0#64))), none, none]) rfl rfl rfl rfl ?_
  refine r_n (pc1 := 3) [.int (J 0)] _ rfl rfl ?_
  refine r_ist (pc1 := 5) (ls1 := [some (rv 9), some (.int (J p0)), some (.long (G (0#64))), none, some (.int (J 0))]) rfl rfl rfl rfl ?_
  obtain ⟨I3, m3, w, y3⟩ := w
  have Q3 : ∀ (n : Nat)  (b1 : BitVec 64) (x2 : Int), rg x2 → m3 b1 x2 < n → I3 b1 x2 → RR sc goal fs 467 5 [some (rv 9), some (.int (J p0)), some (.long (G b1)), none, some (.int (J x2))] [] h := by
    intro n
    induction n with
    | zero => intro b1 x2 rx2 q3 _; exact absurd q3 (Nat.not_lt_zero _)
    | succ n ih3 =>
      intro b1 x2 rx2 q3 z3
      have w := y3 b1 x2 rx2 z3
      refine r_n (pc1 := 7) [.int (J x2)] _ rfl rfl ?_
      refine r_aldn (pc1 := 8) rfl rfl rfl ?_
      refine r_gfI (pc1 := 11) rfl rfl rfl t0 (lyk t0 rfl) rfl rfl ?_
      refine r_ic (t := 48) (pc1 := 14) rfl rfl rfl rx2 (rgh _ _ _) (fun c11 => ?_) (fun c11 => ?_)
      · have w := w.1 c11
        refine r_n (pc1 := 49) [.long (G b1)] _ rfl rfl ?_
        exact r_retL rfl rfl rfl (k _ w)
      · have w := w.2 c11
        refine r_aldn (pc1 := 15) rfl rfl rfl ?_
        refine r_gfC (pc1 := 18) (q := 13) rfl rfl rfl t0 (lyk t0 rfl) rfl rfl (lyR t0 rfl rfl) ?_
        refine r_n (pc1 := 20) [.int (J x2), rv 13] _ rfl rfl ?_
        obtain ⟨c4, w⟩ := w
        refine r_ial (pc1 := 21) rfl rfl t0 (lyk t0 rfl) rx2 c4.1 (lt_len (lyn t0 rfl) c4.2) ?_
        refine r_n (pc1 := 22) [.int (J p0), .int (J (hI h 13 x2.toNat))] _ rfl rfl ?_
        obtain ⟨J6, j6, w⟩ := w
        have Q6 : ∀ (b5 : BitVec 64), J6 b5 → RR sc goal fs 467 42 [some (rv 9), some (.int (J p0)), some (.long (G b5)), none, some (.int (J x2))] [] h := by
          intro b5 z6
          have w := j6 b5 z6
          refine r_inc (pc1 := 45) (g := fun zz => [some (rv 9), some (.int (J p0)), some (.long (G b5)), none, some (.int (J zz))]) rfl rfl rfl rfl (fun _ => rfl) (fun x7 ex7 rx7 => ?_)
          have w := w x7 ex7 rx7
          refine r_goto (t := 5) rfl rfl ?_
          exact ih3  b5 x7  rx7 (Nat.lt_of_lt_of_le w.2 (Nat.le_of_lt_succ q3)) w.1
        refine r_ic (t := 42) (pc1 := 25) rfl rfl rfl (rgh _ _ _) rp0 (fun c10 => ?_) (fun c10 => ?_)
        · have w := w.1 c10
          exact Q6  b1   w
        · have w := w.2 c10
          refine r_aldn (pc1 := 26) rfl rfl rfl ?_
          refine r_gfC (pc1 := 29) (q := 26) rfl rfl rfl t0 (lyk t0 rfl) rfl rfl (lyR t0 rfl rfl) ?_
          refine r_n (pc1 := 31) [.int (J x2), rv 26] _ rfl rfl ?_
          refine r_aal (pc1 := 32) (u := 3) rfl rfl t0 (lyk t0 rfl) rfl rfl rx2 c4.1 (lt_len (lyn t0 rfl) c4.2) ?_
          refine r_null (t := 42) (pc1 := 35) rfl rfl rfl (fun c9 => ?_) (fun c9 => ?_)
          · have w := w.1 c9
            exact Q6  b1   w
          · have w := w.2 c9
            refine r_n (pc1 := 36) [.long (G b1)] _ rfl rfl ?_
            refine r_n (pc1 := 37) [.long (G (1#64)), .long (G b1)] _ rfl rfl ?_
            refine r_n (pc1 := 39) [.int (J x2), .long (G (1#64)), .long (G b1)] _ rfl rfl ?_
            refine r_lshl (pc1 := 40) rfl rfl ?_
            refine r_lor (pc1 := 41) rfl rfl ?_
            refine r_vL (fun b8 eb8 => ?_)
            have w := w b8 eb8
            refine r_lstn (pc1 := 42) (ls1 := [some (rv 9), some (.int (J p0)), some (.long (G b8)), none, some (.int (J x2))]) rfl rfl rfl rfl ?_
            exact Q6  b8   w
  exact Q3 _  (0#64) 0  (rgk rfl) (Nat.lt_succ_self _) w
def w_X8_versionsOf (p0 : Int) (K : BitVec 64 → Prop) (h : XH) : Prop :=
  ((0 ≤ p0 ∧ p0 < 12) ∧ K ((hL h 11 p0.toNat) &&& (1099511627775#64)))
set_option maxHeartbeats 4000000 in
theorem a_X8_versionsOf {sc : Nat × (Nat → Int32)} {goal : XO → XH → Prop} {fs : List XF} {h : XH} (p0 : Int) {K : BitVec 64 → Prop} (hd : fs.length + 0 ≤ 1000) (rp0 : rg p0) (w : w_X8_versionsOf p0 K h) (t0 : HT h) (k : ∀ (r : BitVec 64), K r → XFin xP sc goal fs (.inl (some (.long (G r)))) h) : RR sc goal fs 466 0 [some (rv 9), some (.int (J p0))] [] h := by
  unfold w_X8_versionsOf at w
  refine r_aldn (pc1 := 1) rfl rfl rfl ?_
  refine r_gfC (pc1 := 4) (q := 11) rfl rfl rfl t0 (lyk t0 rfl) rfl rfl (lyR t0 rfl rfl) ?_
  refine r_n (pc1 := 5) [.int (J p0), rv 11] _ rfl rfl ?_
  obtain ⟨c1, w⟩ := w
  refine r_lal (pc1 := 6) rfl rfl t0 (lyk t0 rfl) rp0 c1.1 (lt_len (lyn t0 rfl) c1.2) ?_
  refine r_n (pc1 := 9) [.long (G (1099511627775#64)), .long (G (hL h 11 p0.toNat))] _ rfl rfl ?_
  refine r_land (pc1 := 10) rfl rfl ?_
  exact r_retL rfl rfl rfl (k _ w)
def w_X8_inRangeOf (p0 : Int) (p1 : Nat) (K : BitVec 64 → Prop) (h : XH) : Prop :=
  ((∃ (I3 : BitVec 64 → Int → Prop) (m3 : BitVec 64 → Int → Nat), I3 (0#64) 0 ∧ ∀ (b1 : BitVec 64) (x2 : Int), rg x2 → I3 b1 x2 → (((hI h 9 1 ≤ x2 → (K b1)) ∧ (¬ (hI h 9 1 ≤ x2) → ((0 ≤ x2 ∧ x2 < 40) ∧ ∃ J6 : BitVec 64 → Prop, (∀ (b5 : BitVec 64), J6 b5 → (∀ x7 : Int, x7 = wr (x2 + 1) → rg x7 → (I3 b5 x7 ∧ m3 b5 x7 < m3 b1 x2))) ∧ ((¬ hI h 13 x2.toNat = p0 → J6 b1) ∧ (¬ (¬ hI h 13 x2.toNat = p0) → (w_X10_isAnyMet p1 (hI h 14 x2.toNat) (fun x8 => rg x8 → (x8 = 0 ∨ x8 = 1) → (((x8 = 0 → J6 b1) ∧ (¬ (x8 = 0) → (∀ b9 : BitVec 64, b9 = b1 ||| (lshl (1#64) x2) → J6 b9))))) h)))))))))
set_option maxHeartbeats 4000000 in
theorem a_X8_inRangeOf {sc : Nat × (Nat → Int32)} {goal : XO → XH → Prop} {fs : List XF} {h : XH} (p0 : Int) (p1 : Nat) {K : BitVec 64 → Prop} (hd : fs.length + 2 ≤ 1000) (rp0 : rg p0) (w : w_X8_inRangeOf p0 p1 K h) (t0 : HT h) (k : ∀ (r : BitVec 64), K r → XFin xP sc goal fs (.inl (some (.long (G r)))) h) : RR sc goal fs 460 0 [some (rv 9), some (.int (J p0)), some (rv p1), none, none, none] [] h := by
  unfold w_X8_inRangeOf at w
  refine r_n (pc1 := 1) [.long (G (0#64))] _ rfl rfl ?_
  refine r_lstn (pc1 := 2) (ls1 := [some (rv 9), some (.int (J p0)), some (rv p1), some (.long (G (0#64))), none, none]) rfl rfl rfl (xput2_rv rfl rfl) ?_
  refine r_n (pc1 := 3) [.int (J 0)] _ rfl rfl ?_
  refine r_ist (pc1 := 5) (ls1 := [some (rv 9), some (.int (J p0)), some (rv p1), some (.long (G (0#64))), none, some (.int (J 0))]) rfl rfl rfl rfl ?_
  obtain ⟨I3, m3, w, y3⟩ := w
  have Q3 : ∀ (n : Nat)  (b1 : BitVec 64) (x2 : Int), rg x2 → m3 b1 x2 < n → I3 b1 x2 → RR sc goal fs 460 5 [some (rv 9), some (.int (J p0)), some (rv p1), some (.long (G b1)), none, some (.int (J x2))] [] h := by
    intro n
    induction n with
    | zero => intro b1 x2 rx2 q3 _; exact absurd q3 (Nat.not_lt_zero _)
    | succ n ih3 =>
      intro b1 x2 rx2 q3 z3
      have w := y3 b1 x2 rx2 z3
      refine r_n (pc1 := 7) [.int (J x2)] _ rfl rfl ?_
      refine r_aldn (pc1 := 8) rfl rfl rfl ?_
      refine r_gfI (pc1 := 11) rfl rfl rfl t0 (lyk t0 rfl) rfl rfl ?_
      refine r_ic (t := 52) (pc1 := 14) rfl rfl rfl rx2 (rgh _ _ _) (fun c12 => ?_) (fun c12 => ?_)
      · have w := w.1 c12
        refine r_n (pc1 := 53) [.long (G b1)] _ rfl rfl ?_
        exact r_retL rfl rfl rfl (k _ w)
      · have w := w.2 c12
        refine r_aldn (pc1 := 15) rfl rfl rfl ?_
        refine r_gfC (pc1 := 18) (q := 13) rfl rfl rfl t0 (lyk t0 rfl) rfl rfl (lyR t0 rfl rfl) ?_
        refine r_n (pc1 := 20) [.int (J x2), rv 13] _ rfl rfl ?_
        obtain ⟨c4, w⟩ := w
        refine r_ial (pc1 := 21) rfl rfl t0 (lyk t0 rfl) rx2 c4.1 (lt_len (lyn t0 rfl) c4.2) ?_
        refine r_n (pc1 := 22) [.int (J p0), .int (J (hI h 13 x2.toNat))] _ rfl rfl ?_
        obtain ⟨J6, j6, w⟩ := w
        have Q6 : ∀ (b5 : BitVec 64), J6 b5 → RR sc goal fs 460 46 [some (rv 9), some (.int (J p0)), some (rv p1), some (.long (G b5)), none, some (.int (J x2))] [] h := by
          intro b5 z6
          have w := j6 b5 z6
          refine r_inc (pc1 := 49) (g := fun zz => [some (rv 9), some (.int (J p0)), some (rv p1), some (.long (G b5)), none, some (.int (J zz))]) rfl rfl rfl rfl (fun _ => rfl) (fun x7 ex7 rx7 => ?_)
          have w := w x7 ex7 rx7
          refine r_goto (t := 5) rfl rfl ?_
          exact ih3  b5 x7  rx7 (Nat.lt_of_lt_of_le w.2 (Nat.le_of_lt_succ q3)) w.1
        refine r_ic (t := 46) (pc1 := 25) rfl rfl rfl (rgh _ _ _) rp0 (fun c11 => ?_) (fun c11 => ?_)
        · have w := w.1 c11
          exact Q6  b1   w
        · have w := w.2 c11
          refine r_aldn (pc1 := 26) rfl rfl rfl ?_
          refine r_aldn (pc1 := 27) rfl rfl rfl ?_
          refine r_gfC (pc1 := 30) (q := 14) rfl rfl rfl t0 (lyk t0 rfl) rfl rfl (lyR t0 rfl rfl) ?_
          refine r_n (pc1 := 32) [.int (J x2), rv 14, rv p1] _ rfl rfl ?_
          refine r_ial (pc1 := 33) rfl rfl t0 (lyk t0 rfl) rx2 c4.1 (lt_len (lyn t0 rfl) c4.2) ?_
          refine r_iq rfl rfl rfl rfl rfl rfl (xe_of (xa_r (xa_i xa_0)) rfl rfl) (r_d0 hd rfl) (a_X10_isAnyMet p1 (hI h 14 x2.toNat) (r_d1 hd rfl) (rgh _ _ _) w t0 (fun x8 rx8 vx8 w => ?_))
          refine r_fI (pc1 := 36) rfl ?_
          have w := w rx8 vx8
          refine r_iz (t := 46) (pc1 := 39) rfl rfl rfl rx8 (fun c10 => ?_) (fun c10 => ?_)
          · have w := w.1 c10
            exact Q6  b1   w
          · have w := w.2 c10
            refine r_n (pc1 := 40) [.long (G b1)] _ rfl rfl ?_
            refine r_n (pc1 := 41) [.long (G (1#64)), .long (G b1)] _ rfl rfl ?_
            refine r_n (pc1 := 43) [.int (J x2), .long (G (1#64)), .long (G b1)] _ rfl rfl ?_
            refine r_lshl (pc1 := 44) rfl rfl ?_
            refine r_lor (pc1 := 45) rfl rfl ?_
            refine r_vL (fun b9 eb9 => ?_)
            have w := w b9 eb9
            refine r_lstn (pc1 := 46) (ls1 := [some (rv 9), some (.int (J p0)), some (rv p1), some (.long (G b9)), none, some (.int (J x2))]) rfl rfl rfl (xput2_rv rfl rfl) ?_
            exact Q6  b9   w
  exact Q3 _  (0#64) 0  (rgk rfl) (Nat.lt_succ_self _) w
def w_X3_renew  (K : XH → Prop) (h : XH) : Prop :=
  ((∃ (I4 : Int → XH → Prop) (m4 : Int → XH → Nat), I4 0 h ∧ ∀ (x1 : Int) (h3 : XH), HT h3 → HX h h3 → rg x1 → I4 x1 h3 → (((hI h3 9 1 ≤ x1 → (w_X11_atHand (fun a5 => ((∃ (I8 : Int → XH → Prop) (m8 : Int → XH → Nat), I8 0 h3 ∧ ∀ (x6 : Int) (h7 : XH), HT h7 → HX h h7 → rg x6 → I8 x6 h7 → (hk h7 a5 = 7 ∧ ((hI h7 a5 0 ≤ x6 → ((∃ (I13 : Int → XH → Prop) (m13 : Int → XH → Nat), I13 0 h7 ∧ ∀ (x10 : Int) (h12 : XH), HT h12 → HX h h12 → rg x10 → I13 x10 h12 → (((hI h12 9 0 ≤ x10 → (K h12)) ∧ (¬ (hI h12 9 0 ≤ x10) → (w_X8_withOption x10 (fun b14 => ((0 ≤ x10 ∧ x10 < 12) ∧ ∀ h16 : XH, h16 = sL h12 48 x10.toNat b14 → HT h16 → HX h12 h16 → hk h16 a5 = 7 ∧ ∀ a18 : Nat, a18 = hR h16 (a5 + 2) x10.toNat → ∃ J20 : BitVec 64 → Prop, (∀ (b19 : BitVec 64), J20 b19 → (∀ h21 : XH, h21 = sL h16 50 x10.toNat b19 → HT h21 → HX h16 h21 → ∀ x22 : Int, x22 = wr (x10 + 1) → rg x22 → (I13 x22 h21 ∧ m13 x22 h21 < m13 x10 h12))) ∧ ((¬ a18 = 0 → (w_X8_versionsOf x10 (fun b23 => (w_X8_inRangeOf x10 a18 (fun b24 => (J20 (b23 &&& (b24 ^^^ (18446744073709551615#64))))) h16)) h16)) ∧ (¬ (¬ a18 = 0) → (J20 (0#64)))))) h12))))))) ∧ (¬ (hI h7 a5 0 ≤ x6) → ((0 ≤ x6 ∧ x6 < 8) ∧ w_X3_meeting (hR h7 (a5 + 1) x6.toNat) (fun b28 => (∀ h29 : XH, h29 = sL h7 49 x6.toNat b28 → HT h29 → HX h7 h29 → ∀ x30 : Int, x30 = wr (x6 + 1) → rg x30 → (I8 x30 h29 ∧ m8 x30 h29 < m8 x6 h7))) h7))))))) h3)) ∧ (¬ (hI h3 9 1 ≤ x1) → ((∃ (I34 : Int → XH → Prop) (m34 : Int → XH → Nat), I34 0 h3 ∧ ∀ (x32 : Int) (h33 : XH), HT h33 → HX h h33 → rg x32 → I34 x32 h33 → ((0 ≤ x1 ∧ x1 < 40) ∧ ((hI h33 18 x1.toNat ≤ x32 → ((∃ (I38 : Int → XH → Prop) (m38 : Int → XH → Nat), I38 0 h33 ∧ ∀ (x36 : Int) (h37 : XH), HT h37 → HX h h37 → rg x36 → I38 x36 h37 → (((hI h37 21 x1.toNat ≤ x36 → (w_X3_meeting (hR h37 26 x1.toNat) (fun b39 => (∀ h40 : XH, h40 = sL h37 47 x1.toNat b39 → HT h40 → HX h37 h40 → ∀ x41 : Int, x41 = wr (x1 + 1) → rg x41 → (I4 x41 h40 ∧ m4 x41 h40 < m4 x1 h3))) h37)) ∧ (¬ (hI h37 21 x1.toNat ≤ x36) → (∀ x42 : Int, x42 = wr ((wr (x1 * 2)) + x36) → rg x42 → (0 ≤ x42 ∧ x42 < 80) ∧ w_X3_meeting (hR h37 22 x42.toNat) (fun b44 => ((0 ≤ wr ((wr (x1 * 2)) + x36) ∧ wr ((wr (x1 * 2)) + x36) < 80) ∧ ∀ h46 : XH, h46 = sL h37 46 (wr ((wr (x1 * 2)) + x36)).toNat b44 → HT h46 → HX h37 h46 → ∀ x47 : Int, x47 = wr (x36 + 1) → rg x47 → (I38 x47 h46 ∧ m38 x47 h46 < m38 x36 h37))) h37))))))) ∧ (¬ (hI h33 18 x1.toNat ≤ x32) → (∀ x49 : Int, x49 = wr ((wr (x1 * 3)) + x32) → rg x49 → (0 ≤ x49 ∧ x49 < 120) ∧ w_X3_meeting (hR h33 19 x49.toNat) (fun b51 => ((0 ≤ wr ((wr (x1 * 3)) + x32) ∧ wr ((wr (x1 * 3)) + x32) < 120) ∧ ∀ h53 : XH, h53 = sL h33 45 (wr ((wr (x1 * 3)) + x32)).toNat b51 → HT h53 → HX h33 h53 → ∀ x54 : Int, x54 = wr (x32 + 1) → rg x54 → (I34 x54 h53 ∧ m34 x54 h53 < m34 x32 h33))) h33)))))))))))
set_option maxHeartbeats 4000000 in
theorem a_X3_renew {sc : Nat × (Nat → Int32)} {goal : XO → XH → Prop} {fs : List XF} {h : XH}  {K : XH → Prop} (hd : fs.length + 4 ≤ 1000) (w : w_X3_renew  K h) (t0 : HT h) (k : ∀ (h1 : XH), HT h1 → HX h h1 → K h1 → XFin xP sc goal fs (.inl none) h1) : RR sc goal fs 372 0 [some (rv 44), none, none, none] [] h := by
  unfold w_X3_renew at w
  refine r_n (pc1 := 1) [.int (J 0)] _ rfl rfl ?_
  refine r_istn (pc1 := 2) (ls1 := [some (rv 44), some (.int (J 0)), none, none]) rfl rfl rfl rfl ?_
  obtain ⟨I4, m4, w, y4⟩ := w
  have Q4 : ∀ (n : Nat) (d2 : Option Value) (x1 : Int) (h3 : XH), HT h3 → HX h h3 → rg x1 → m4 x1 h3 < n → I4 x1 h3 → RR sc goal fs 372 2 [some (rv 44), some (.int (J x1)), d2, none] [] h3 := by
    intro n
    induction n with
    | zero => intro d2 x1 h3 t3 s3 rx1 q4 _; exact absurd q4 (Nat.not_lt_zero _)
    | succ n ih4 =>
      intro d2 x1 h3 t3 s3 rx1 q4 z4
      have w := y4 x1 h3 t3 s3 rx1 z4
      refine r_n (pc1 := 3) [.int (J x1)] _ rfl rfl ?_
      refine r_aldn (pc1 := 4) rfl rfl rfl ?_
      refine r_gfC (pc1 := 7) (q := 9) rfl rfl rfl t3 (lyk t3 rfl) rfl rfl (lyR t3 rfl rfl) ?_
      refine r_gfI (pc1 := 10) rfl rfl rfl t3 (lyk t3 rfl) rfl rfl ?_
      refine r_ic (t := 134) (pc1 := 13) rfl rfl rfl rx1 (rgh _ _ _) (fun c56 => ?_) (fun c56 => ?_)
      · have w := w.1 c56
        refine r_aldn (pc1 := 135) rfl rfl rfl ?_
        refine r_gfC (pc1 := 138) (q := 8) rfl rfl rfl t3 (lyk t3 rfl) rfl rfl (lyR t3 rfl rfl) ?_
        refine r_iv rfl rfl rfl rfl rfl rfl t3 (lyk t3 rfl) rfl (xe_of (xa_r xa_0) rfl rfl) (r_d0 hd rfl) (a_X11_atHand  (r_d1 hd rfl)  w t3 (fun a5 w => ?_))
        refine r_fR (pc1 := 141) rfl ?_
        refine r_astn (pc1 := 142) (ls1 := [some (rv 44), some (rv a5), d2, none]) rfl rfl rfl rfl ?_
        refine r_n (pc1 := 143) [.int (J 0)] _ rfl rfl ?_
        refine r_istn (pc1 := 144) (ls1 := [some (rv 44), some (rv a5), some (.int (J 0)), none]) rfl rfl rfl (xput1_rv rfl rfl) ?_
        obtain ⟨I8, m8, w, y8⟩ := w
        have Q8 : ∀ (n : Nat)  (x6 : Int) (h7 : XH), HT h7 → HX h h7 → rg x6 → m8 x6 h7 < n → I8 x6 h7 → RR sc goal fs 372 144 [some (rv 44), some (rv a5), some (.int (J x6)), none] [] h7 := by
          intro n
          induction n with
          | zero => intro x6 h7 t7 s7 rx6 q8 _; exact absurd q8 (Nat.not_lt_zero _)
          | succ n ih8 =>
            intro x6 h7 t7 s7 rx6 q8 z8
            have w := y8 x6 h7 t7 s7 rx6 z8
            refine r_n (pc1 := 145) [.int (J x6)] _ rfl rfl ?_
            refine r_aldn (pc1 := 146) rfl rfl rfl ?_
            obtain ⟨c9, w⟩ := w
            refine r_gfI (pc1 := 149) rfl rfl rfl t7 c9 rfl rfl ?_
            refine r_ic (t := 174) (pc1 := 152) rfl rfl rfl rx6 (rgh _ _ _) (fun c31 => ?_) (fun c31 => ?_)
            · have w := w.1 c31
              refine r_n (pc1 := 175) [.int (J 0)] _ rfl rfl ?_
              refine r_istn (pc1 := 176) (ls1 := [some (rv 44), some (rv a5), some (.int (J 0)), none]) rfl rfl rfl (xput1_rv rfl rfl) ?_
              obtain ⟨I13, m13, w, y13⟩ := w
              have Q13 : ∀ (n : Nat) (d11 : Option Value) (x10 : Int) (h12 : XH), HT h12 → HX h h12 → rg x10 → m13 x10 h12 < n → I13 x10 h12 → RR sc goal fs 372 176 [some (rv 44), some (rv a5), some (.int (J x10)), d11] [] h12 := by
                intro n
                induction n with
                | zero => intro d11 x10 h12 t12 s12 rx10 q13 _; exact absurd q13 (Nat.not_lt_zero _)
                | succ n ih13 =>
                  intro d11 x10 h12 t12 s12 rx10 q13 z13
                  have w := y13 x10 h12 t12 s12 rx10 z13
                  refine r_n (pc1 := 177) [.int (J x10)] _ rfl rfl ?_
                  refine r_aldn (pc1 := 178) rfl rfl rfl ?_
                  refine r_gfC (pc1 := 181) (q := 9) rfl rfl rfl t12 (lyk t12 rfl) rfl rfl (lyR t12 rfl rfl) ?_
                  refine r_gfI (pc1 := 184) rfl rfl rfl t12 (lyk t12 rfl) rfl rfl ?_
                  refine r_ic (t := 250) (pc1 := 187) rfl rfl rfl rx10 (rgh _ _ _) (fun c26 => ?_) (fun c26 => ?_)
                  · have w := w.1 c26
                    exact r_retV rfl rfl rfl (k _ t12 s12 w)
                  · have w := w.2 c26
                    refine r_aldn (pc1 := 188) rfl rfl rfl ?_
                    refine r_gfC (pc1 := 191) (q := 48) rfl rfl rfl t12 (lyk t12 rfl) rfl rfl (lyR t12 rfl rfl) ?_
                    refine r_n (pc1 := 192) [.int (J x10), rv 48] _ rfl rfl ?_
                    refine r_aldn (pc1 := 193) rfl rfl rfl ?_
                    refine r_gfC (pc1 := 196) (q := 9) rfl rfl rfl t12 (lyk t12 rfl) rfl rfl (lyR t12 rfl rfl) ?_
                    refine r_n (pc1 := 197) [.int (J x10), rv 9, .int (J x10), rv 48] _ rfl rfl ?_
                    refine r_iv rfl rfl rfl rfl rfl rfl t12 (lyk t12 rfl) rfl (xe_of (xa_r (xa_i xa_0)) rfl rfl) (r_d0 hd rfl) (a_X8_withOption x10 (r_d1 hd rfl) rx10 w t12 (fun b14 w => ?_))
                    refine r_fL (pc1 := 200) rfl ?_
                    obtain ⟨c15, w⟩ := w
                    refine r_last (pc1 := 201) rfl rfl t12 (lyk t12 rfl) rx10 c15.1 (lt_len (lyn t12 rfl) c15.2) (fun h16 eh16 t16 u16 => ?_)
                    have w := w h16 eh16 t16 u16
                    have s16 := HX_trans s12 u16
                    refine r_aldn (pc1 := 202) rfl rfl rfl ?_
                    obtain ⟨c17, w⟩ := w
                    refine r_gfC (pc1 := 205) (q := (a5 + 2)) rfl rfl rfl t16 c17 rfl rfl (lyr_7_3 t16 c17) ?_
                    refine r_n (pc1 := 206) [.int (J x10), rv (a5 + 2)] _ rfl rfl ?_
                    refine r_aal (pc1 := 207) (u := 4) rfl rfl t16 (lyo_7_3 t16 c17).1 rfl rfl rx10 c15.1 (lt_len (lyo_7_3 t16 c17).2 c15.2) ?_
                    refine r_vR (fun a18 ea18 => ?_)
                    have w := w a18 ea18
                    refine r_astn (pc1 := 208) (ls1 := [some (rv 44), some (rv a5), some (.int (J x10)), some (rv a18)]) rfl rfl rfl rfl ?_
                    refine r_aldn (pc1 := 209) rfl rfl rfl ?_
                    refine r_gfC (pc1 := 212) (q := 50) rfl rfl rfl t16 (lyk t16 rfl) rfl rfl (lyR t16 rfl rfl) ?_
                    refine r_n (pc1 := 213) [.int (J x10), rv 50] _ rfl rfl ?_
                    refine r_aldn (pc1 := 214) rfl rfl rfl ?_
                    obtain ⟨J20, j20, w⟩ := w
                    have Q20 : ∀ (b19 : BitVec 64), J20 b19 → RR sc goal fs 372 243 [some (rv 44), some (rv a5), some (.int (J x10)), some (rv a18)] [.long (G b19), .int (J x10), rv 50] h16 := by
                      intro b19 z20
                      have w := j20 b19 z20
                      refine r_last (pc1 := 244) rfl rfl t16 (lyk t16 rfl) rx10 c15.1 (lt_len (lyn t16 rfl) c15.2) (fun h21 eh21 t21 u21 => ?_)
                      have w := w h21 eh21 t21 u21
                      have s21 := HX_trans s16 u21
                      refine r_inc (pc1 := 247) (g := fun zz => [some (rv 44), some (rv a5), some (.int (J zz)), some (rv a18)]) rfl rfl rfl rfl (fun _ => xput1_rv rfl rfl) (fun x22 ex22 rx22 => ?_)
                      have w := w x22 ex22 rx22
                      refine r_goto (t := 176) rfl rfl ?_
                      exact ih13 _ x22 h21 t21 s21 rx22 (Nat.lt_of_lt_of_le w.2 (Nat.le_of_lt_succ q13)) w.1
                    refine r_nonnull (t := 221) (pc1 := 217) rfl rfl rfl (fun c25 => ?_) (fun c25 => ?_)
                    · have w := w.1 c25
                      refine r_aldn (pc1 := 222) rfl rfl rfl ?_
                      refine r_gfC (pc1 := 225) (q := 9) rfl rfl rfl t16 (lyk t16 rfl) rfl rfl (lyR t16 rfl rfl) ?_
                      refine r_n (pc1 := 226) [.int (J x10), rv 9, .int (J x10), rv 50] _ rfl rfl ?_
                      refine r_iv rfl rfl rfl rfl rfl rfl t16 (lyk t16 rfl) rfl (xe_of (xa_r (xa_i xa_0)) rfl rfl) (r_d0 hd rfl) (a_X8_versionsOf x10 (r_d1 hd rfl) rx10 w t16 (fun b23 w => ?_))
                      refine r_fL (pc1 := 229) rfl ?_
                      refine r_aldn (pc1 := 230) rfl rfl rfl ?_
                      refine r_gfC (pc1 := 233) (q := 9) rfl rfl rfl t16 (lyk t16 rfl) rfl rfl (lyR t16 rfl rfl) ?_
                      refine r_n (pc1 := 234) [.int (J x10), rv 9, .long (G b23), .int (J x10), rv 50] _ rfl rfl ?_
                      refine r_aldn (pc1 := 235) rfl rfl rfl ?_
                      refine r_iv rfl rfl rfl rfl rfl rfl t16 (lyk t16 rfl) rfl (xe_of (xa_r (xa_i (xa_r xa_0))) rfl rfl) (r_d0 hd rfl) (a_X8_inRangeOf x10 a18 (r_d1 hd rfl) rx10 w t16 (fun b24 w => ?_))
                      refine r_fL (pc1 := 238) rfl ?_
                      refine r_n (pc1 := 241) [.long (G (18446744073709551615#64)), .long (G b24), .long (G b23), .int (J x10), rv 50] _ rfl rfl ?_
                      refine r_lxor (pc1 := 242) rfl rfl ?_
                      refine r_land (pc1 := 243) rfl rfl ?_
                      exact Q20  (b23 &&& (b24 ^^^ (18446744073709551615#64)))   w
                    · have w := w.2 c25
                      refine r_n (pc1 := 218) [.long (G (0#64)), .int (J x10), rv 50] _ rfl rfl ?_
                      refine r_goto (t := 243) rfl rfl ?_
                      exact Q20  (0#64)   w
              exact Q13 _ _ 0 h7 t7 s7 (rgk rfl) (Nat.lt_succ_self _) w
            · have w := w.2 c31
              refine r_aldn (pc1 := 153) rfl rfl rfl ?_
              refine r_gfC (pc1 := 156) (q := 49) rfl rfl rfl t7 (lyk t7 rfl) rfl rfl (lyR t7 rfl rfl) ?_
              refine r_n (pc1 := 157) [.int (J x6), rv 49] _ rfl rfl ?_
              refine r_aldn (pc1 := 158) rfl rfl rfl ?_
              refine r_aldn (pc1 := 159) rfl rfl rfl ?_
              refine r_gfC (pc1 := 162) (q := (a5 + 1)) rfl rfl rfl t7 c9 rfl rfl (lyr_7_1 t7 c9) ?_
              refine r_n (pc1 := 163) [.int (J x6), rv (a5 + 1), rv 44, .int (J x6), rv 49] _ rfl rfl ?_
              obtain ⟨c27, w⟩ := w
              refine r_aal (pc1 := 164) (u := 3) rfl rfl t7 (lyo_7_1 t7 c9).1 rfl rfl rx6 c27.1 (lt_len (lyo_7_1 t7 c9).2 c27.2) ?_
              refine r_iv rfl rfl rfl rfl rfl rfl t7 (lyk t7 rfl) rfl (xe_of (xa_r (xa_r xa_0)) rfl rfl) (r_d0 hd rfl) (a_X3_meeting (hR h7 (a5 + 1) x6.toNat) (r_d1 hd rfl)  w t7 (fun b28 w => ?_))
              refine r_fL (pc1 := 167) rfl ?_
              refine r_last (pc1 := 168) rfl rfl t7 (lyk t7 rfl) rx6 c27.1 (lt_len (lyn t7 rfl) c27.2) (fun h29 eh29 t29 u29 => ?_)
              have w := w h29 eh29 t29 u29
              have s29 := HX_trans s7 u29
              refine r_inc (pc1 := 171) (g := fun zz => [some (rv 44), some (rv a5), some (.int (J zz)), none]) rfl rfl rfl rfl (fun _ => xput1_rv rfl rfl) (fun x30 ex30 rx30 => ?_)
              have w := w x30 ex30 rx30
              refine r_goto (t := 144) rfl rfl ?_
              exact ih8  x30 h29 t29 s29 rx30 (Nat.lt_of_lt_of_le w.2 (Nat.le_of_lt_succ q8)) w.1
        exact Q8 _  0 h3 t3 s3 (rgk rfl) (Nat.lt_succ_self _) w
      · have w := w.2 c56
        refine r_n (pc1 := 14) [.int (J 0)] _ rfl rfl ?_
        refine r_istn (pc1 := 15) (ls1 := [some (rv 44), some (.int (J x1)), some (.int (J 0)), none]) rfl rfl rfl rfl ?_
        obtain ⟨I34, m34, w, y34⟩ := w
        have Q34 : ∀ (n : Nat)  (x32 : Int) (h33 : XH), HT h33 → HX h h33 → rg x32 → m34 x32 h33 < n → I34 x32 h33 → RR sc goal fs 372 15 [some (rv 44), some (.int (J x1)), some (.int (J x32)), none] [] h33 := by
          intro n
          induction n with
          | zero => intro x32 h33 t33 s33 rx32 q34 _; exact absurd q34 (Nat.not_lt_zero _)
          | succ n ih34 =>
            intro x32 h33 t33 s33 rx32 q34 z34
            have w := y34 x32 h33 t33 s33 rx32 z34
            refine r_n (pc1 := 16) [.int (J x32)] _ rfl rfl ?_
            refine r_aldn (pc1 := 17) rfl rfl rfl ?_
            refine r_gfC (pc1 := 20) (q := 9) rfl rfl rfl t33 (lyk t33 rfl) rfl rfl (lyR t33 rfl rfl) ?_
            refine r_gfC (pc1 := 23) (q := 18) rfl rfl rfl t33 (lyk t33 rfl) rfl rfl (lyR t33 rfl rfl) ?_
            refine r_n (pc1 := 24) [.int (J x1), rv 18, .int (J x32)] _ rfl rfl ?_
            obtain ⟨c35, w⟩ := w
            refine r_ial (pc1 := 25) rfl rfl t33 (lyk t33 rfl) rx1 c35.1 (lt_len (lyn t33 rfl) c35.2) ?_
            refine r_ic (t := 61) (pc1 := 28) rfl rfl rfl rx32 (rgh _ _ _) (fun c55 => ?_) (fun c55 => ?_)
            · have w := w.1 c55
              refine r_n (pc1 := 62) [.int (J 0)] _ rfl rfl ?_
              refine r_istn (pc1 := 63) (ls1 := [some (rv 44), some (.int (J x1)), some (.int (J 0)), none]) rfl rfl rfl rfl ?_
              obtain ⟨I38, m38, w, y38⟩ := w
              have Q38 : ∀ (n : Nat)  (x36 : Int) (h37 : XH), HT h37 → HX h h37 → rg x36 → m38 x36 h37 < n → I38 x36 h37 → RR sc goal fs 372 63 [some (rv 44), some (.int (J x1)), some (.int (J x36)), none] [] h37 := by
                intro n
                induction n with
                | zero => intro x36 h37 t37 s37 rx36 q38 _; exact absurd q38 (Nat.not_lt_zero _)
                | succ n ih38 =>
                  intro x36 h37 t37 s37 rx36 q38 z38
                  have w := y38 x36 h37 t37 s37 rx36 z38
                  refine r_n (pc1 := 64) [.int (J x36)] _ rfl rfl ?_
                  refine r_aldn (pc1 := 65) rfl rfl rfl ?_
                  refine r_gfC (pc1 := 68) (q := 9) rfl rfl rfl t37 (lyk t37 rfl) rfl rfl (lyR t37 rfl rfl) ?_
                  refine r_gfC (pc1 := 71) (q := 21) rfl rfl rfl t37 (lyk t37 rfl) rfl rfl (lyR t37 rfl rfl) ?_
                  refine r_n (pc1 := 72) [.int (J x1), rv 21, .int (J x36)] _ rfl rfl ?_
                  refine r_ial (pc1 := 73) rfl rfl t37 (lyk t37 rfl) rx1 c35.1 (lt_len (lyn t37 rfl) c35.2) ?_
                  refine r_ic (t := 109) (pc1 := 76) rfl rfl rfl rx36 (rgh _ _ _) (fun c48 => ?_) (fun c48 => ?_)
                  · have w := w.1 c48
                    refine r_aldn (pc1 := 110) rfl rfl rfl ?_
                    refine r_gfC (pc1 := 113) (q := 47) rfl rfl rfl t37 (lyk t37 rfl) rfl rfl (lyR t37 rfl rfl) ?_
                    refine r_n (pc1 := 114) [.int (J x1), rv 47] _ rfl rfl ?_
                    refine r_aldn (pc1 := 115) rfl rfl rfl ?_
                    refine r_aldn (pc1 := 116) rfl rfl rfl ?_
                    refine r_gfC (pc1 := 119) (q := 9) rfl rfl rfl t37 (lyk t37 rfl) rfl rfl (lyR t37 rfl rfl) ?_
                    refine r_gfC (pc1 := 122) (q := 26) rfl rfl rfl t37 (lyk t37 rfl) rfl rfl (lyR t37 rfl rfl) ?_
                    refine r_n (pc1 := 123) [.int (J x1), rv 26, rv 44, .int (J x1), rv 47] _ rfl rfl ?_
                    refine r_aal (pc1 := 124) (u := 3) rfl rfl t37 (lyk t37 rfl) rfl rfl rx1 c35.1 (lt_len (lyn t37 rfl) c35.2) ?_
                    refine r_iv rfl rfl rfl rfl rfl rfl t37 (lyk t37 rfl) rfl (xe_of (xa_r (xa_r xa_0)) rfl rfl) (r_d0 hd rfl) (a_X3_meeting (hR h37 26 x1.toNat) (r_d1 hd rfl)  w t37 (fun b39 w => ?_))
                    refine r_fL (pc1 := 127) rfl ?_
                    refine r_last (pc1 := 128) rfl rfl t37 (lyk t37 rfl) rx1 c35.1 (lt_len (lyn t37 rfl) c35.2) (fun h40 eh40 t40 u40 => ?_)
                    have w := w h40 eh40 t40 u40
                    have s40 := HX_trans s37 u40
                    refine r_inc (pc1 := 131) (g := fun zz => [some (rv 44), some (.int (J zz)), some (.int (J x36)), none]) rfl rfl rfl rfl (fun _ => rfl) (fun x41 ex41 rx41 => ?_)
                    have w := w x41 ex41 rx41
                    refine r_goto (t := 2) rfl rfl ?_
                    exact ih4 _ x41 h40 t40 s40 rx41 (Nat.lt_of_lt_of_le w.2 (Nat.le_of_lt_succ q4)) w.1
                  · have w := w.2 c48
                    refine r_aldn (pc1 := 77) rfl rfl rfl ?_
                    refine r_gfC (pc1 := 80) (q := 46) rfl rfl rfl t37 (lyk t37 rfl) rfl rfl (lyR t37 rfl rfl) ?_
                    refine r_n (pc1 := 81) [.int (J x1), rv 46] _ rfl rfl ?_
                    refine r_n (pc1 := 82) [.int (J 2), .int (J x1), rv 46] _ rfl rfl ?_
                    refine r_imul (pc1 := 83) rfl rfl ?_
                    refine r_n (pc1 := 84) [.int (J x36), .int (J (wr (x1 * 2))), rv 46] _ rfl rfl ?_
                    refine r_iadd (pc1 := 85) rfl rfl ?_
                    refine r_aldn (pc1 := 86) rfl rfl rfl ?_
                    refine r_aldn (pc1 := 87) rfl rfl rfl ?_
                    refine r_gfC (pc1 := 90) (q := 9) rfl rfl rfl t37 (lyk t37 rfl) rfl rfl (lyR t37 rfl rfl) ?_
                    refine r_gfC (pc1 := 93) (q := 22) rfl rfl rfl t37 (lyk t37 rfl) rfl rfl (lyR t37 rfl rfl) ?_
                    refine r_n (pc1 := 94) [.int (J x1), rv 22, rv 44, .int (J (wr ((wr (x1 * 2)) + x36))), rv 46] _ rfl rfl ?_
                    refine r_n (pc1 := 95) [.int (J 2), .int (J x1), rv 22, rv 44, .int (J (wr ((wr (x1 * 2)) + x36))), rv 46] _ rfl rfl ?_
                    refine r_imul (pc1 := 96) rfl rfl ?_
                    refine r_n (pc1 := 97) [.int (J x36), .int (J (wr (x1 * 2))), rv 22, rv 44, .int (J (wr ((wr (x1 * 2)) + x36))), rv 46] _ rfl rfl ?_
                    refine r_iadd (pc1 := 98) rfl rfl ?_
                    refine r_vI (rgw _) (fun x42 ex42 rx42 => ?_)
                    have w := w x42 ex42 rx42
                    obtain ⟨c43, w⟩ := w
                    refine r_aal (pc1 := 99) (u := 3) rfl rfl t37 (lyk t37 rfl) rfl rfl rx42 c43.1 (lt_len (lyn t37 rfl) c43.2) ?_
                    refine r_iv rfl rfl rfl rfl rfl rfl t37 (lyk t37 rfl) rfl (xe_of (xa_r (xa_r xa_0)) rfl rfl) (r_d0 hd rfl) (a_X3_meeting (hR h37 22 x42.toNat) (r_d1 hd rfl)  w t37 (fun b44 w => ?_))
                    refine r_fL (pc1 := 102) rfl ?_
                    obtain ⟨c45, w⟩ := w
                    refine r_last (pc1 := 103) rfl rfl t37 (lyk t37 rfl) (rgw _) c45.1 (lt_len (lyn t37 rfl) c45.2) (fun h46 eh46 t46 u46 => ?_)
                    have w := w h46 eh46 t46 u46
                    have s46 := HX_trans s37 u46
                    refine r_inc (pc1 := 106) (g := fun zz => [some (rv 44), some (.int (J x1)), some (.int (J zz)), none]) rfl rfl rfl rfl (fun _ => rfl) (fun x47 ex47 rx47 => ?_)
                    have w := w x47 ex47 rx47
                    refine r_goto (t := 63) rfl rfl ?_
                    exact ih38  x47 h46 t46 s46 rx47 (Nat.lt_of_lt_of_le w.2 (Nat.le_of_lt_succ q38)) w.1
              exact Q38 _  0 h33 t33 s33 (rgk rfl) (Nat.lt_succ_self _) w
            · have w := w.2 c55
              refine r_aldn (pc1 := 29) rfl rfl rfl ?_
              refine r_gfC (pc1 := 32) (q := 45) rfl rfl rfl t33 (lyk t33 rfl) rfl rfl (lyR t33 rfl rfl) ?_
              refine r_n (pc1 := 33) [.int (J x1), rv 45] _ rfl rfl ?_
              refine r_n (pc1 := 34) [.int (J 3), .int (J x1), rv 45] _ rfl rfl ?_
              refine r_imul (pc1 := 35) rfl rfl ?_
              refine r_n (pc1 := 36) [.int (J x32), .int (J (wr (x1 * 3))), rv 45] _ rfl rfl ?_
              refine r_iadd (pc1 := 37) rfl rfl ?_
              refine r_aldn (pc1 := 38) rfl rfl rfl ?_
              refine r_aldn (pc1 := 39) rfl rfl rfl ?_
              refine r_gfC (pc1 := 42) (q := 9) rfl rfl rfl t33 (lyk t33 rfl) rfl rfl (lyR t33 rfl rfl) ?_
              refine r_gfC (pc1 := 45) (q := 19) rfl rfl rfl t33 (lyk t33 rfl) rfl rfl (lyR t33 rfl rfl) ?_
              refine r_n (pc1 := 46) [.int (J x1), rv 19, rv 44, .int (J (wr ((wr (x1 * 3)) + x32))), rv 45] _ rfl rfl ?_
              refine r_n (pc1 := 47) [.int (J 3), .int (J x1), rv 19, rv 44, .int (J (wr ((wr (x1 * 3)) + x32))), rv 45] _ rfl rfl ?_
              refine r_imul (pc1 := 48) rfl rfl ?_
              refine r_n (pc1 := 49) [.int (J x32), .int (J (wr (x1 * 3))), rv 19, rv 44, .int (J (wr ((wr (x1 * 3)) + x32))), rv 45] _ rfl rfl ?_
              refine r_iadd (pc1 := 50) rfl rfl ?_
              refine r_vI (rgw _) (fun x49 ex49 rx49 => ?_)
              have w := w x49 ex49 rx49
              obtain ⟨c50, w⟩ := w
              refine r_aal (pc1 := 51) (u := 3) rfl rfl t33 (lyk t33 rfl) rfl rfl rx49 c50.1 (lt_len (lyn t33 rfl) c50.2) ?_
              refine r_iv rfl rfl rfl rfl rfl rfl t33 (lyk t33 rfl) rfl (xe_of (xa_r (xa_r xa_0)) rfl rfl) (r_d0 hd rfl) (a_X3_meeting (hR h33 19 x49.toNat) (r_d1 hd rfl)  w t33 (fun b51 w => ?_))
              refine r_fL (pc1 := 54) rfl ?_
              obtain ⟨c52, w⟩ := w
              refine r_last (pc1 := 55) rfl rfl t33 (lyk t33 rfl) (rgw _) c52.1 (lt_len (lyn t33 rfl) c52.2) (fun h53 eh53 t53 u53 => ?_)
              have w := w h53 eh53 t53 u53
              have s53 := HX_trans s33 u53
              refine r_inc (pc1 := 58) (g := fun zz => [some (rv 44), some (.int (J x1)), some (.int (J zz)), none]) rfl rfl rfl rfl (fun _ => rfl) (fun x54 ex54 rx54 => ?_)
              have w := w x54 ex54 rx54
              refine r_goto (t := 15) rfl rfl ?_
              exact ih34  x54 h53 t53 s53 rx54 (Nat.lt_of_lt_of_le w.2 (Nat.le_of_lt_succ q34)) w.1
        exact Q34 _  0 h3 t3 s3 (rgk rfl) (Nat.lt_succ_self _) w
  exact Q4 _ _ 0 h t0 (HX_refl h) (rgk rfl) (Nat.lt_succ_self _) w
def w_X12_knowMet  (K : XH → Prop) (h : XH) : Prop :=
  (∃ J2 : XH → Prop, (∀ (h1 : XH), HT h1 → HX h h1 → J2 h1 → (K h1)) ∧ ((1 ≤ hI h 2 11 → J2 h) ∧ (¬ (1 ≤ hI h 2 11) → (w_X3_renew (fun h3 => HT h3 → HX h h3 → (∀ h4 : XH, h4 = sI h3 2 11 1 → HT h4 → HX h3 h4 → J2 h4)) h))))
set_option maxHeartbeats 4000000 in
theorem a_X12_knowMet {sc : Nat × (Nat → Int32)} {goal : XO → XH → Prop} {fs : List XF} {h : XH}  {K : XH → Prop} (hd : fs.length + 5 ≤ 1000) (w : w_X12_knowMet  K h) (t0 : HT h) (k : ∀ (h1 : XH), HT h1 → HX h h1 → K h1 → XFin xP sc goal fs (.inl none) h1) : RR sc goal fs 121 0 [some (rv 2)] [] h := by
  unfold w_X12_knowMet at w
  refine r_aldn (pc1 := 1) rfl rfl rfl ?_
  refine r_gfI (pc1 := 4) rfl rfl rfl t0 (lyk t0 rfl) rfl rfl ?_
  refine r_n (pc1 := 5) [.int (J 1), .int (J (hI h 2 11))] _ rfl rfl ?_
  obtain ⟨J2, j2, w⟩ := w
  have Q2 : ∀ (h1 : XH), HT h1 → HX h h1 → J2 h1 → RR sc goal fs 121 20 [some (rv 2)] [] h1 := by
    intro h1 t1 s1 z2
    have w := j2 h1 t1 s1 z2
    exact r_retV rfl rfl rfl (k _ t1 s1 w)
  refine r_ic (t := 20) (pc1 := 8) rfl rfl rfl (rgh _ _ _) (rgk rfl) (fun c5 => ?_) (fun c5 => ?_)
  · have w := w.1 c5
    exact Q2   h t0 (HX_refl h)  w
  · have w := w.2 c5
    refine r_aldn (pc1 := 9) rfl rfl rfl ?_
    refine r_gfC (pc1 := 12) (q := 44) rfl rfl rfl t0 (lyk t0 rfl) rfl rfl (lyR t0 rfl rfl) ?_
    refine r_iv rfl rfl rfl rfl rfl rfl t0 (lyk t0 rfl) rfl (xe_of (xa_r xa_0) rfl rfl) (r_d0 hd rfl) (a_X3_renew  (r_d1 hd rfl)  w t0 (fun h3 t3 u3 w => ?_))
    refine r_fV (pc1 := 15) rfl ?_
    have s3 := HX_trans (HX_refl h) u3
    have w := w t3 u3
    refine r_aldn (pc1 := 16) rfl rfl rfl ?_
    refine r_n (pc1 := 17) [.int (J 1), rv 2] _ rfl rfl ?_
    refine r_pfI (pc1 := 20) rfl rfl rfl t3 (lyk t3 rfl) rfl rfl rfl (fun h4 eh4 t4 u4 => ?_)
    have w := w h4 eh4 t4 u4
    have s4 := HX_trans s3 u4
    exact Q2   h4 t4 s4  w
