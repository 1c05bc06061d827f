/-! printed by dec.py: what each method wants, and that the machine keeps it -/ 
def w_X9_settle  (K : XH → Prop) (h : XH) : Prop :=
  (w_X9_findTurns (fun h1 => HT h1 → HX h h1 → ((∃ (I8 : BitVec 64 → BitVec 64 → Int → XH → Prop) (m8 : BitVec 64 → BitVec 64 → Int → XH → Nat), I8 (0#64) (0#64) 0 h1 ∧ ∀ (b2 : BitVec 64) (b3 : BitVec 64) (x4 : Int) (h7 : XH), HT h7 → HX h h7 → rg x4 → I8 b2 b3 x4 h7 → (((hI h7 9 0 ≤ x4 → ((∃ (I13 : BitVec 64 → BitVec 64 → Int → XH → Prop) (m13 : BitVec 64 → BitVec 64 → Int → XH → Nat), I13 b2 b3 0 h7 ∧ ∀ (b9 : BitVec 64) (b10 : BitVec 64) (x11 : Int) (h12 : XH), HT h12 → HX h h12 → rg x11 → I13 b9 b10 x11 h12 → (((hI h12 9 0 ≤ x11 → (∀ h14 : XH, h14 = sL h12 68 3 b9 → HT h14 → HX h12 h14 → K h14)) ∧ (¬ (hI h12 9 0 ≤ x11) → (w_X12_switchOf x11 (fun b15 => (w_X9_canStill b9 (b10 ||| b15) (fun x16 h17 => HT h17 → HX h12 h17 → rg x16 → (x16 = 0 ∨ x16 = 1) → (∃ J20 : BitVec 64 → BitVec 64 → Prop, (∀ (b18 : BitVec 64) (b19 : BitVec 64), J20 b18 b19 → (∀ x21 : Int, x21 = wr (x11 + 1) → rg x21 → (I13 b18 b19 x21 h17 ∧ m13 b18 b19 x21 h17 < m13 b9 b10 x11 h12))) ∧ ((x16 = 0 → (w_X12_switchOf x11 (fun b22 => (∀ b23 : BitVec 64, b23 = b9 ||| b22 → J20 b23 b10)) h17)) ∧ (¬ (x16 = 0) → (w_X12_switchOf x11 (fun b24 => (∀ b25 : BitVec 64, b25 = b10 ||| b24 → J20 b9 b25)) h17))))) h12)) h12))))))) ∧ (¬ (hI h7 9 0 ≤ x4) → ((0 ≤ x4 ∧ x4 < 12) ∧ w_X9_bestVersion (hI h7 69 x4.toNat) b2 b3 (fun b29 h30 => HT h30 → HX h7 h30 → (∀ b31 : BitVec 64, b31 = b2 ||| b29 → w_X8_versionsOf (hI h30 69 x4.toNat) (fun b32 => (∀ b33 : BitVec 64, b33 = b3 ||| (b32 &&& (b29 ^^^ (18446744073709551615#64))) → ∀ x34 : Int, x34 = wr (x4 + 1) → rg x34 → (I8 b31 b33 x34 h30 ∧ m8 b31 b33 x34 h30 < m8 b2 b3 x4 h7))) h30)) h7))))))) h)
set_option maxHeartbeats 4000000 in
theorem a_X9_settle {sc : Nat × (Nat → Int32)} {goal : XO → XH → Prop} {fs : List XF} {h : XH}  {K : XH → Prop} (hd : fs.length + 7 ≤ 1000) (w : w_X9_settle  K h) (t0 : HT h) (k : ∀ (h1 : XH), HT h1 → HX h h1 → K h1 → XFin xP sc goal fs (.inl none) h1) : RR sc goal fs 475 0 [some (rv 68), none, none, none, none, none, none, none] [] h := by
  unfold w_X9_settle at w
  refine r_aldn (pc1 := 1) rfl rfl rfl ?_
  refine r_iv rfl rfl rfl rfl rfl rfl t0 (lyk t0 rfl) rfl (xe_of (xa_r xa_0) rfl rfl) (r_d0 hd rfl) (a_X9_findTurns  (r_d1 hd rfl)  w t0 (fun h1 t1 u1 w => ?_))
  refine r_fV (pc1 := 4) rfl ?_
  have s1 := HX_trans (HX_refl h) u1
  have w := w t1 u1
  refine r_n (pc1 := 5) [.long (G (0#64))] _ rfl rfl ?_
  refine r_lstn (pc1 := 6) (ls1 := [some (rv 68), some (.long (G (0#64))), none, none, none, none, none, none]) rfl rfl rfl rfl ?_
  refine r_n (pc1 := 7) [.long (G (0#64))] _ rfl rfl ?_
  refine r_lstn (pc1 := 8) (ls1 := [some (rv 68), some (.long (G (0#64))), none, some (.long (G (0#64))), none, none, none, none]) rfl rfl rfl rfl ?_
  refine r_n (pc1 := 9) [.int (J 0)] _ rfl rfl ?_
  refine r_ist (pc1 := 11) (ls1 := [some (rv 68), some (.long (G (0#64))), none, some (.long (G (0#64))), none, some (.int (J 0)), none, none]) rfl rfl rfl rfl ?_
  obtain ⟨I8, m8, w, y8⟩ := w
  have Q8 : ∀ (n : Nat) (d5 : Option Value) (d6 : Option Value) (b2 : BitVec 64) (b3 : BitVec 64) (x4 : Int) (h7 : XH), HT h7 → HX h h7 → rg x4 → m8 b2 b3 x4 h7 < n → I8 b2 b3 x4 h7 → RR sc goal fs 475 11 [some (rv 68), some (.long (G b2)), none, some (.long (G b3)), none, some (.int (J x4)), d5, d6] [] h7 := by
    intro n
    induction n with
    | zero => intro d5 d6 b2 b3 x4 h7 t7 s7 rx4 q8 _; exact absurd q8 (Nat.not_lt_zero _)
    | succ n ih8 =>
      intro d5 d6 b2 b3 x4 h7 t7 s7 rx4 q8 z8
      have w := y8 b2 b3 x4 h7 t7 s7 rx4 z8
      refine r_n (pc1 := 13) [.int (J x4)] _ rfl rfl ?_
      refine r_aldn (pc1 := 14) rfl rfl rfl ?_
      refine r_gfC (pc1 := 17) (q := 9) rfl rfl rfl t7 (lyk t7 rfl) rfl rfl (lyR t7 rfl rfl) ?_
      refine r_gfI (pc1 := 20) rfl rfl rfl t7 (lyk t7 rfl) rfl rfl ?_
      refine r_ic (t := 73) (pc1 := 23) rfl rfl rfl rx4 (rgh _ _ _) (fun c35 => ?_) (fun c35 => ?_)
      · have w := w.1 c35
        refine r_n (pc1 := 74) [.int (J 0)] _ rfl rfl ?_
        refine r_ist (pc1 := 76) (ls1 := [some (rv 68), some (.long (G b2)), none, some (.long (G b3)), none, some (.int (J 0)), d5, d6]) rfl rfl rfl rfl ?_
        obtain ⟨I13, m13, w, y13⟩ := w
        have Q13 : ∀ (n : Nat)  (b9 : BitVec 64) (b10 : BitVec 64) (x11 : Int) (h12 : XH), HT h12 → HX h h12 → rg x11 → m13 b9 b10 x11 h12 < n → I13 b9 b10 x11 h12 → RR sc goal fs 475 76 [some (rv 68), some (.long (G b9)), none, some (.long (G b10)), none, some (.int (J x11)), d5, d6] [] h12 := by
          intro n
          induction n with
          | zero => intro b9 b10 x11 h12 t12 s12 rx11 q13 _; exact absurd q13 (Nat.not_lt_zero _)
          | succ n ih13 =>
            intro b9 b10 x11 h12 t12 s12 rx11 q13 z13
            have w := y13 b9 b10 x11 h12 t12 s12 rx11 z13
            refine r_n (pc1 := 78) [.int (J x11)] _ rfl rfl ?_
            refine r_aldn (pc1 := 79) rfl rfl rfl ?_
            refine r_gfC (pc1 := 82) (q := 9) rfl rfl rfl t12 (lyk t12 rfl) rfl rfl (lyR t12 rfl rfl) ?_
            refine r_gfI (pc1 := 85) rfl rfl rfl t12 (lyk t12 rfl) rfl rfl ?_
            refine r_ic (t := 128) (pc1 := 88) rfl rfl rfl rx11 (rgh _ _ _) (fun c27 => ?_) (fun c27 => ?_)
            · have w := w.1 c27
              refine r_aldn (pc1 := 129) rfl rfl rfl ?_
              refine r_n (pc1 := 130) [.long (G b9), rv 68] _ rfl rfl ?_
              refine r_pfL (pc1 := 133) rfl rfl rfl t12 (lyk t12 rfl) rfl rfl rfl (fun h14 eh14 t14 u14 => ?_)
              have w := w h14 eh14 t14 u14
              have s14 := HX_trans s12 u14
              exact r_retV rfl rfl rfl (k _ t14 s14 w)
            · have w := w.2 c27
              refine r_aldn (pc1 := 89) rfl rfl rfl ?_
              refine r_n (pc1 := 90) [.long (G b9), rv 68] _ rfl rfl ?_
              refine r_n (pc1 := 91) [.long (G b10), .long (G b9), rv 68] _ rfl rfl ?_
              refine r_n (pc1 := 93) [.int (J x11), .long (G b10), .long (G b9), rv 68] _ rfl rfl ?_
              refine r_iq rfl rfl rfl rfl rfl rfl (xe_of (xa_i xa_0) rfl rfl) (r_d0 hd rfl) (a_X12_switchOf x11 (r_d1 hd rfl) rx11 w t12 (fun b15 w => ?_))
              refine r_fL (pc1 := 96) rfl ?_
              refine r_lor (pc1 := 97) rfl rfl ?_
              refine r_iv rfl rfl rfl rfl rfl rfl t12 (lyk t12 rfl) rfl (xe_of (xa_r (xa_l (xa_l xa_0))) rfl rfl) (r_d0 hd rfl) (a_X9_canStill b9 (b10 ||| b15) (r_d1 hd rfl)  w t12 (fun x16 h17 t17 u17 rx16 vx16 w => ?_))
              refine r_fI (pc1 := 100) rfl ?_
              have s17 := HX_trans s12 u17
              have w := w t17 u17
              have w := w rx16 vx16
              obtain ⟨J20, j20, w⟩ := w
              have Q20 : ∀ (b18 : BitVec 64) (b19 : BitVec 64), J20 b18 b19 → RR sc goal fs 475 122 [some (rv 68), some (.long (G b18)), none, some (.long (G b19)), none, some (.int (J x11)), d5, d6] [] h17 := by
                intro b18 b19 z20
                have w := j20 b18 b19 z20
                refine r_inc (pc1 := 125) (g := fun zz => [some (rv 68), some (.long (G b18)), none, some (.long (G b19)), none, some (.int (J zz)), d5, d6]) rfl rfl rfl rfl (fun _ => rfl) (fun x21 ex21 rx21 => ?_)
                have w := w x21 ex21 rx21
                refine r_goto (t := 76) rfl rfl ?_
                exact ih13  b18 b19 x21 h17 t17 s17 rx21 (Nat.lt_of_lt_of_le w.2 (Nat.le_of_lt_succ q13)) w.1
              refine r_iz (t := 114) (pc1 := 103) rfl rfl rfl rx16 (fun c26 => ?_) (fun c26 => ?_)
              · have w := w.1 c26
                refine r_n (pc1 := 115) [.long (G b9)] _ rfl rfl ?_
                refine r_n (pc1 := 117) [.int (J x11), .long (G b9)] _ rfl rfl ?_
                refine r_iq rfl rfl rfl rfl rfl rfl (xe_of (xa_i xa_0) rfl rfl) (r_d0 hd rfl) (a_X12_switchOf x11 (r_d1 hd rfl) rx11 w t17 (fun b22 w => ?_))
                refine r_fL (pc1 := 120) rfl ?_
                refine r_lor (pc1 := 121) rfl rfl ?_
                refine r_vL (fun b23 eb23 => ?_)
                have w := w b23 eb23
                refine r_lstn (pc1 := 122) (ls1 := [some (rv 68), some (.long (G b23)), none, some (.long (G b10)), none, some (.int (J x11)), d5, d6]) rfl rfl rfl rfl ?_
                exact Q20  b23 b10   w
              · have w := w.2 c26
                refine r_n (pc1 := 104) [.long (G b10)] _ rfl rfl ?_
                refine r_n (pc1 := 106) [.int (J x11), .long (G b10)] _ rfl rfl ?_
                refine r_iq rfl rfl rfl rfl rfl rfl (xe_of (xa_i xa_0) rfl rfl) (r_d0 hd rfl) (a_X12_switchOf x11 (r_d1 hd rfl) rx11 w t17 (fun b24 w => ?_))
                refine r_fL (pc1 := 109) rfl ?_
                refine r_lor (pc1 := 110) rfl rfl ?_
                refine r_vL (fun b25 eb25 => ?_)
                have w := w b25 eb25
                refine r_lstn (pc1 := 111) (ls1 := [some (rv 68), some (.long (G b9)), none, some (.long (G b25)), none, some (.int (J x11)), d5, d6]) rfl rfl rfl rfl ?_
                refine r_goto (t := 122) rfl rfl ?_
                exact Q20  b9 b25   w
        exact Q13 _  b2 b3 0 h7 t7 s7 (rgk rfl) (Nat.lt_succ_self _) w
      · have w := w.2 c35
        refine r_aldn (pc1 := 24) rfl rfl rfl ?_
        refine r_aldn (pc1 := 25) rfl rfl rfl ?_
        refine r_gfC (pc1 := 28) (q := 69) rfl rfl rfl t7 (lyk t7 rfl) rfl rfl (lyR t7 rfl rfl) ?_
        refine r_n (pc1 := 30) [.int (J x4), rv 69, rv 68] _ rfl rfl ?_
        obtain ⟨c28, w⟩ := w
        refine r_ial (pc1 := 31) rfl rfl t7 (lyk t7 rfl) rx4 c28.1 (lt_len (lyn t7 rfl) c28.2) ?_
        refine r_n (pc1 := 32) [.long (G b2), .int (J (hI h7 69 x4.toNat)), rv 68] _ rfl rfl ?_
        refine r_n (pc1 := 33) [.long (G b3), .long (G b2), .int (J (hI h7 69 x4.toNat)), rv 68] _ rfl rfl ?_
        refine r_iv rfl rfl rfl rfl rfl rfl t7 (lyk t7 rfl) rfl (xe_of (xa_r (xa_i (xa_l (xa_l xa_0)))) rfl rfl) (r_d0 hd rfl) (a_X9_bestVersion (hI h7 69 x4.toNat) b2 b3 (r_d1 hd rfl) (rgh _ _ _) w t7 (fun b29 h30 t30 u30 w => ?_))
        refine r_fL (pc1 := 36) rfl ?_
        have s30 := HX_trans s7 u30
        have w := w t30 u30
        refine r_lst (pc1 := 38) (ls1 := [some (rv 68), some (.long (G b2)), none, some (.long (G b3)), none, some (.int (J x4)), some (.long (G b29)), none]) rfl rfl rfl rfl ?_
        refine r_n (pc1 := 39) [.long (G b2)] _ rfl rfl ?_
        refine r_n (pc1 := 41) [.long (G b29), .long (G b2)] _ rfl rfl ?_
        refine r_lor (pc1 := 42) rfl rfl ?_
        refine r_vL (fun b31 eb31 => ?_)
        have w := w b31 eb31
        refine r_lstn (pc1 := 43) (ls1 := [some (rv 68), some (.long (G b31)), none, some (.long (G b3)), none, some (.int (J x4)), some (.long (G b29)), none]) rfl rfl rfl rfl ?_
        refine r_n (pc1 := 44) [.long (G b3)] _ rfl rfl ?_
        refine r_aldn (pc1 := 45) rfl rfl rfl ?_
        refine r_gfC (pc1 := 48) (q := 9) rfl rfl rfl t30 (lyk t30 rfl) rfl rfl (lyR t30 rfl rfl) ?_
        refine r_aldn (pc1 := 49) rfl rfl rfl ?_
        refine r_gfC (pc1 := 52) (q := 69) rfl rfl rfl t30 (lyk t30 rfl) rfl rfl (lyR t30 rfl rfl) ?_
        refine r_n (pc1 := 54) [.int (J x4), rv 69, rv 9, .long (G b3)] _ rfl rfl ?_
        refine r_ial (pc1 := 55) rfl rfl t30 (lyk t30 rfl) rx4 c28.1 (lt_len (lyn t30 rfl) c28.2) ?_
        refine r_iv rfl rfl rfl rfl rfl rfl t30 (lyk t30 rfl) rfl (xe_of (xa_r (xa_i xa_0)) rfl rfl) (r_d0 hd rfl) (a_X8_versionsOf (hI h30 69 x4.toNat) (r_d1 hd rfl) (rgh _ _ _) w t30 (fun b32 w => ?_))
        refine r_fL (pc1 := 58) rfl ?_
        refine r_n (pc1 := 60) [.long (G b29), .long (G b32), .long (G b3)] _ rfl rfl ?_
        refine r_n (pc1 := 63) [.long (G (18446744073709551615#64)), .long (G b29), .long (G b32), .long (G b3)] _ rfl rfl ?_
        refine r_lxor (pc1 := 64) rfl rfl ?_
        refine r_land (pc1 := 65) rfl rfl ?_
        refine r_lor (pc1 := 66) rfl rfl ?_
        refine r_vL (fun b33 eb33 => ?_)
        have w := w b33 eb33
        refine r_lstn (pc1 := 67) (ls1 := [some (rv 68), some (.long (G b31)), none, some (.long (G b33)), none, some (.int (J x4)), some (.long (G b29)), none]) rfl rfl rfl rfl ?_
        refine r_inc (pc1 := 70) (g := fun zz => [some (rv 68), some (.long (G b31)), none, some (.long (G b33)), none, some (.int (J zz)), some (.long (G b29)), none]) rfl rfl rfl rfl (fun _ => rfl) (fun x34 ex34 rx34 => ?_)
        have w := w x34 ex34 rx34
        refine r_goto (t := 11) rfl rfl ?_
        exact ih8 _ _ b31 b33 x34 h30 t30 s30 rx34 (Nat.lt_of_lt_of_le w.2 (Nat.le_of_lt_succ q8)) w.1
  exact Q8 _ _ _ (0#64) (0#64) 0 h1 t1 s1 (rgk rfl) (Nat.lt_succ_self _) w
def w_X12_solve (p0 : Int) (K : Int → XH → Prop) (h : XH) : Prop :=
  (w_X12_remember (fun h1 => HT h1 → HX h h1 → (w_X12_know 2 (fun h2 => HT h2 → HX h1 h2 → (w_X9_find p0 (fun x3 h4 => HT h4 → HX h2 h4 → rg x3 → (x3 = 0 ∨ x3 = 1) → (((¬ x3 = 0 → (w_X9_settle (fun h5 => HT h5 → HX h4 h5 → (w_X11_atHand (fun a6 => (hk h5 a6 = 7 ∧ ∀ h8 : XH, h8 = sL h5 a6 5 (hL h5 68 3) → HT h8 → HX h5 h8 → w_X12_packsIn (hL h8 68 3) (fun x9 => rg x9 → (K x9 h8)) h8)) h5)) h4)) ∧ (¬ (¬ x3 = 0) → (K (-1) h4))))) h2)) h1)) h)
set_option maxHeartbeats 4000000 in
theorem a_X12_solve {sc : Nat × (Nat → Int32)} {goal : XO → XH → Prop} {fs : List XF} {h : XH} (p0 : Int) {K : Int → XH → Prop} (hd : fs.length + 8 ≤ 1000) (rp0 : rg p0) (w : w_X12_solve p0 K h) (t0 : HT h) (k : ∀ (r : Int) (h1 : XH), HT h1 → HX h h1 → rg r → K r h1 → XFin xP sc goal fs (.inl (some (.int (J r)))) h1) : RR sc goal fs 151 0 [some (rv 2), some (.int (J p0))] [] h := by
  unfold w_X12_solve at w
  refine r_aldn (pc1 := 1) rfl rfl rfl ?_
  refine r_iv rfl rfl rfl rfl rfl rfl t0 (lyk t0 rfl) rfl (xe_of (xa_r xa_0) rfl rfl) (r_d0 hd rfl) (a_X12_remember  (r_d1 hd rfl)  w t0 (fun h1 t1 u1 w => ?_))
  refine r_fV (pc1 := 4) rfl ?_
  have s1 := HX_trans (HX_refl h) u1
  have w := w t1 u1
  refine r_aldn (pc1 := 5) rfl rfl rfl ?_
  refine r_n (pc1 := 6) [.int (J 2), rv 2] _ rfl rfl ?_
  refine r_iv rfl rfl rfl rfl rfl rfl t1 (lyk t1 rfl) rfl (xe_of (xa_r (xa_i xa_0)) rfl rfl) (r_d0 hd rfl) (a_X12_know 2 (r_d1 hd rfl) (rgk rfl) w t1 (fun h2 t2 u2 w => ?_))
  refine r_fV (pc1 := 9) rfl ?_
  have s2 := HX_trans s1 u2
  have w := w t2 u2
  refine r_aldn (pc1 := 10) rfl rfl rfl ?_
  refine r_gfC (pc1 := 13) (q := 68) rfl rfl rfl t2 (lyk t2 rfl) rfl rfl (lyR t2 rfl rfl) ?_
  refine r_n (pc1 := 14) [.int (J p0), rv 68] _ rfl rfl ?_
  refine r_iv rfl rfl rfl rfl rfl rfl t2 (lyk t2 rfl) rfl (xe_of (xa_r (xa_i xa_0)) rfl rfl) (r_d0 hd rfl) (a_X9_find p0 (r_d1 hd rfl) rp0 w t2 (fun x3 h4 t4 u4 rx3 vx3 w => ?_))
  refine r_fI (pc1 := 17) rfl ?_
  have s4 := HX_trans s2 u4
  have w := w t4 u4
  have w := w rx3 vx3
  refine r_iz (t := 22) (pc1 := 20) rfl rfl rfl rx3 (fun c10 => ?_) (fun c10 => ?_)
  · have w := w.1 c10
    refine r_aldn (pc1 := 23) rfl rfl rfl ?_
    refine r_gfC (pc1 := 26) (q := 68) rfl rfl rfl t4 (lyk t4 rfl) rfl rfl (lyR t4 rfl rfl) ?_
    refine r_iv rfl rfl rfl rfl rfl rfl t4 (lyk t4 rfl) rfl (xe_of (xa_r xa_0) rfl rfl) (r_d0 hd rfl) (a_X9_settle  (r_d1 hd rfl)  w t4 (fun h5 t5 u5 w => ?_))
    refine r_fV (pc1 := 29) rfl ?_
    have s5 := HX_trans s4 u5
    have w := w t5 u5
    refine r_aldn (pc1 := 30) rfl rfl rfl ?_
    refine r_gfC (pc1 := 33) (q := 8) rfl rfl rfl t5 (lyk t5 rfl) rfl rfl (lyR t5 rfl rfl) ?_
    refine r_iv rfl rfl rfl rfl rfl rfl t5 (lyk t5 rfl) rfl (xe_of (xa_r xa_0) rfl rfl) (r_d0 hd rfl) (a_X11_atHand  (r_d1 hd rfl)  w t5 (fun a6 w => ?_))
    refine r_fR (pc1 := 36) rfl ?_
    refine r_aldn (pc1 := 37) rfl rfl rfl ?_
    refine r_gfC (pc1 := 40) (q := 68) rfl rfl rfl t5 (lyk t5 rfl) rfl rfl (lyR t5 rfl rfl) ?_
    refine r_gfL (pc1 := 43) rfl rfl rfl t5 (lyk t5 rfl) rfl rfl ?_
    obtain ⟨c7, w⟩ := w
    refine r_pfL (pc1 := 46) rfl rfl rfl t5 c7 rfl rfl rfl (fun h8 eh8 t8 u8 => ?_)
    have w := w h8 eh8 t8 u8
    have s8 := HX_trans s5 u8
    refine r_aldn (pc1 := 47) rfl rfl rfl ?_
    refine r_gfC (pc1 := 50) (q := 68) rfl rfl rfl t8 (lyk t8 rfl) rfl rfl (lyR t8 rfl rfl) ?_
    refine r_gfL (pc1 := 53) rfl rfl rfl t8 (lyk t8 rfl) rfl rfl ?_
    refine r_iq rfl rfl rfl rfl rfl rfl (xe_of (xa_l xa_0) rfl rfl) (r_d0 hd rfl) (a_X12_packsIn (hL h8 68 3) (r_d1 hd rfl)  w t8 (fun x9 rx9 w => ?_))
    refine r_fI (pc1 := 56) rfl ?_
    have w := w rx9
    exact r_retI rfl rfl rfl (k _ _ t8 s8 rx9 w)
  · have w := w.2 c10
    refine r_n (pc1 := 21) [.int (J (-1))] _ rfl rfl ?_
    exact r_retI rfl rfl rfl (k _ _ t4 s4 (rgk rfl) w)
def w_X14_surelyChanged (p0 : BitVec 64) (p1 : BitVec 64) (K : Int → Prop) (h : XH) : Prop :=
  ((∃ (I7 : Int → Int → Prop) (m7 : Int → Int → Nat), I7 0 0 ∧ ∀ (x1 : Int) (x2 : Int), rg x1 → rg x2 → I7 x1 x2 → (((hI h 438 0 ≤ x2 → (K x1)) ∧ (¬ (hI h 438 0 ≤ x2) → (w_X14_slotIn (hR h 437 34) x2 (fun x8 => rg x8 → (w_X14_isOnIn (hR h 437 34) x2 (fun x9 => rg x9 → (x9 = 0 ∨ x9 = 1) → (∃ J11 : BitVec 64 → Prop, (∀ (b10 : BitVec 64), J11 b10 → (w_X14_optionBit x2 (fun b12 => (∃ J14 : Int → Prop, (∀ (x13 : Int), rg x13 → J14 x13 → ((∃ (I18 : Int → Int → Prop) (m18 : Int → Int → Nat), I18 x13 0 ∧ ∀ (x16 : Int) (x17 : Int), rg x16 → rg x17 → I18 x16 x17 → (((hI h 438 4 ≤ x17 → (∃ J20 : Int → Prop, (∀ (x19 : Int), rg x19 → J20 x19 → (∀ x21 : Int, x21 = wr (x1 + x19) → rg x21 → ∀ x22 : Int, x22 = wr (x2 + 1) → rg x22 → (I7 x21 x22 ∧ m7 x21 x22 < m7 x1 x2))) ∧ ((x16 = 0 → (J20 0)) ∧ (¬ (x16 = 0) → (J20 1))))) ∧ (¬ (hI h 438 4 ≤ x17) → (∃ J25 : Int → Prop, (∀ (x24 : Int), rg x24 → J25 x24 → (∀ x26 : Int, x26 = wr (x17 + 1) → rg x26 → (I18 x24 x26 ∧ m18 x24 x26 < m18 x16 x17))) ∧ ∃ J27 : Prop, (J27 → (J25 1)) ∧ ((¬ x16 = 0 → J27) ∧ (¬ (¬ x16 = 0) → (w_X14_ver x17 0 (fun x28 => rg x28 → (∃ J29 : Prop, (J29 → (J25 0)) ∧ ((¬ x28 = x2 → J29) ∧ (¬ (¬ x28 = x2) → (((x17 = x8 → J29) ∧ (¬ (x17 = x8) → (w_X14_bit x17 (fun b30 => (((p0 &&& b30 = (0#64) → J29) ∧ (¬ (p0 &&& b30 = (0#64)) → J27)))) h)))))))) h)))))))))) ∧ ∃ J36 : Prop, (J36 → (J14 1)) ∧ ((¬ b10 &&& b12 = (0#64) → J36) ∧ (¬ (¬ b10 &&& b12 = (0#64)) → (∃ J37 : Prop, (J37 → (J14 0)) ∧ ((x8 = (-1) → J37) ∧ (¬ (x8 = (-1)) → (w_X14_bit x8 (fun b38 => (((p1 &&& b38 = (0#64) → J37) ∧ (¬ (p1 &&& b38 = (0#64)) → J36)))) h)))))))) h)) ∧ ((x9 = 0 → (J11 p0)) ∧ (¬ (x9 = 0) → (J11 p1))))) h)) h))))))
set_option maxHeartbeats 4000000 in
theorem a_X14_surelyChanged {sc : Nat × (Nat → Int32)} {goal : XO → XH → Prop} {fs : List XF} {h : XH} (p0 : BitVec 64) (p1 : BitVec 64) {K : Int → Prop} (hd : fs.length + 3 ≤ 1000) (w : w_X14_surelyChanged p0 p1 K h) (t0 : HT h) (k : ∀ (r : Int), rg r → K r → XFin xP sc goal fs (.inl (some (.int (J r)))) h) : RR sc goal fs 307 0 [some (rv 437), some (.long (G p0)), none, some (.long (G p1)), none, none, none, none, none, none, none] [] h := by
  unfold w_X14_surelyChanged at w
  refine r_n (pc1 := 1) [.int (J 0)] _ rfl rfl ?_
  refine r_ist (pc1 := 3) (ls1 := [some (rv 437), some (.long (G p0)), none, some (.long (G p1)), none, some (.int (J 0)), none, none, none, none, none]) rfl rfl rfl rfl ?_
  refine r_n (pc1 := 4) [.int (J 0)] _ rfl rfl ?_
  refine r_ist (pc1 := 6) (ls1 := [some (rv 437), some (.long (G p0)), none, some (.long (G p1)), none, some (.int (J 0)), some (.int (J 0)), none, none, none, none]) rfl rfl rfl rfl ?_
  obtain ⟨I7, m7, w, y7⟩ := w
  have Q7 : ∀ (n : Nat) (d3 : Option Value) (d4 : Option Value) (d5 : Option Value) (d6 : Option Value) (x1 : Int) (x2 : Int), rg x1 → rg x2 → m7 x1 x2 < n → I7 x1 x2 → RR sc goal fs 307 6 [some (rv 437), some (.long (G p0)), none, some (.long (G p1)), none, some (.int (J x1)), some (.int (J x2)), d3, d4, d5, d6] [] h := by
    intro n
    induction n with
    | zero => intro d3 d4 d5 d6 x1 x2 rx1 rx2 q7 _; exact absurd q7 (Nat.not_lt_zero _)
    | succ n ih7 =>
      intro d3 d4 d5 d6 x1 x2 rx1 rx2 q7 z7
      have w := y7 x1 x2 rx1 rx2 z7
      refine r_n (pc1 := 8) [.int (J x2)] _ rfl rfl ?_
      refine r_aldn (pc1 := 9) rfl rfl rfl ?_
      refine r_gfC (pc1 := 12) (q := 438) rfl rfl rfl t0 (lyk t0 rfl) rfl rfl (lyR t0 rfl rfl) ?_
      refine r_n (pc1 := 13) [.int (J 0), rv 438, .int (J x2)] _ rfl rfl ?_
      refine r_ial (pc1 := 14) rfl rfl t0 (lyk t0 rfl) (rgk rfl) (by decide) (lt_len (lyn t0 rfl) (by decide)) ?_
      refine r_ic (t := 170) (pc1 := 17) rfl rfl rfl rx2 (rgh _ _ _) (fun c43 => ?_) (fun c43 => ?_)
      · have w := w.1 c43
        refine r_n (pc1 := 172) [.int (J x1)] _ rfl rfl ?_
        exact r_retI rfl rfl rfl (k _ rx1 w)
      · have w := w.2 c43
        refine r_aldn (pc1 := 18) rfl rfl rfl ?_
        refine r_aldn (pc1 := 19) rfl rfl rfl ?_
        refine r_gfR (pc1 := 22) rfl rfl rfl t0 (lyk t0 rfl) rfl rfl ?_
        refine r_n (pc1 := 24) [.int (J x2), rv (hR h 437 34), rv 437] _ rfl rfl ?_
        refine r_iv rfl rfl rfl rfl rfl rfl t0 (lyk t0 rfl) rfl (xe_of (xa_r (xa_r (xa_i xa_0))) rfl rfl) (r_d0 hd rfl) (a_X14_slotIn (hR h 437 34) x2 (r_d1 hd rfl) rx2 w t0 (fun x8 rx8 w => ?_))
        refine r_fI (pc1 := 27) rfl ?_
        have w := w rx8
        refine r_ist (pc1 := 29) (ls1 := [some (rv 437), some (.long (G p0)), none, some (.long (G p1)), none, some (.int (J x1)), some (.int (J x2)), some (.int (J x8)), d4, d5, d6]) rfl rfl rfl rfl ?_
        refine r_aldn (pc1 := 30) rfl rfl rfl ?_
        refine r_gfR (pc1 := 33) rfl rfl rfl t0 (lyk t0 rfl) rfl rfl ?_
        refine r_n (pc1 := 35) [.int (J x2), rv (hR h 437 34)] _ rfl rfl ?_
        refine r_iq rfl rfl rfl rfl rfl rfl (xe_of (xa_r (xa_i xa_0)) rfl rfl) (r_d0 hd rfl) (a_X14_isOnIn (hR h 437 34) x2 (r_d1 hd rfl) rx2 w t0 (fun x9 rx9 vx9 w => ?_))
        refine r_fI (pc1 := 38) rfl ?_
        have w := w rx9 vx9
        refine r_ist (pc1 := 40) (ls1 := [some (rv 437), some (.long (G p0)), none, some (.long (G p1)), none, some (.int (J x1)), some (.int (J x2)), some (.int (J x8)), some (.int (J x9)), d5, d6]) rfl rfl rfl rfl ?_
        refine r_n (pc1 := 42) [.int (J x9)] _ rfl rfl ?_
        obtain ⟨J11, j11, w⟩ := w
        have Q11 : ∀ (b10 : BitVec 64), J11 b10 → RR sc goal fs 307 50 [some (rv 437), some (.long (G p0)), none, some (.long (G p1)), none, some (.int (J x1)), some (.int (J x2)), some (.int (J x8)), some (.int (J x9)), d5, d6] [.long (G b10)] h := by
          intro b10 z11
          have w := j11 b10 z11
          refine r_n (pc1 := 52) [.int (J x2), .long (G b10)] _ rfl rfl ?_
          refine r_iq rfl rfl rfl rfl rfl rfl (xe_of (xa_i xa_0) rfl rfl) (r_d0 hd rfl) (a_X14_optionBit x2 (r_d1 hd rfl) rx2 w t0 (fun b12 w => ?_))
          refine r_fL (pc1 := 55) rfl ?_
          refine r_land (pc1 := 56) rfl rfl ?_
          refine r_n (pc1 := 57) [.long (G (0#64)), .long (G (b10 &&& b12))] _ rfl rfl ?_
          obtain ⟨J14, j14, w⟩ := w
          have Q14 : ∀ (x13 : Int), rg x13 → J14 x13 → RR sc goal fs 307 84 [some (rv 437), some (.long (G p0)), none, some (.long (G p1)), none, some (.int (J x1)), some (.int (J x2)), some (.int (J x8)), some (.int (J x9)), d5, d6] [.int (J x13)] h := by
            intro x13 rx13 z14
            have w := j14 x13 rx13 z14
            refine r_ist (pc1 := 86) (ls1 := [some (rv 437), some (.long (G p0)), none, some (.long (G p1)), none, some (.int (J x1)), some (.int (J x2)), some (.int (J x8)), some (.int (J x9)), some (.int (J x13)), d6]) rfl rfl rfl rfl ?_
            refine r_n (pc1 := 87) [.int (J 0)] _ rfl rfl ?_
            refine r_ist (pc1 := 89) (ls1 := [some (rv 437), some (.long (G p0)), none, some (.long (G p1)), none, some (.int (J x1)), some (.int (J x2)), some (.int (J x8)), some (.int (J x9)), some (.int (J x13)), some (.int (J 0))]) rfl rfl rfl rfl ?_
            obtain ⟨I18, m18, w, y18⟩ := w
            have Q18 : ∀ (n : Nat) (d15 : Option Value) (x16 : Int) (x17 : Int), rg x16 → rg x17 → m18 x16 x17 < n → I18 x16 x17 → RR sc goal fs 307 89 [some (rv 437), some (.long (G p0)), none, some (.long (G p1)), none, some (.int (J x1)), some (.int (J x2)), some (.int (J x8)), d15, some (.int (J x16)), some (.int (J x17))] [] h := by
              intro n
              induction n with
              | zero => intro d15 x16 x17 rx16 rx17 q18 _; exact absurd q18 (Nat.not_lt_zero _)
              | succ n ih18 =>
                intro d15 x16 x17 rx16 rx17 q18 z18
                have w := y18 x16 x17 rx16 rx17 z18
                refine r_n (pc1 := 91) [.int (J x17)] _ rfl rfl ?_
                refine r_aldn (pc1 := 92) rfl rfl rfl ?_
                refine r_gfC (pc1 := 95) (q := 438) rfl rfl rfl t0 (lyk t0 rfl) rfl rfl (lyR t0 rfl rfl) ?_
                refine r_n (pc1 := 96) [.int (J 4), rv 438, .int (J x17)] _ rfl rfl ?_
                refine r_ial (pc1 := 97) rfl rfl t0 (lyk t0 rfl) (rgk rfl) (by decide) (lt_len (lyn t0 rfl) (by decide)) ?_
                refine r_ic (t := 149) (pc1 := 100) rfl rfl rfl rx17 (rgh _ _ _) (fun c35 => ?_) (fun c35 => ?_)
                · have w := w.1 c35
                  refine r_n (pc1 := 151) [.int (J x1)] _ rfl rfl ?_
                  refine r_n (pc1 := 153) [.int (J x16), .int (J x1)] _ rfl rfl ?_
                  obtain ⟨J20, j20, w⟩ := w
                  have Q20 : ∀ (x19 : Int), rg x19 → J20 x19 → RR sc goal fs 307 161 [some (rv 437), some (.long (G p0)), none, some (.long (G p1)), none, some (.int (J x1)), some (.int (J x2)), some (.int (J x8)), d15, some (.int (J x16)), some (.int (J x17))] [.int (J x19), .int (J x1)] h := by
                    intro x19 rx19 z20
                    have w := j20 x19 rx19 z20
                    refine r_iadd (pc1 := 162) rfl rfl ?_
                    refine r_vI (rgw _) (fun x21 ex21 rx21 => ?_)
                    have w := w x21 ex21 rx21
                    refine r_ist (pc1 := 164) (ls1 := [some (rv 437), some (.long (G p0)), none, some (.long (G p1)), none, some (.int (J x21)), some (.int (J x2)), some (.int (J x8)), d15, some (.int (J x16)), some (.int (J x17))]) rfl rfl rfl rfl ?_
                    refine r_inc (pc1 := 167) (g := fun zz => [some (rv 437), some (.long (G p0)), none, some (.long (G p1)), none, some (.int (J x21)), some (.int (J zz)), some (.int (J x8)), d15, some (.int (J x16)), some (.int (J x17))]) rfl rfl rfl rfl (fun _ => rfl) (fun x22 ex22 rx22 => ?_)
                    have w := w x22 ex22 rx22
                    refine r_goto (t := 6) rfl rfl ?_
                    exact ih7 _ _ _ _ x21 x22  rx21 rx22 (Nat.lt_of_lt_of_le w.2 (Nat.le_of_lt_succ q7)) w.1
                  refine r_iz (t := 160) (pc1 := 156) rfl rfl rfl rx16 (fun c23 => ?_) (fun c23 => ?_)
                  · have w := w.1 c23
                    refine r_n (pc1 := 161) [.int (J 0), .int (J x1)] _ rfl rfl ?_
                    exact Q20  0  (rgk rfl) w
                  · have w := w.2 c23
                    refine r_n (pc1 := 157) [.int (J 1), .int (J x1)] _ rfl rfl ?_
                    refine r_goto (t := 161) rfl rfl ?_
                    exact Q20  1  (rgk rfl) w
                · have w := w.2 c35
                  refine r_n (pc1 := 102) [.int (J x16)] _ rfl rfl ?_
                  obtain ⟨J25, j25, w⟩ := w
                  have Q25 : ∀ (x24 : Int), rg x24 → J25 x24 → RR sc goal fs 307 141 [some (rv 437), some (.long (G p0)), none, some (.long (G p1)), none, some (.int (J x1)), some (.int (J x2)), some (.int (J x8)), d15, some (.int (J x16)), some (.int (J x17))] [.int (J x24)] h := by
                    intro x24 rx24 z25
                    have w := j25 x24 rx24 z25
                    refine r_ist (pc1 := 143) (ls1 := [some (rv 437), some (.long (G p0)), none, some (.long (G p1)), none, some (.int (J x1)), some (.int (J x2)), some (.int (J x8)), (dcl d15), some (.int (J x24)), some (.int (J x17))]) rfl rfl rfl (xput1_d rfl rfl) ?_
                    refine r_inc (pc1 := 146) (g := fun zz => [some (rv 437), some (.long (G p0)), none, some (.long (G p1)), none, some (.int (J x1)), some (.int (J x2)), some (.int (J x8)), (dcl d15), some (.int (J x24)), some (.int (J zz))]) rfl rfl rfl rfl (fun _ => rfl) (fun x26 ex26 rx26 => ?_)
                    have w := w x26 ex26 rx26
                    refine r_goto (t := 89) rfl rfl ?_
                    exact ih18 _ x24 x26  rx24 rx26 (Nat.lt_of_lt_of_le w.2 (Nat.le_of_lt_succ q18)) w.1
                  obtain ⟨J27, j27, w⟩ := w
                  have Q27 : J27 → RR sc goal fs 307 136 [some (rv 437), some (.long (G p0)), none, some (.long (G p1)), none, some (.int (J x1)), some (.int (J x2)), some (.int (J x8)), d15, some (.int (J x16)), some (.int (J x17))] [] h := by
                    intro z27
                    have w := j27 z27
                    refine r_n (pc1 := 137) [.int (J 1)] _ rfl rfl ?_
                    refine r_goto (t := 141) rfl rfl ?_
                    exact Q25  1  (rgk rfl) w
                  refine r_iz (t := 136) (pc1 := 105) rfl rfl rfl rx16 (fun c34 => ?_) (fun c34 => ?_)
                  · have w := w.1 c34
                    exact Q27     w
                  · have w := w.2 c34
                    refine r_aldn (pc1 := 106) rfl rfl rfl ?_
                    refine r_n (pc1 := 108) [.int (J x17), rv 437] _ rfl rfl ?_
                    refine r_n (pc1 := 109) [.int (J 0), .int (J x17), rv 437] _ rfl rfl ?_
                    refine r_iv rfl rfl rfl rfl rfl rfl t0 (lyk t0 rfl) rfl (xe_of (xa_r (xa_i (xa_i xa_0))) rfl rfl) (r_d0 hd rfl) (a_X14_ver x17 0 (r_d1 hd rfl) rx17 (rgk rfl) w t0 (fun x28 rx28 w => ?_))
                    refine r_fI (pc1 := 112) rfl ?_
                    have w := w rx28
                    refine r_n (pc1 := 114) [.int (J x2), .int (J x28)] _ rfl rfl ?_
                    obtain ⟨J29, j29, w⟩ := w
                    have Q29 : J29 → RR sc goal fs 307 140 [some (rv 437), some (.long (G p0)), none, some (.long (G p1)), none, some (.int (J x1)), some (.int (J x2)), some (.int (J x8)), d15, some (.int (J x16)), some (.int (J x17))] [] h := by
                      intro z29
                      have w := j29 z29
                      refine r_n (pc1 := 141) [.int (J 0)] _ rfl rfl ?_
                      exact Q25  0  (rgk rfl) w
                    refine r_ic (t := 140) (pc1 := 117) rfl rfl rfl rx28 rx2 (fun c33 => ?_) (fun c33 => ?_)
                    · have w := w.1 c33
                      exact Q29     w
                    · have w := w.2 c33
                      refine r_n (pc1 := 119) [.int (J x17)] _ rfl rfl ?_
                      refine r_n (pc1 := 121) [.int (J x8), .int (J x17)] _ rfl rfl ?_
                      refine r_ic (t := 140) (pc1 := 124) rfl rfl rfl rx17 rx8 (fun c32 => ?_) (fun c32 => ?_)
                      · have w := w.1 c32
                        exact Q29     w
                      · have w := w.2 c32
                        refine r_n (pc1 := 125) [.long (G p0)] _ rfl rfl ?_
                        refine r_n (pc1 := 127) [.int (J x17), .long (G p0)] _ rfl rfl ?_
                        refine r_iq rfl rfl rfl rfl rfl rfl (xe_of (xa_i xa_0) rfl rfl) (r_d0 hd rfl) (a_X14_bit x17 (r_d1 hd rfl) rx17 w t0 (fun b30 w => ?_))
                        refine r_fL (pc1 := 130) rfl ?_
                        refine r_land (pc1 := 131) rfl rfl ?_
                        refine r_n (pc1 := 132) [.long (G (0#64)), .long (G (p0 &&& b30))] _ rfl rfl ?_
                        refine r_lc (pc2 := 133) (t := 140) (pc1 := 136) rfl rfl rfl rfl rfl (fun c31 => ?_) (fun c31 => ?_)
                        · have w := w.1 c31
                          exact Q29     w
                        · have w := w.2 c31
                          exact Q27     w
            exact Q18 _ _ x13 0  rx13 (rgk rfl) (Nat.lt_succ_self _) w
          obtain ⟨J36, j36, w⟩ := w
          have Q36 : J36 → RR sc goal fs 307 79 [some (rv 437), some (.long (G p0)), none, some (.long (G p1)), none, some (.int (J x1)), some (.int (J x2)), some (.int (J x8)), some (.int (J x9)), d5, d6] [] h := by
            intro z36
            have w := j36 z36
            refine r_n (pc1 := 80) [.int (J 1)] _ rfl rfl ?_
            refine r_goto (t := 84) rfl rfl ?_
            exact Q14  1  (rgk rfl) w
          refine r_lc (pc2 := 58) (t := 79) (pc1 := 61) rfl rfl rfl rfl rfl (fun c41 => ?_) (fun c41 => ?_)
          · have w := w.1 c41
            exact Q36     w
          · have w := w.2 c41
            refine r_n (pc1 := 63) [.int (J x8)] _ rfl rfl ?_
            refine r_n (pc1 := 64) [.int (J (-1)), .int (J x8)] _ rfl rfl ?_
            obtain ⟨J37, j37, w⟩ := w
            have Q37 : J37 → RR sc goal fs 307 83 [some (rv 437), some (.long (G p0)), none, some (.long (G p1)), none, some (.int (J x1)), some (.int (J x2)), some (.int (J x8)), some (.int (J x9)), d5, d6] [] h := by
              intro z37
              have w := j37 z37
              refine r_n (pc1 := 84) [.int (J 0)] _ rfl rfl ?_
              exact Q14  0  (rgk rfl) w
            refine r_ic (t := 83) (pc1 := 67) rfl rfl rfl rx8 (rgk rfl) (fun c40 => ?_) (fun c40 => ?_)
            · have w := w.1 c40
              exact Q37     w
            · have w := w.2 c40
              refine r_n (pc1 := 68) [.long (G p1)] _ rfl rfl ?_
              refine r_n (pc1 := 70) [.int (J x8), .long (G p1)] _ rfl rfl ?_
              refine r_iq rfl rfl rfl rfl rfl rfl (xe_of (xa_i xa_0) rfl rfl) (r_d0 hd rfl) (a_X14_bit x8 (r_d1 hd rfl) rx8 w t0 (fun b38 w => ?_))
              refine r_fL (pc1 := 73) rfl ?_
              refine r_land (pc1 := 74) rfl rfl ?_
              refine r_n (pc1 := 75) [.long (G (0#64)), .long (G (p1 &&& b38))] _ rfl rfl ?_
              refine r_lc (pc2 := 76) (t := 83) (pc1 := 79) rfl rfl rfl rfl rfl (fun c39 => ?_) (fun c39 => ?_)
              · have w := w.1 c39
                exact Q37     w
              · have w := w.2 c39
                exact Q36     w
        refine r_iz (t := 49) (pc1 := 45) rfl rfl rfl rx9 (fun c42 => ?_) (fun c42 => ?_)
        · have w := w.1 c42
          refine r_n (pc1 := 50) [.long (G p0)] _ rfl rfl ?_
          exact Q11  p0   w
        · have w := w.2 c42
          refine r_n (pc1 := 46) [.long (G p1)] _ rfl rfl ?_
          refine r_goto (t := 50) rfl rfl ?_
          exact Q11  p1   w
  exact Q7 _ _ _ _ _ 0 0  (rgk rfl) (rgk rfl) (Nat.lt_succ_self _) w
def wb_X14_search (rec_ : BitVec 64 → BitVec 64 → (Int → XH → Prop) → XH → Prop) (p0 : BitVec 64) (p1 : BitVec 64) (K : Int → XH → Prop) (h : XH) : Prop :=
  ((∃ (I11 : BitVec 64 → BitVec 64 → Int → Int → Prop) (m11 : BitVec 64 → BitVec 64 → Int → Int → Nat), I11 p0 p1 (-1) 1 ∧ ∀ (b1 : BitVec 64) (b2 : BitVec 64) (x3 : Int) (x4 : Int), rg x3 → rg x4 → I11 b1 b2 x3 x4 → (((x4 = 0 → (∃ J12 : Prop, (J12 → (((¬ x3 = (-1) → (hk h (hR h 437 24) = 101 ∧ (0 ≤ x3 ∧ x3 < (hn h (hR h 437 24) : Int)) ∧ ∀ b15 : BitVec 64, b15 = (hL h (hR h 437 24) x3.toNat) &&& (b2 ^^^ (18446744073709551615#64)) → ∃ J17 : BitVec 64 → Prop, (∀ (b16 : BitVec 64), J17 b16 → (w_J13_lowestOneBit_067f4 b16 (fun b18 => (((b15 = (0#64) → (rec_ b1 (b2 ||| b18) (fun x19 h20 => HT h20 → HX h h20 → rg x19 → (x19 = 0 ∨ x19 = 1) → (∃ J23 : Int → XH → Prop, (∀ (x21 : Int) (h22 : XH), HT h22 → HX h h22 → rg x21 → J23 x21 h22 → ((x21 = 0 ∨ x21 = 1) ∧ K x21 h22)) ∧ ∃ J26 : XH → Prop, (∀ (h25 : XH), HT h25 → HX h h25 → J26 h25 → (J23 1 h25)) ∧ ((¬ x19 = 0 → J26 h20) ∧ (¬ (¬ x19 = 0) → (rec_ (b1 ||| b18) b2 (fun x27 h28 => HT h28 → HX h20 h28 → rg x27 → (x27 = 0 ∨ x27 = 1) → (((x27 = 0 → (J23 0 h28)) ∧ (¬ (x27 = 0) → J26 h28)))) h20))))) h)) ∧ (¬ (b15 = (0#64)) → (rec_ (b1 ||| b18) b2 (fun x31 h32 => HT h32 → HX h h32 → rg x31 → (x31 = 0 ∨ x31 = 1) → (∃ J35 : Int → XH → Prop, (∀ (x33 : Int) (h34 : XH), HT h34 → HX h h34 → rg x33 → J35 x33 h34 → ((x33 = 0 ∨ x33 = 1) ∧ K x33 h34)) ∧ ∃ J38 : XH → Prop, (∀ (h37 : XH), HT h37 → HX h h37 → J38 h37 → (J35 1 h37)) ∧ ((¬ x31 = 0 → J38 h32) ∧ (¬ (¬ x31 = 0) → (rec_ b1 (b2 ||| b18) (fun x39 h40 => HT h40 → HX h32 h40 → rg x39 → (x39 = 0 ∨ x39 = 1) → (((x39 = 0 → (J35 0 h40)) ∧ (¬ (x39 = 0) → J38 h40)))) h32))))) h))))) h)) ∧ ((b15 = (0#64) → (hk h (hR h 437 25) = 101 ∧ (0 ≤ x3 ∧ x3 < (hn h (hR h 437 25) : Int)) ∧ J17 ((hL h (hR h 437 25) x3.toNat) &&& (b1 ^^^ (18446744073709551615#64))))) ∧ (¬ (b15 = (0#64)) → (J17 b15))))) ∧ (¬ (¬ x3 = (-1)) → (∀ h47 : XH, h47 = sL h 437 35 b1 → HT h47 → HX h h47 → ∀ h48 : XH, h48 = sL h47 437 36 b2 → HT h48 → HX h47 h48 → K 1 h48))))) ∧ ((hI h 437 33 = (-1) → J12) ∧ (¬ (hI h 437 33 = (-1)) → (w_X14_surelyChanged b1 b2 (fun x50 => rg x50 → (((x50 ≤ hI h 437 33 → J12) ∧ (¬ (x50 ≤ hI h 437 33) → (K 0 h))))) h))))) ∧ (¬ (x4 = 0) → ((∃ (I63 : BitVec 64 → BitVec 64 → Int → Int → Int → Prop) (m63 : BitVec 64 → BitVec 64 → Int → Int → Int → Nat), I63 b1 b2 (-1) 0 0 ∧ ∀ (b53 : BitVec 64) (b54 : BitVec 64) (x55 : Int) (x56 : Int) (x57 : Int), rg x55 → rg x56 → rg x57 → I63 b53 b54 x55 x56 x57 → (((hI h 437 29 ≤ x57 → ((I11 b53 b54 x55 x56 ∧ m11 b53 b54 x55 x56 < m11 b1 b2 x3 x4))) ∧ (¬ (hI h 437 29 ≤ x57) → (∃ J73 : BitVec 64 → BitVec 64 → Int → Int → Prop, (∀ (b64 : BitVec 64) (b65 : BitVec 64) (x66 : Int) (x67 : Int), rg x66 → rg x67 → J73 b64 b65 x66 x67 → (∀ x74 : Int, x74 = wr (x57 + 1) → rg x74 → (I63 b64 b65 x66 x67 x74 ∧ m63 b64 b65 x66 x67 x74 < m63 b53 b54 x55 x56 x57))) ∧ ∃ J75 : Prop, (J75 → (hk h (hR h 437 24) = 101 ∧ (0 ≤ x57 ∧ x57 < (hn h (hR h 437 24) : Int)) ∧ ((¬ (hL h (hR h 437 24) x57.toNat) &&& b53 = (0#64) → J73 b53 b54 x55 x56) ∧ (¬ (¬ (hL h (hR h 437 24) x57.toNat) &&& b53 = (0#64)) → (hk h (hR h 437 25) = 101 ∧ (0 ≤ x57 ∧ x57 < (hn h (hR h 437 25) : Int)) ∧ (((hL h (hR h 437 25) x57.toNat) &&& b54 = (0#64) → (∀ b80 : BitVec 64, b80 = (hL h (hR h 437 24) x57.toNat) &&& (b54 ^^^ (18446744073709551615#64)) → ∀ b81 : BitVec 64, b81 = (hL h (hR h 437 25) x57.toNat) &&& (b53 ^^^ (18446744073709551615#64)) → w_J13_bitCount_95d88 b80 (fun x82 => rg x82 → (w_J13_bitCount_95d88 b81 (fun x83 => rg x83 → (∀ x84 : Int, x84 = wr (x82 + x83) → rg x84 → ((¬ x84 = 0 → (((¬ x84 = 1 → (((¬ x55 = (-1) → J73 b53 b54 x55 x56) ∧ (¬ (¬ x55 = (-1)) → (J73 b53 b54 x57 x56))))) ∧ (¬ (¬ x84 = 1) → (∀ b86 : BitVec 64, b86 = b53 ||| b80 → ∀ b87 : BitVec 64, b87 = b54 ||| b81 → J73 b86 b87 x55 1))))) ∧ (¬ (¬ x84 = 0) → (K 0 h))))) h)) h)) ∧ (¬ ((hL h (hR h 437 25) x57.toNat) &&& b54 = (0#64)) → (J73 b53 b54 x55 x56)))))))) ∧ ((¬ hI h 437 32 = 0 → J75) ∧ (¬ (¬ hI h 437 32 = 0) → (hk h (hR h 437 31) = 102 ∧ (0 ≤ x57 ∧ x57 < (hn h (hR h 437 31) : Int)) ∧ ((hI h (hR h 437 31) x57.toNat = 0 → J73 b53 b54 x55 x56) ∧ (¬ (hI h (hR h 437 31) x57.toNat = 0) → J75))))))))))))))))
def wn_X14_search : Nat → BitVec 64 → BitVec 64 → (Int → XH → Prop) → XH → Prop
  | 0 => fun _ _ _ _ => False
  | n + 1 => wb_X14_search (wn_X14_search n)
def w_X14_search (p0 : BitVec 64) (p1 : BitVec 64) (K : Int → XH → Prop) (h : XH) : Prop := wn_X14_search 70 p0 p1 K h
set_option maxHeartbeats 40000000 in
theorem an_X14_search {sc : Nat × (Nat → Int32)} {goal : XO → XH → Prop} (n : Nat) : ∀ {fs : List XF} {h : XH} (p0 : BitVec 64) (p1 : BitVec 64) {K : Int → XH → Prop} (hd : fs.length + (n + 4) ≤ 1000)  (w : wn_X14_search n p0 p1 K h) (t0 : HT h) (k : ∀ (r : Int) (h1 : XH), HT h1 → HX h h1 → rg r → (r = 0 ∨ r = 1) → K r h1 → XFin xP sc goal fs (.inl (some (.int (J r)))) h1), RR sc goal fs 295 0 [some (rv 437), some (.long (G p0)), none, some (.long (G p1)), none, none, none, none, none, none, none, none, none, none, none, none, none] [] h := by
  induction n with
  | zero => intro fs h p0 p1 K hd w t0 k; exact w.elim
  | succ n ih =>
    intro fs h p0 p1 K hd w t0 k
    have w : wb_X14_search (wn_X14_search n) p0 p1 K h := w
    unfold wb_X14_search at w
    refine r_n (pc1 := 1) [.long (G p0)] _ rfl rfl ?_
    refine r_lst (pc1 := 3) (ls1 := [some (rv 437), some (.long (G p0)), none, some (.long (G p1)), none, some (.long (G p0)), none, none, none, none, none, none, none, none, none, none, none]) rfl rfl rfl rfl ?_
    refine r_n (pc1 := 4) [.long (G p1)] _ rfl rfl ?_
    refine r_lst (pc1 := 6) (ls1 := [some (rv 437), some (.long (G p0)), none, some (.long (G p1)), none, some (.long (G p0)), none, some (.long (G p1)), none, none, none, none, none, none, none, none, none]) rfl rfl rfl rfl ?_
    refine r_n (pc1 := 7) [.int (J (-1))] _ rfl rfl ?_
    refine r_ist (pc1 := 9) (ls1 := [some (rv 437), some (.long (G p0)), none, some (.long (G p1)), none, some (.long (G p0)), none, some (.long (G p1)), none, some (.int (J (-1))), none, none, none, none, none, none, none]) rfl rfl rfl rfl ?_
    refine r_n (pc1 := 10) [.int (J 1)] _ rfl rfl ?_
    refine r_ist (pc1 := 12) (ls1 := [some (rv 437), some (.long (G p0)), none, some (.long (G p1)), none, some (.long (G p0)), none, some (.long (G p1)), none, some (.int (J (-1))), some (.int (J 1)), none, none, none, none, none, none]) rfl rfl rfl rfl ?_
    obtain ⟨I11, m11, w, y11⟩ := w
    have Q11 : ∀ (n : Nat) (d5 : Option Value) (d6 : Option Value) (d7 : Option Value) (d8 : Option Value) (d9 : Option Value) (d10 : Option Value) (b1 : BitVec 64) (b2 : BitVec 64) (x3 : Int) (x4 : Int), rg x3 → rg x4 → m11 b1 b2 x3 x4 < n → I11 b1 b2 x3 x4 → RR sc goal fs 295 12 [some (rv 437), some (.long (G p0)), none, some (.long (G p1)), none, some (.long (G b1)), none, some (.long (G b2)), none, some (.int (J x3)), some (.int (J x4)), d5, d6, d7, d8, d9, d10] [] h := by
      intro n
      induction n with
      | zero => intro d5 d6 d7 d8 d9 d10 b1 b2 x3 x4 rx3 rx4 q11 _; exact absurd q11 (Nat.not_lt_zero _)
      | succ n ih11 =>
        intro d5 d6 d7 d8 d9 d10 b1 b2 x3 x4 rx3 rx4 q11 z11
        have w := y11 b1 b2 x3 x4 rx3 rx4 z11
        refine r_n (pc1 := 14) [.int (J x4)] _ rfl rfl ?_
        refine r_iz (t := 182) (pc1 := 17) rfl rfl rfl rx4 (fun c97 => ?_) (fun c97 => ?_)
        · have w := w.1 c97
          refine r_aldn (pc1 := 183) rfl rfl rfl ?_
          refine r_gfI (pc1 := 186) rfl rfl rfl t0 (lyk t0 rfl) rfl rfl ?_
          refine r_n (pc1 := 187) [.int (J (-1)), .int (J (hI h 437 33))] _ rfl rfl ?_
          obtain ⟨J12, j12, w⟩ := w
          have Q12 : J12 → RR sc goal fs 295 207 [some (rv 437), some (.long (G p0)), none, some (.long (G p1)), none, some (.long (G b1)), none, some (.long (G b2)), none, some (.int (J x3)), some (.int (J x4)), d5, d6, d7, d8, d9, d10] [] h := by
            intro z12
            have w := j12 z12
            refine r_n (pc1 := 209) [.int (J x3)] _ rfl rfl ?_
            refine r_n (pc1 := 210) [.int (J (-1)), .int (J x3)] _ rfl rfl ?_
            refine r_ic (t := 227) (pc1 := 213) rfl rfl rfl rx3 (rgk rfl) (fun c49 => ?_) (fun c49 => ?_)
            · have w := w.1 c49
              refine r_aldn (pc1 := 228) rfl rfl rfl ?_
              refine r_gfR (pc1 := 231) rfl rfl rfl t0 (lyk t0 rfl) rfl rfl ?_
              refine r_n (pc1 := 233) [.int (J x3), rv (hR h 437 24)] _ rfl rfl ?_
              obtain ⟨c13, w⟩ := w
              obtain ⟨c14, w⟩ := w
              refine r_lal (pc1 := 234) rfl rfl t0 c13 rx3 c14.1 c14.2 ?_
              refine r_n (pc1 := 236) [.long (G b2), .long (G (hL h (hR h 437 24) x3.toNat))] _ rfl rfl ?_
              refine r_n (pc1 := 239) [.long (G (18446744073709551615#64)), .long (G b2), .long (G (hL h (hR h 437 24) x3.toNat))] _ rfl rfl ?_
              refine r_lxor (pc1 := 240) rfl rfl ?_
              refine r_land (pc1 := 241) rfl rfl ?_
              refine r_vL (fun b15 eb15 => ?_)
              have w := w b15 eb15
              refine r_lst (pc1 := 243) (ls1 := [some (rv 437), some (.long (G p0)), none, some (.long (G p1)), none, some (.long (G b1)), none, some (.long (G b2)), none, some (.int (J x3)), some (.int (J x4)), some (.long (G b15)), none, d7, d8, d9, d10]) rfl rfl rfl rfl ?_
              refine r_n (pc1 := 245) [.long (G b15)] _ rfl rfl ?_
              refine r_n (pc1 := 246) [.long (G (0#64)), .long (G b15)] _ rfl rfl ?_
              obtain ⟨J17, j17, w⟩ := w
              have Q17 : ∀ (b16 : BitVec 64), J17 b16 → RR sc goal fs 295 269 [some (rv 437), some (.long (G p0)), none, some (.long (G p1)), none, some (.long (G b1)), none, some (.long (G b2)), none, some (.int (J x3)), some (.int (J x4)), some (.long (G b15)), none, d7, d8, d9, d10] [.long (G b16)] h := by
                intro b16 z17
                have w := j17 b16 z17
                refine r_iq rfl rfl rfl rfl rfl rfl (xe_of (xa_l xa_0) rfl rfl) (r_d0 hd rfl) (a_J13_lowestOneBit_067f4 b16 (r_d1 hd rfl)  w t0 (fun b18 w => ?_))
                refine r_fL (pc1 := 272) rfl ?_
                refine r_lst (pc1 := 274) (ls1 := [some (rv 437), some (.long (G p0)), none, some (.long (G p1)), none, some (.long (G b1)), none, some (.long (G b2)), none, some (.int (J x3)), some (.int (J x4)), some (.long (G b15)), none, some (.long (G b18)), none, d9, d10]) rfl rfl rfl rfl ?_
                refine r_n (pc1 := 276) [.long (G b15)] _ rfl rfl ?_
                refine r_n (pc1 := 277) [.long (G (0#64)), .long (G b15)] _ rfl rfl ?_
                refine r_lc (pc2 := 278) (t := 315) (pc1 := 281) rfl rfl rfl rfl rfl (fun c43 => ?_) (fun c43 => ?_)
                · have w := w.1 c43
                  refine r_aldn (pc1 := 316) rfl rfl rfl ?_
                  refine r_n (pc1 := 318) [.long (G b1), rv 437] _ rfl rfl ?_
                  refine r_n (pc1 := 320) [.long (G b2), .long (G b1), rv 437] _ rfl rfl ?_
                  refine r_n (pc1 := 322) [.long (G b18), .long (G b2), .long (G b1), rv 437] _ rfl rfl ?_
                  refine r_lor (pc1 := 323) rfl rfl ?_
                  refine r_iv rfl rfl rfl rfl rfl rfl t0 (lyk t0 rfl) rfl (xe_of (xa_r (xa_l (xa_l xa_0))) rfl rfl) (r_d0 hd rfl) (ih b1 (b2 ||| b18) (by simp only [List.length_cons]; omega)  w t0 (fun x19 h20 t20 u20 rx19 vx19 w => ?_))
                  refine r_fI (pc1 := 326) rfl ?_
                  have s20 := HX_trans (HX_refl h) u20
                  have w := w t20 u20
                  have w := w rx19 vx19
                  obtain ⟨J23, j23, w⟩ := w
                  have Q23 : ∀ (x21 : Int) (h22 : XH), HT h22 → HX h h22 → rg x21 → J23 x21 h22 → RR sc goal fs 295 348 [some (rv 437), some (.long (G p0)), none, some (.long (G p1)), none, some (.long (G b1)), none, some (.long (G b2)), none, some (.int (J x3)), some (.int (J x4)), some (.long (G b15)), none, some (.long (G b18)), none, d9, d10] [.int (J x21)] h22 := by
                    intro x21 h22 t22 s22 rx21 z23
                    have w := j23 x21 h22 t22 s22 rx21 z23
                    obtain ⟨c24, w⟩ := w
                    exact r_retB rfl rfl rfl c24 (k _ _ t22 s22 rx21 c24 w)
                  obtain ⟨J26, j26, w⟩ := w
                  have Q26 : ∀ (h25 : XH), HT h25 → HX h h25 → J26 h25 → RR sc goal fs 295 343 [some (rv 437), some (.long (G p0)), none, some (.long (G p1)), none, some (.long (G b1)), none, some (.long (G b2)), none, some (.int (J x3)), some (.int (J x4)), some (.long (G b15)), none, some (.long (G b18)), none, d9, d10] [] h25 := by
                    intro h25 t25 s25 z26
                    have w := j26 h25 t25 s25 z26
                    refine r_n (pc1 := 344) [.int (J 1)] _ rfl rfl ?_
                    refine r_goto (t := 348) rfl rfl ?_
                    exact Q23  1 h25 t25 s25 (rgk rfl) w
                  refine r_iz (t := 343) (pc1 := 329) rfl rfl rfl rx19 (fun c30 => ?_) (fun c30 => ?_)
                  · have w := w.1 c30
                    exact Q26   h20 t20 s20  w
                  · have w := w.2 c30
                    refine r_aldn (pc1 := 330) rfl rfl rfl ?_
                    refine r_n (pc1 := 332) [.long (G b1), rv 437] _ rfl rfl ?_
                    refine r_n (pc1 := 334) [.long (G b18), .long (G b1), rv 437] _ rfl rfl ?_
                    refine r_lor (pc1 := 335) rfl rfl ?_
                    refine r_n (pc1 := 337) [.long (G b2), .long (G (b1 ||| b18)), rv 437] _ rfl rfl ?_
                    refine r_iv rfl rfl rfl rfl rfl rfl t20 (lyk t20 rfl) rfl (xe_of (xa_r (xa_l (xa_l xa_0))) rfl rfl) (r_d0 hd rfl) (ih (b1 ||| b18) b2 (by simp only [List.length_cons]; omega)  w t20 (fun x27 h28 t28 u28 rx27 vx27 w => ?_))
                    refine r_fI (pc1 := 340) rfl ?_
                    have s28 := HX_trans s20 u28
                    have w := w t28 u28
                    have w := w rx27 vx27
                    refine r_iz (t := 347) (pc1 := 343) rfl rfl rfl rx27 (fun c29 => ?_) (fun c29 => ?_)
                    · have w := w.1 c29
                      refine r_n (pc1 := 348) [.int (J 0)] _ rfl rfl ?_
                      exact Q23  0 h28 t28 s28 (rgk rfl) w
                    · have w := w.2 c29
                      exact Q26   h28 t28 s28  w
                · have w := w.2 c43
                  refine r_aldn (pc1 := 282) rfl rfl rfl ?_
                  refine r_n (pc1 := 284) [.long (G b1), rv 437] _ rfl rfl ?_
                  refine r_n (pc1 := 286) [.long (G b18), .long (G b1), rv 437] _ rfl rfl ?_
                  refine r_lor (pc1 := 287) rfl rfl ?_
                  refine r_n (pc1 := 289) [.long (G b2), .long (G (b1 ||| b18)), rv 437] _ rfl rfl ?_
                  refine r_iv rfl rfl rfl rfl rfl rfl t0 (lyk t0 rfl) rfl (xe_of (xa_r (xa_l (xa_l xa_0))) rfl rfl) (r_d0 hd rfl) (ih (b1 ||| b18) b2 (by simp only [List.length_cons]; omega)  w t0 (fun x31 h32 t32 u32 rx31 vx31 w => ?_))
                  refine r_fI (pc1 := 292) rfl ?_
                  have s32 := HX_trans (HX_refl h) u32
                  have w := w t32 u32
                  have w := w rx31 vx31
                  obtain ⟨J35, j35, w⟩ := w
                  have Q35 : ∀ (x33 : Int) (h34 : XH), HT h34 → HX h h34 → rg x33 → J35 x33 h34 → RR sc goal fs 295 314 [some (rv 437), some (.long (G p0)), none, some (.long (G p1)), none, some (.long (G b1)), none, some (.long (G b2)), none, some (.int (J x3)), some (.int (J x4)), some (.long (G b15)), none, some (.long (G b18)), none, d9, d10] [.int (J x33)] h34 := by
                    intro x33 h34 t34 s34 rx33 z35
                    have w := j35 x33 h34 t34 s34 rx33 z35
                    obtain ⟨c36, w⟩ := w
                    exact r_retB rfl rfl rfl c36 (k _ _ t34 s34 rx33 c36 w)
                  obtain ⟨J38, j38, w⟩ := w
                  have Q38 : ∀ (h37 : XH), HT h37 → HX h h37 → J38 h37 → RR sc goal fs 295 309 [some (rv 437), some (.long (G p0)), none, some (.long (G p1)), none, some (.long (G b1)), none, some (.long (G b2)), none, some (.int (J x3)), some (.int (J x4)), some (.long (G b15)), none, some (.long (G b18)), none, d9, d10] [] h37 := by
                    intro h37 t37 s37 z38
                    have w := j38 h37 t37 s37 z38
                    refine r_n (pc1 := 310) [.int (J 1)] _ rfl rfl ?_
                    refine r_goto (t := 314) rfl rfl ?_
                    exact Q35  1 h37 t37 s37 (rgk rfl) w
                  refine r_iz (t := 309) (pc1 := 295) rfl rfl rfl rx31 (fun c42 => ?_) (fun c42 => ?_)
                  · have w := w.1 c42
                    exact Q38   h32 t32 s32  w
                  · have w := w.2 c42
                    refine r_aldn (pc1 := 296) rfl rfl rfl ?_
                    refine r_n (pc1 := 298) [.long (G b1), rv 437] _ rfl rfl ?_
                    refine r_n (pc1 := 300) [.long (G b2), .long (G b1), rv 437] _ rfl rfl ?_
                    refine r_n (pc1 := 302) [.long (G b18), .long (G b2), .long (G b1), rv 437] _ rfl rfl ?_
                    refine r_lor (pc1 := 303) rfl rfl ?_
                    refine r_iv rfl rfl rfl rfl rfl rfl t32 (lyk t32 rfl) rfl (xe_of (xa_r (xa_l (xa_l xa_0))) rfl rfl) (r_d0 hd rfl) (ih b1 (b2 ||| b18) (by simp only [List.length_cons]; omega)  w t32 (fun x39 h40 t40 u40 rx39 vx39 w => ?_))
                    refine r_fI (pc1 := 306) rfl ?_
                    have s40 := HX_trans s32 u40
                    have w := w t40 u40
                    have w := w rx39 vx39
                    refine r_iz (t := 313) (pc1 := 309) rfl rfl rfl rx39 (fun c41 => ?_) (fun c41 => ?_)
                    · have w := w.1 c41
                      refine r_n (pc1 := 314) [.int (J 0)] _ rfl rfl ?_
                      exact Q35  0 h40 t40 s40 (rgk rfl) w
                    · have w := w.2 c41
                      exact Q38   h40 t40 s40  w
              refine r_lc (pc2 := 247) (t := 255) (pc1 := 250) rfl rfl rfl rfl rfl (fun c46 => ?_) (fun c46 => ?_)
              · have w := w.1 c46
                refine r_aldn (pc1 := 256) rfl rfl rfl ?_
                refine r_gfR (pc1 := 259) rfl rfl rfl t0 (lyk t0 rfl) rfl rfl ?_
                refine r_n (pc1 := 261) [.int (J x3), rv (hR h 437 25)] _ rfl rfl ?_
                obtain ⟨c44, w⟩ := w
                obtain ⟨c45, w⟩ := w
                refine r_lal (pc1 := 262) rfl rfl t0 c44 rx3 c45.1 c45.2 ?_
                refine r_n (pc1 := 264) [.long (G b1), .long (G (hL h (hR h 437 25) x3.toNat))] _ rfl rfl ?_
                refine r_n (pc1 := 267) [.long (G (18446744073709551615#64)), .long (G b1), .long (G (hL h (hR h 437 25) x3.toNat))] _ rfl rfl ?_
                refine r_lxor (pc1 := 268) rfl rfl ?_
                refine r_land (pc1 := 269) rfl rfl ?_
                exact Q17  ((hL h (hR h 437 25) x3.toNat) &&& (b1 ^^^ (18446744073709551615#64)))   w
              · have w := w.2 c46
                refine r_n (pc1 := 252) [.long (G b15)] _ rfl rfl ?_
                refine r_goto (t := 269) rfl rfl ?_
                exact Q17  b15   w
            · have w := w.2 c49
              refine r_aldn (pc1 := 214) rfl rfl rfl ?_
              refine r_n (pc1 := 216) [.long (G b1), rv 437] _ rfl rfl ?_
              refine r_pfL (pc1 := 219) rfl rfl rfl t0 (lyk t0 rfl) rfl rfl rfl (fun h47 eh47 t47 u47 => ?_)
              have w := w h47 eh47 t47 u47
              have s47 := HX_trans (HX_refl h) u47
              refine r_aldn (pc1 := 220) rfl rfl rfl ?_
              refine r_n (pc1 := 222) [.long (G b2), rv 437] _ rfl rfl ?_
              refine r_pfL (pc1 := 225) rfl rfl rfl t47 (lyk t47 rfl) rfl rfl rfl (fun h48 eh48 t48 u48 => ?_)
              have w := w h48 eh48 t48 u48
              have s48 := HX_trans s47 u48
              refine r_n (pc1 := 226) [.int (J 1)] _ rfl rfl ?_
              exact r_retB rfl rfl rfl (.inr rfl) (k _ _ t48 s48 (rgk rfl) (.inr rfl) w)
          refine r_ic (t := 207) (pc1 := 190) rfl rfl rfl (rgh _ _ _) (rgk rfl) (fun c52 => ?_) (fun c52 => ?_)
          · have w := w.1 c52
            exact Q12     w
          · have w := w.2 c52
            refine r_aldn (pc1 := 191) rfl rfl rfl ?_
            refine r_n (pc1 := 193) [.long (G b1), rv 437] _ rfl rfl ?_
            refine r_n (pc1 := 195) [.long (G b2), .long (G b1), rv 437] _ rfl rfl ?_
            refine r_iv rfl rfl rfl rfl rfl rfl t0 (lyk t0 rfl) rfl (xe_of (xa_r (xa_l (xa_l xa_0))) rfl rfl) (r_d0 hd rfl) (a_X14_surelyChanged b1 b2 (r_d1 hd rfl)  w t0 (fun x50 rx50 w => ?_))
            refine r_fI (pc1 := 198) rfl ?_
            have w := w rx50
            refine r_aldn (pc1 := 199) rfl rfl rfl ?_
            refine r_gfI (pc1 := 202) rfl rfl rfl t0 (lyk t0 rfl) rfl rfl ?_
            refine r_ic (t := 207) (pc1 := 205) rfl rfl rfl rx50 (rgh _ _ _) (fun c51 => ?_) (fun c51 => ?_)
            · have w := w.1 c51
              exact Q12     w
            · have w := w.2 c51
              refine r_n (pc1 := 206) [.int (J 0)] _ rfl rfl ?_
              exact r_retB rfl rfl rfl (.inl rfl) (k _ _ t0 (HX_refl h) (rgk rfl) (.inl rfl) w)
        · have w := w.2 c97
          refine r_n (pc1 := 18) [.int (J 0)] _ rfl rfl ?_
          refine r_ist (pc1 := 20) (ls1 := [some (rv 437), some (.long (G p0)), none, some (.long (G p1)), none, some (.long (G b1)), none, some (.long (G b2)), none, some (.int (J x3)), some (.int (J 0)), d5, d6, d7, d8, d9, d10]) rfl rfl rfl rfl ?_
          refine r_n (pc1 := 21) [.int (J (-1))] _ rfl rfl ?_
          refine r_ist (pc1 := 23) (ls1 := [some (rv 437), some (.long (G p0)), none, some (.long (G p1)), none, some (.long (G b1)), none, some (.long (G b2)), none, some (.int (J (-1))), some (.int (J 0)), d5, d6, d7, d8, d9, d10]) rfl rfl rfl rfl ?_
          refine r_n (pc1 := 24) [.int (J 0)] _ rfl rfl ?_
          refine r_ist (pc1 := 26) (ls1 := [some (rv 437), some (.long (G p0)), none, some (.long (G p1)), none, some (.long (G b1)), none, some (.long (G b2)), none, some (.int (J (-1))), some (.int (J 0)), some (.int (J 0)), d6, d7, d8, d9, d10]) rfl rfl rfl rfl ?_
          obtain ⟨I63, m63, w, y63⟩ := w
          have Q63 : ∀ (n : Nat) (d58 : Option Value) (d59 : Option Value) (d60 : Option Value) (d61 : Option Value) (d62 : Option Value) (b53 : BitVec 64) (b54 : BitVec 64) (x55 : Int) (x56 : Int) (x57 : Int), rg x55 → rg x56 → rg x57 → m63 b53 b54 x55 x56 x57 < n → I63 b53 b54 x55 x56 x57 → RR sc goal fs 295 26 [some (rv 437), some (.long (G p0)), none, some (.long (G p1)), none, some (.long (G b53)), none, some (.long (G b54)), none, some (.int (J x55)), some (.int (J x56)), some (.int (J x57)), d58, d59, d60, d61, d62] [] h := by
            intro n
            induction n with
            | zero => intro d58 d59 d60 d61 d62 b53 b54 x55 x56 x57 rx55 rx56 rx57 q63 _; exact absurd q63 (Nat.not_lt_zero _)
            | succ n ih63 =>
              intro d58 d59 d60 d61 d62 b53 b54 x55 x56 x57 rx55 rx56 rx57 q63 z63
              have w := y63 b53 b54 x55 x56 x57 rx55 rx56 rx57 z63
              refine r_n (pc1 := 28) [.int (J x57)] _ rfl rfl ?_
              refine r_aldn (pc1 := 29) rfl rfl rfl ?_
              refine r_gfI (pc1 := 32) rfl rfl rfl t0 (lyk t0 rfl) rfl rfl ?_
              refine r_ic (t := 179) (pc1 := 35) rfl rfl rfl rx57 (rgh _ _ _) (fun c96 => ?_) (fun c96 => ?_)
              · have w := w.1 c96
                refine r_goto (t := 12) rfl rfl ?_
                exact ih11 _ _ _ _ _ _ b53 b54 x55 x56  rx55 rx56 (Nat.lt_of_lt_of_le w.2 (Nat.le_of_lt_succ q11)) w.1
              · have w := w.2 c96
                refine r_aldn (pc1 := 36) rfl rfl rfl ?_
                refine r_gfI (pc1 := 39) rfl rfl rfl t0 (lyk t0 rfl) rfl rfl ?_
                obtain ⟨J73, j73, w⟩ := w
                have Q73 : ∀ (d68 : Option Value) (d69 : Option Value) (d70 : Option Value) (d71 : Option Value) (d72 : Option Value) (b64 : BitVec 64) (b65 : BitVec 64) (x66 : Int) (x67 : Int), rg x66 → rg x67 → J73 b64 b65 x66 x67 → RR sc goal fs 295 173 [some (rv 437), some (.long (G p0)), none, some (.long (G p1)), none, some (.long (G b64)), none, some (.long (G b65)), none, some (.int (J x66)), some (.int (J x67)), some (.int (J x57)), d68, d69, d70, d71, d72] [] h := by
                  intro d68 d69 d70 d71 d72 b64 b65 x66 x67 rx66 rx67 z73
                  have w := j73 b64 b65 x66 x67 rx66 rx67 z73
                  refine r_inc (pc1 := 176) (g := fun zz => [some (rv 437), some (.long (G p0)), none, some (.long (G p1)), none, some (.long (G b64)), none, some (.long (G b65)), none, some (.int (J x66)), some (.int (J x67)), some (.int (J zz)), d68, d69, d70, d71, d72]) rfl rfl rfl rfl (fun _ => rfl) (fun x74 ex74 rx74 => ?_)
                  have w := w x74 ex74 rx74
                  refine r_goto (t := 26) rfl rfl ?_
                  exact ih63 _ _ _ _ _ b64 b65 x66 x67 x74  rx66 rx67 rx74 (Nat.lt_of_lt_of_le w.2 (Nat.le_of_lt_succ q63)) w.1
                obtain ⟨J75, j75, w⟩ := w
                have Q75 : J75 → RR sc goal fs 295 52 [some (rv 437), some (.long (G p0)), none, some (.long (G p1)), none, some (.long (G b53)), none, some (.long (G b54)), none, some (.int (J x55)), some (.int (J x56)), some (.int (J x57)), d58, d59, d60, d61, d62] [] h := by
                  intro z75
                  have w := j75 z75
                  refine r_aldn (pc1 := 53) rfl rfl rfl ?_
                  refine r_gfR (pc1 := 56) rfl rfl rfl t0 (lyk t0 rfl) rfl rfl ?_
                  refine r_n (pc1 := 58) [.int (J x57), rv (hR h 437 24)] _ rfl rfl ?_
                  obtain ⟨c76, w⟩ := w
                  obtain ⟨c77, w⟩ := w
                  refine r_lal (pc1 := 59) rfl rfl t0 c76 rx57 c77.1 c77.2 ?_
                  refine r_n (pc1 := 61) [.long (G b53), .long (G (hL h (hR h 437 24) x57.toNat))] _ rfl rfl ?_
                  refine r_land (pc1 := 62) rfl rfl ?_
                  refine r_n (pc1 := 63) [.long (G (0#64)), .long (G ((hL h (hR h 437 24) x57.toNat) &&& b53))] _ rfl rfl ?_
                  refine r_lc (pc2 := 64) (t := 173) (pc1 := 67) rfl rfl rfl rfl rfl (fun c91 => ?_) (fun c91 => ?_)
                  · have w := w.1 c91
                    exact Q73 _ _ _ _ _ b53 b54 x55 x56  rx55 rx56 w
                  · have w := w.2 c91
                    refine r_aldn (pc1 := 68) rfl rfl rfl ?_
                    refine r_gfR (pc1 := 71) rfl rfl rfl t0 (lyk t0 rfl) rfl rfl ?_
                    refine r_n (pc1 := 73) [.int (J x57), rv (hR h 437 25)] _ rfl rfl ?_
                    obtain ⟨c78, w⟩ := w
                    obtain ⟨c79, w⟩ := w
                    refine r_lal (pc1 := 74) rfl rfl t0 c78 rx57 c79.1 c79.2 ?_
                    refine r_n (pc1 := 76) [.long (G b54), .long (G (hL h (hR h 437 25) x57.toNat))] _ rfl rfl ?_
                    refine r_land (pc1 := 77) rfl rfl ?_
                    refine r_n (pc1 := 78) [.long (G (0#64)), .long (G ((hL h (hR h 437 25) x57.toNat) &&& b54))] _ rfl rfl ?_
                    refine r_lc (pc2 := 79) (t := 85) (pc1 := 82) rfl rfl rfl rfl rfl (fun c90 => ?_) (fun c90 => ?_)
                    · have w := w.1 c90
                      refine r_aldn (pc1 := 86) rfl rfl rfl ?_
                      refine r_gfR (pc1 := 89) rfl rfl rfl t0 (lyk t0 rfl) rfl rfl ?_
                      refine r_n (pc1 := 91) [.int (J x57), rv (hR h 437 24)] _ rfl rfl ?_
                      refine r_lal (pc1 := 92) rfl rfl t0 c76 rx57 c77.1 c77.2 ?_
                      refine r_n (pc1 := 94) [.long (G b54), .long (G (hL h (hR h 437 24) x57.toNat))] _ rfl rfl ?_
                      refine r_n (pc1 := 97) [.long (G (18446744073709551615#64)), .long (G b54), .long (G (hL h (hR h 437 24) x57.toNat))] _ rfl rfl ?_
                      refine r_lxor (pc1 := 98) rfl rfl ?_
                      refine r_land (pc1 := 99) rfl rfl ?_
                      refine r_vL (fun b80 eb80 => ?_)
                      have w := w b80 eb80
                      refine r_lst (pc1 := 101) (ls1 := [some (rv 437), some (.long (G p0)), none, some (.long (G p1)), none, some (.long (G b53)), none, some (.long (G b54)), none, some (.int (J x55)), some (.int (J x56)), some (.int (J x57)), some (.long (G b80)), none, d60, d61, d62]) rfl rfl rfl rfl ?_
                      refine r_aldn (pc1 := 102) rfl rfl rfl ?_
                      refine r_gfR (pc1 := 105) rfl rfl rfl t0 (lyk t0 rfl) rfl rfl ?_
                      refine r_n (pc1 := 107) [.int (J x57), rv (hR h 437 25)] _ rfl rfl ?_
                      refine r_lal (pc1 := 108) rfl rfl t0 c78 rx57 c79.1 c79.2 ?_
                      refine r_n (pc1 := 110) [.long (G b53), .long (G (hL h (hR h 437 25) x57.toNat))] _ rfl rfl ?_
                      refine r_n (pc1 := 113) [.long (G (18446744073709551615#64)), .long (G b53), .long (G (hL h (hR h 437 25) x57.toNat))] _ rfl rfl ?_
                      refine r_lxor (pc1 := 114) rfl rfl ?_
                      refine r_land (pc1 := 115) rfl rfl ?_
                      refine r_vL (fun b81 eb81 => ?_)
                      have w := w b81 eb81
                      refine r_lst (pc1 := 117) (ls1 := [some (rv 437), some (.long (G p0)), none, some (.long (G p1)), none, some (.long (G b53)), none, some (.long (G b54)), none, some (.int (J x55)), some (.int (J x56)), some (.int (J x57)), some (.long (G b80)), none, some (.long (G b81)), none, d62]) rfl rfl rfl rfl ?_
                      refine r_n (pc1 := 119) [.long (G b80)] _ rfl rfl ?_
                      refine r_iq rfl rfl rfl rfl rfl rfl (xe_of (xa_l xa_0) rfl rfl) (r_d0 hd rfl) (a_J13_bitCount_95d88 b80 (r_d1 hd rfl)  w t0 (fun x82 rx82 w => ?_))
                      refine r_fI (pc1 := 122) rfl ?_
                      have w := w rx82
                      refine r_n (pc1 := 124) [.long (G b81), .int (J x82)] _ rfl rfl ?_
                      refine r_iq rfl rfl rfl rfl rfl rfl (xe_of (xa_l xa_0) rfl rfl) (r_d0 hd rfl) (a_J13_bitCount_95d88 b81 (r_d1 hd rfl)  w t0 (fun x83 rx83 w => ?_))
                      refine r_fI (pc1 := 127) rfl ?_
                      have w := w rx83
                      refine r_iadd (pc1 := 128) rfl rfl ?_
                      refine r_vI (rgw _) (fun x84 ex84 rx84 => ?_)
                      have w := w x84 ex84 rx84
                      refine r_ist (pc1 := 130) (ls1 := [some (rv 437), some (.long (G p0)), none, some (.long (G p1)), none, some (.long (G b53)), none, some (.long (G b54)), none, some (.int (J x55)), some (.int (J x56)), some (.int (J x57)), some (.long (G b80)), none, some (.long (G b81)), none, some (.int (J x84))]) rfl rfl rfl rfl ?_
                      refine r_n (pc1 := 132) [.int (J x84)] _ rfl rfl ?_
                      refine r_iz (t := 137) (pc1 := 135) rfl rfl rfl rx84 (fun c89 => ?_) (fun c89 => ?_)
                      · have w := w.1 c89
                        refine r_n (pc1 := 139) [.int (J x84)] _ rfl rfl ?_
                        refine r_n (pc1 := 140) [.int (J 1), .int (J x84)] _ rfl rfl ?_
                        refine r_ic (t := 163) (pc1 := 143) rfl rfl rfl rx84 (rgk rfl) (fun c88 => ?_) (fun c88 => ?_)
                        · have w := w.1 c88
                          refine r_n (pc1 := 165) [.int (J x55)] _ rfl rfl ?_
                          refine r_n (pc1 := 166) [.int (J (-1)), .int (J x55)] _ rfl rfl ?_
                          refine r_ic (t := 173) (pc1 := 169) rfl rfl rfl rx55 (rgk rfl) (fun c85 => ?_) (fun c85 => ?_)
                          · have w := w.1 c85
                            exact Q73 _ _ _ _ _ b53 b54 x55 x56  rx55 rx56 w
                          · have w := w.2 c85
                            refine r_n (pc1 := 171) [.int (J x57)] _ rfl rfl ?_
                            refine r_ist (pc1 := 173) (ls1 := [some (rv 437), some (.long (G p0)), none, some (.long (G p1)), none, some (.long (G b53)), none, some (.long (G b54)), none, some (.int (J x57)), some (.int (J x56)), some (.int (J x57)), some (.long (G b80)), none, some (.long (G b81)), none, some (.int (J x84))]) rfl rfl rfl rfl ?_
                            exact Q73 _ _ _ _ _ b53 b54 x57 x56  rx57 rx56 w
                        · have w := w.2 c88
                          refine r_n (pc1 := 145) [.long (G b53)] _ rfl rfl ?_
                          refine r_n (pc1 := 147) [.long (G b80), .long (G b53)] _ rfl rfl ?_
                          refine r_lor (pc1 := 148) rfl rfl ?_
                          refine r_vL (fun b86 eb86 => ?_)
                          have w := w b86 eb86
                          refine r_lst (pc1 := 150) (ls1 := [some (rv 437), some (.long (G p0)), none, some (.long (G p1)), none, some (.long (G b86)), none, some (.long (G b54)), none, some (.int (J x55)), some (.int (J x56)), some (.int (J x57)), some (.long (G b80)), none, some (.long (G b81)), none, some (.int (J x84))]) rfl rfl rfl rfl ?_
                          refine r_n (pc1 := 152) [.long (G b54)] _ rfl rfl ?_
                          refine r_n (pc1 := 154) [.long (G b81), .long (G b54)] _ rfl rfl ?_
                          refine r_lor (pc1 := 155) rfl rfl ?_
                          refine r_vL (fun b87 eb87 => ?_)
                          have w := w b87 eb87
                          refine r_lst (pc1 := 157) (ls1 := [some (rv 437), some (.long (G p0)), none, some (.long (G p1)), none, some (.long (G b86)), none, some (.long (G b87)), none, some (.int (J x55)), some (.int (J x56)), some (.int (J x57)), some (.long (G b80)), none, some (.long (G b81)), none, some (.int (J x84))]) rfl rfl rfl rfl ?_
                          refine r_n (pc1 := 158) [.int (J 1)] _ rfl rfl ?_
                          refine r_ist (pc1 := 160) (ls1 := [some (rv 437), some (.long (G p0)), none, some (.long (G p1)), none, some (.long (G b86)), none, some (.long (G b87)), none, some (.int (J x55)), some (.int (J 1)), some (.int (J x57)), some (.long (G b80)), none, some (.long (G b81)), none, some (.int (J x84))]) rfl rfl rfl rfl ?_
                          refine r_goto (t := 173) rfl rfl ?_
                          exact Q73 _ _ _ _ _ b86 b87 x55 1  rx55 (rgk rfl) w
                      · have w := w.2 c89
                        refine r_n (pc1 := 136) [.int (J 0)] _ rfl rfl ?_
                        exact r_retB rfl rfl rfl (.inl rfl) (k _ _ t0 (HX_refl h) (rgk rfl) (.inl rfl) w)
                    · have w := w.2 c90
                      refine r_goto (t := 173) rfl rfl ?_
                      exact Q73 _ _ _ _ _ b53 b54 x55 x56  rx55 rx56 w
                refine r_iz (t := 52) (pc1 := 42) rfl rfl rfl (rgh _ _ _) (fun c95 => ?_) (fun c95 => ?_)
                · have w := w.1 c95
                  exact Q75     w
                · have w := w.2 c95
                  refine r_aldn (pc1 := 43) rfl rfl rfl ?_
                  refine r_gfR (pc1 := 46) rfl rfl rfl t0 (lyk t0 rfl) rfl rfl ?_
                  refine r_n (pc1 := 48) [.int (J x57), rv (hR h 437 31)] _ rfl rfl ?_
                  obtain ⟨c92, w⟩ := w
                  obtain ⟨c93, w⟩ := w
                  refine r_bal (pc1 := 49) rfl rfl t0 c92 rx57 c93.1 c93.2 ?_
                  refine r_iz (t := 173) (pc1 := 52) rfl rfl rfl (rgh _ _ _) (fun c94 => ?_) (fun c94 => ?_)
                  · have w := w.1 c94
                    exact Q73 _ _ _ _ _ b53 b54 x55 x56  rx55 rx56 w
                  · have w := w.2 c94
                    exact Q75     w
          exact Q63 _ _ _ _ _ _ b1 b2 (-1) 0 0  (rgk rfl) (rgk rfl) (rgk rfl) (Nat.lt_succ_self _) w
    exact Q11 _ _ _ _ _ _ _ p0 p1 (-1) 1  (rgk rfl) (rgk rfl) (Nat.lt_succ_self _) w
theorem a_X14_search {sc : Nat × (Nat → Int32)} {goal : XO → XH → Prop} {fs : List XF} {h : XH} (p0 : BitVec 64) (p1 : BitVec 64) {K : Int → XH → Prop} (hd : fs.length + 74 ≤ 1000)  (w : w_X14_search p0 p1 K h) (t0 : HT h) (k : ∀ (r : Int) (h1 : XH), HT h1 → HX h h1 → rg r → (r = 0 ∨ r = 1) → K r h1 → XFin xP sc goal fs (.inl (some (.int (J r)))) h1) : RR sc goal fs 295 0 [some (rv 437), some (.long (G p0)), none, some (.long (G p1)), none, none, none, none, none, none, none, none, none, none, none, none, none] [] h := an_X14_search 70 p0 p1 (by omega) w t0 k
def w_X14_canHold (p0 : BitVec 64) (p1 : BitVec 64) (K : Int → XH → Prop) (h : XH) : Prop :=
  (∀ h1 : XH, h1 = sI h 437 32 1 → HT h1 → HX h h1 → w_X14_search p0 p1 (fun x2 h3 => HT h3 → HX h1 h3 → rg x2 → (x2 = 0 ∨ x2 = 1) → (K x2 h3)) h1)
set_option maxHeartbeats 4000000 in
theorem a_X14_canHold {sc : Nat × (Nat → Int32)} {goal : XO → XH → Prop} {fs : List XF} {h : XH} (p0 : BitVec 64) (p1 : BitVec 64) {K : Int → XH → Prop} (hd : fs.length + 75 ≤ 1000) (w : w_X14_canHold p0 p1 K h) (t0 : HT h) (k : ∀ (r : Int) (h1 : XH), HT h1 → HX h h1 → rg r → (r = 0 ∨ r = 1) → K r h1 → XFin xP sc goal fs (.inl (some (.int (J r)))) h1) : RR sc goal fs 179 0 [some (rv 437), some (.long (G p0)), none, some (.long (G p1)), none] [] h := by
  unfold w_X14_canHold at w
  refine r_aldn (pc1 := 1) rfl rfl rfl ?_
  refine r_n (pc1 := 2) [.int (J 1), rv 437] _ rfl rfl ?_
  refine r_pfB (pc1 := 5) rfl rfl rfl t0 (lyk t0 rfl) rfl rfl rfl (.inr rfl) (fun h1 eh1 t1 u1 => ?_)
  have w := w h1 eh1 t1 u1
  have s1 := HX_trans (HX_refl h) u1
  refine r_aldn (pc1 := 6) rfl rfl rfl ?_
  refine r_n (pc1 := 7) [.long (G p0), rv 437] _ rfl rfl ?_
  refine r_n (pc1 := 8) [.long (G p1), .long (G p0), rv 437] _ rfl rfl ?_
  refine r_iv rfl rfl rfl rfl rfl rfl t1 (lyk t1 rfl) rfl (xe_of (xa_r (xa_l (xa_l xa_0))) rfl rfl) (r_d0 hd rfl) (a_X14_search p0 p1 (r_d1 hd rfl)  w t1 (fun x2 h3 t3 u3 rx2 vx2 w => ?_))
  refine r_fI (pc1 := 11) rfl ?_
  have s3 := HX_trans s1 u3
  have w := w t3 u3
  have w := w rx2 vx2
  exact r_retB rfl rfl rfl vx2 (k _ _ t3 s3 rx2 vx2 w)
def w_X14_fitsAny  (K : Int → XH → Prop) (h : XH) : Prop :=
  (w_X14_tellClauses (fun h1 => HT h1 → HX h h1 → (∀ h2 : XH, h2 = sI h1 437 33 (-1) → HT h2 → HX h1 h2 → w_X14_canHold (0#64) (0#64) (fun x3 h4 => HT h4 → HX h2 h4 → rg x3 → (x3 = 0 ∨ x3 = 1) → (K x3 h4)) h2)) h)
set_option maxHeartbeats 4000000 in
theorem a_X14_fitsAny {sc : Nat × (Nat → Int32)} {goal : XO → XH → Prop} {fs : List XF} {h : XH}  {K : Int → XH → Prop} (hd : fs.length + 76 ≤ 1000) (w : w_X14_fitsAny  K h) (t0 : HT h) (k : ∀ (r : Int) (h1 : XH), HT h1 → HX h h1 → rg r → (r = 0 ∨ r = 1) → K r h1 → XFin xP sc goal fs (.inl (some (.int (J r)))) h1) : RR sc goal fs 206 0 [some (rv 437)] [] h := by
  unfold w_X14_fitsAny at w
  refine r_aldn (pc1 := 1) rfl rfl rfl ?_
  refine r_iv rfl rfl rfl rfl rfl rfl t0 (lyk t0 rfl) rfl (xe_of (xa_r xa_0) rfl rfl) (r_d0 hd rfl) (a_X14_tellClauses  (r_d1 hd rfl)  w t0 (fun h1 t1 u1 w => ?_))
  refine r_fV (pc1 := 4) rfl ?_
  have s1 := HX_trans (HX_refl h) u1
  have w := w t1 u1
  refine r_aldn (pc1 := 5) rfl rfl rfl ?_
  refine r_n (pc1 := 6) [.int (J (-1)), rv 437] _ rfl rfl ?_
  refine r_pfI (pc1 := 9) rfl rfl rfl t1 (lyk t1 rfl) rfl rfl rfl (fun h2 eh2 t2 u2 => ?_)
  have w := w h2 eh2 t2 u2
  have s2 := HX_trans s1 u2
  refine r_aldn (pc1 := 10) rfl rfl rfl ?_
  refine r_n (pc1 := 11) [.long (G (0#64)), rv 437] _ rfl rfl ?_
  refine r_n (pc1 := 12) [.long (G (0#64)), .long (G (0#64)), rv 437] _ rfl rfl ?_
  refine r_iv rfl rfl rfl rfl rfl rfl t2 (lyk t2 rfl) rfl (xe_of (xa_r (xa_l (xa_l xa_0))) rfl rfl) (r_d0 hd rfl) (a_X14_canHold (0#64) (0#64) (r_d1 hd rfl)  w t2 (fun x3 h4 t4 u4 rx3 vx3 w => ?_))
  refine r_fI (pc1 := 15) rfl ?_
  have s4 := HX_trans s2 u4
  have w := w t4 u4
  have w := w rx3 vx3
  exact r_retB rfl rfl rfl vx3 (k _ _ t4 s4 rx3 vx3 w)
def w_X14_order  (K : Nat → XH → Prop) (h : XH) : Prop :=
  (((¬ hI h 437 38 = hI h 437 4 → ((0 ≤ hI h 438 0 ∧ hI h 438 0 < 67108864) ∧ ∀ (a2 : Nat) (h3 : XH), a2 = h.length → h3 = nA h 0 (hI h 438 0).toNat → HT h3 → HX h h3 → hk h3 a2 = 100 → hn h3 a2 = (hI h 438 0).toNat → (∃ (I10 : Int → Int → Int → XH → Prop) (m10 : Int → Int → Int → XH → Nat), I10 0 0 0 h3 ∧ ∀ (x4 : Int) (x5 : Int) (x6 : Int) (h9 : XH), HT h9 → HX h h9 → rg x4 → rg x5 → rg x6 → I10 x4 x5 x6 h9 → (w_X14_rootAt 0 (fun x11 => rg x11 → (((x11 ≤ x6 → (∀ h12 : XH, h12 = sI h9 437 37 x5 → HT h12 → HX h9 h12 → (∃ (I16 : Int → Int → XH → Prop) (m16 : Int → Int → XH → Nat), I16 x4 0 h12 ∧ ∀ (x13 : Int) (x14 : Int) (h15 : XH), HT h15 → HX h h15 → rg x13 → rg x14 → I16 x13 x14 h15 → (((hI h15 438 0 ≤ x14 → (∀ h17 : XH, h17 = sI h15 437 38 (hI h15 437 4) → HT h17 → HX h15 h17 → ∀ h18 : XH, h18 = sR h17 437 39 a2 → HT h18 → HX h17 h18 → K a2 h18)) ∧ (¬ (hI h15 438 0 ≤ x14) → (∃ J21 : Int → XH → Prop, (∀ (x19 : Int) (h20 : XH), HT h20 → HX h h20 → rg x19 → J21 x19 h20 → (∀ x22 : Int, x22 = wr (x14 + 1) → rg x22 → (I16 x19 x22 h20 ∧ m16 x19 x22 h20 < m16 x13 x14 h15))) ∧ ((¬ iand (ishr x5 x14) 1 = 0 → J21 x13 h15) ∧ (¬ (¬ iand (ishr x5 x14) 1 = 0) → (hk h15 a2 = 100 ∧ (0 ≤ x13 ∧ x13 < (hn h15 a2 : Int)) ∧ ∀ h25 : XH, h25 = sI h15 a2 x13.toNat x14 → HT h25 → HX h15 h25 → ∀ x26 : Int, x26 = wr (x13 + 1) → rg x26 → J21 x26 h25)))))))))) ∧ (¬ (x11 ≤ x6) → ((∃ (I34 : Int → Int → Int → XH → Prop) (m34 : Int → Int → Int → XH → Nat), I34 x4 x5 0 h9 ∧ ∀ (x29 : Int) (x30 : Int) (x31 : Int) (h33 : XH), HT h33 → HX h h33 → rg x29 → rg x30 → rg x31 → I34 x29 x30 x31 h33 → (w_X14_wishAt x6 (fun a35 => (∃ J36 : Prop, (J36 → (∀ x37 : Int, x37 = wr (x6 + 1) → rg x37 → (I10 x29 x30 x37 h33 ∧ m10 x29 x30 x37 h33 < m10 x4 x5 x6 h9))) ∧ ((a35 = 0 → J36) ∧ (¬ (a35 = 0) → (w_X14_wishAt x6 (fun a38 => (hk h33 a38 = 14 ∧ hk h33 (hR h33 a38 1) = 100 ∧ (hn h33 (hR h33 a38 1) : Int) < 2147483648 ∧ (((hn h33 (hR h33 a38 1) : Int) ≤ x31 → J36) ∧ (¬ ((hn h33 (hR h33 a38 1) : Int) ≤ x31) → (w_X14_wishAt x6 (fun a42 => (hk h33 a42 = 14 ∧ hk h33 (hR h33 a42 1) = 100 ∧ (0 ≤ x31 ∧ x31 < (hn h33 (hR h33 a42 1) : Int)) ∧ ∀ x46 : Int, x46 = hI h33 (hR h33 a42 1) x31.toNat → rg x46 → ∃ J50 : Int → Int → XH → Prop, (∀ (x47 : Int) (x48 : Int) (h49 : XH), HT h49 → HX h h49 → rg x47 → rg x48 → J50 x47 x48 h49 → (∀ x51 : Int, x51 = wr (x31 + 1) → rg x51 → (I34 x47 x48 x51 h49 ∧ m34 x47 x48 x51 h49 < m34 x29 x30 x31 h33))) ∧ ((¬ iand (ishr x30 x46) 1 = 0 → J50 x29 x30 h33) ∧ (¬ (¬ iand (ishr x30 x46) 1 = 0) → (∀ x52 : Int, x52 = ior x30 (ishl 1 x46) → rg x52 → hk h33 a2 = 100 ∧ (0 ≤ x29 ∧ x29 < (hn h33 a2 : Int)) ∧ ∀ h55 : XH, h55 = sI h33 a2 x29.toNat x46 → HT h55 → HX h33 h55 → ∀ x56 : Int, x56 = wr (x29 + 1) → rg x56 → J50 x56 x52 h55))))) h33))))) h33))))) h33))))))) h9)))) ∧ (¬ (¬ hI h 437 38 = hI h 437 4) → (K (hR h 437 39) h))))
set_option maxHeartbeats 4000000 in
theorem a_X14_order {sc : Nat × (Nat → Int32)} {goal : XO → XH → Prop} {fs : List XF} {h : XH}  {K : Nat → XH → Prop} (hd : fs.length + 2 ≤ 1000) (w : w_X14_order  K h) (t0 : HT h) (k : ∀ (r : Nat) (h1 : XH), HT h1 → HX h h1 → K r h1 → XFin xP sc goal fs (.inl (some (rv r))) h1) : RR sc goal fs 265 0 [some (rv 437), none, none, none, none, none, none] [] h := by
  unfold w_X14_order at w
  refine r_aldn (pc1 := 1) rfl rfl rfl ?_
  refine r_gfI (pc1 := 4) rfl rfl rfl t0 (lyk t0 rfl) rfl rfl ?_
  refine r_aldn (pc1 := 5) rfl rfl rfl ?_
  refine r_gfI (pc1 := 8) rfl rfl rfl t0 (lyk t0 rfl) rfl rfl ?_
  refine r_ic (t := 16) (pc1 := 11) rfl rfl rfl (rgh _ _ _) (rgh _ _ _) (fun c61 => ?_) (fun c61 => ?_)
  · have w := w.1 c61
    refine r_aldn (pc1 := 17) rfl rfl rfl ?_
    refine r_gfC (pc1 := 20) (q := 438) rfl rfl rfl t0 (lyk t0 rfl) rfl rfl (lyR t0 rfl rfl) ?_
    refine r_n (pc1 := 21) [.int (J 0), rv 438] _ rfl rfl ?_
    refine r_ial (pc1 := 22) rfl rfl t0 (lyk t0 rfl) (rgk rfl) (by decide) (lt_len (lyn t0 rfl) (by decide)) ?_
    obtain ⟨c1, w⟩ := w
    refine r_na (pc1 := 24) (u := 0) (m := 2) rfl rfl rfl t0 rfl (rgh _ _ _) c1.1 c1.2 (fun a2 h3 ea2 eh3 t3 u3 ca2 la2 => ?_)
    have w := w a2 h3 ea2 eh3 t3 u3 ca2 la2
    have s3 := HX_trans (HX_refl h) u3
    refine r_astn (pc1 := 25) (ls1 := [some (rv 437), some (rv a2), none, none, none, none, none]) rfl rfl rfl rfl ?_
    refine r_n (pc1 := 26) [.int (J 0)] _ rfl rfl ?_
    refine r_istn (pc1 := 27) (ls1 := [some (rv 437), some (rv a2), some (.int (J 0)), none, none, none, none]) rfl rfl rfl (xput1_rv rfl rfl) ?_
    refine r_n (pc1 := 28) [.int (J 0)] _ rfl rfl ?_
    refine r_istn (pc1 := 29) (ls1 := [some (rv 437), some (rv a2), some (.int (J 0)), some (.int (J 0)), none, none, none]) rfl rfl rfl rfl ?_
    refine r_n (pc1 := 30) [.int (J 0)] _ rfl rfl ?_
    refine r_ist (pc1 := 32) (ls1 := [some (rv 437), some (rv a2), some (.int (J 0)), some (.int (J 0)), some (.int (J 0)), none, none]) rfl rfl rfl rfl ?_
    obtain ⟨I10, m10, w, y10⟩ := w
    have Q10 : ∀ (n : Nat) (d7 : Option Value) (d8 : Option Value) (x4 : Int) (x5 : Int) (x6 : Int) (h9 : XH), HT h9 → HX h h9 → rg x4 → rg x5 → rg x6 → m10 x4 x5 x6 h9 < n → I10 x4 x5 x6 h9 → RR sc goal fs 265 32 [some (rv 437), some (rv a2), some (.int (J x4)), some (.int (J x5)), some (.int (J x6)), d7, d8] [] h9 := by
      intro n
      induction n with
      | zero => intro d7 d8 x4 x5 x6 h9 t9 s9 rx4 rx5 rx6 q10 _; exact absurd q10 (Nat.not_lt_zero _)
      | succ n ih10 =>
        intro d7 d8 x4 x5 x6 h9 t9 s9 rx4 rx5 rx6 q10 z10
        have w := y10 x4 x5 x6 h9 t9 s9 rx4 rx5 rx6 z10
        refine r_n (pc1 := 34) [.int (J x6)] _ rfl rfl ?_
        refine r_aldn (pc1 := 35) rfl rfl rfl ?_
        refine r_n (pc1 := 36) [.int (J 0), rv 437, .int (J x6)] _ rfl rfl ?_
        refine r_iv rfl rfl rfl rfl rfl rfl t9 (lyk t9 rfl) rfl (xe_of (xa_r (xa_i xa_0)) rfl rfl) (r_d0 hd rfl) (a_X14_rootAt 0 (r_d1 hd rfl) (rgk rfl) w t9 (fun x11 rx11 w => ?_))
        refine r_fI (pc1 := 39) rfl ?_
        have w := w rx11
        refine r_ic (t := 119) (pc1 := 42) rfl rfl rfl rx6 rx11 (fun c60 => ?_) (fun c60 => ?_)
        · have w := w.1 c60
          refine r_aldn (pc1 := 120) rfl rfl rfl ?_
          refine r_n (pc1 := 121) [.int (J x5), rv 437] _ rfl rfl ?_
          refine r_pfI (pc1 := 124) rfl rfl rfl t9 (lyk t9 rfl) rfl rfl rfl (fun h12 eh12 t12 u12 => ?_)
          have w := w h12 eh12 t12 u12
          have s12 := HX_trans s9 u12
          refine r_n (pc1 := 125) [.int (J 0)] _ rfl rfl ?_
          refine r_ist (pc1 := 127) (ls1 := [some (rv 437), some (rv a2), some (.int (J x4)), some (.int (J x5)), some (.int (J 0)), d7, d8]) rfl rfl rfl rfl ?_
          obtain ⟨I16, m16, w, y16⟩ := w
          have Q16 : ∀ (n : Nat)  (x13 : Int) (x14 : Int) (h15 : XH), HT h15 → HX h h15 → rg x13 → rg x14 → m16 x13 x14 h15 < n → I16 x13 x14 h15 → RR sc goal fs 265 127 [some (rv 437), some (rv a2), some (.int (J x13)), some (.int (J x5)), some (.int (J x14)), d7, d8] [] h15 := by
            intro n
            induction n with
            | zero => intro x13 x14 h15 t15 s15 rx13 rx14 q16 _; exact absurd q16 (Nat.not_lt_zero _)
            | succ n ih16 =>
              intro x13 x14 h15 t15 s15 rx13 rx14 q16 z16
              have w := y16 x13 x14 h15 t15 s15 rx13 rx14 z16
              refine r_n (pc1 := 129) [.int (J x14)] _ rfl rfl ?_
              refine r_aldn (pc1 := 130) rfl rfl rfl ?_
              refine r_gfC (pc1 := 133) (q := 438) rfl rfl rfl t15 (lyk t15 rfl) rfl rfl (lyR t15 rfl rfl) ?_
              refine r_n (pc1 := 134) [.int (J 0), rv 438, .int (J x14)] _ rfl rfl ?_
              refine r_ial (pc1 := 135) rfl rfl t15 (lyk t15 rfl) (rgk rfl) (by decide) (lt_len (lyn t15 rfl) (by decide)) ?_
              refine r_ic (t := 161) (pc1 := 138) rfl rfl rfl rx14 (rgh _ _ _) (fun c28 => ?_) (fun c28 => ?_)
              · have w := w.1 c28
                refine r_aldn (pc1 := 162) rfl rfl rfl ?_
                refine r_aldn (pc1 := 163) rfl rfl rfl ?_
                refine r_gfI (pc1 := 166) rfl rfl rfl t15 (lyk t15 rfl) rfl rfl ?_
                refine r_pfI (pc1 := 169) rfl rfl rfl t15 (lyk t15 rfl) rfl rfl rfl (fun h17 eh17 t17 u17 => ?_)
                have w := w h17 eh17 t17 u17
                have s17 := HX_trans s15 u17
                refine r_aldn (pc1 := 170) rfl rfl rfl ?_
                refine r_aldn (pc1 := 171) rfl rfl rfl ?_
                refine r_pfA (pc1 := 174) rfl rfl rfl t17 (lyk t17 rfl) rfl rfl rfl (fun h18 eh18 t18 u18 => ?_)
                have w := w h18 eh18 t18 u18
                have s18 := HX_trans s17 u18
                refine r_aldn (pc1 := 175) rfl rfl rfl ?_
                exact r_retR rfl rfl rfl xok_A xokr_A (k _ _ t18 s18 w)
              · have w := w.2 c28
                refine r_n (pc1 := 139) [.int (J x5)] _ rfl rfl ?_
                refine r_n (pc1 := 141) [.int (J x14), .int (J x5)] _ rfl rfl ?_
                refine r_ishr (pc1 := 142) rfl rfl ?_
                refine r_n (pc1 := 143) [.int (J 1), .int (J (ishr x5 x14))] _ rfl rfl ?_
                refine r_iand (pc1 := 144) rfl rfl ?_
                obtain ⟨J21, j21, w⟩ := w
                have Q21 : ∀ (x19 : Int) (h20 : XH), HT h20 → HX h h20 → rg x19 → J21 x19 h20 → RR sc goal fs 265 155 [some (rv 437), some (rv a2), some (.int (J x19)), some (.int (J x5)), some (.int (J x14)), d7, d8] [] h20 := by
                  intro x19 h20 t20 s20 rx19 z21
                  have w := j21 x19 h20 t20 s20 rx19 z21
                  refine r_inc (pc1 := 158) (g := fun zz => [some (rv 437), some (rv a2), some (.int (J x19)), some (.int (J x5)), some (.int (J zz)), d7, d8]) rfl rfl rfl rfl (fun _ => rfl) (fun x22 ex22 rx22 => ?_)
                  have w := w x22 ex22 rx22
                  refine r_goto (t := 127) rfl rfl ?_
                  exact ih16  x19 x22 h20 t20 s20 rx19 rx22 (Nat.lt_of_lt_of_le w.2 (Nat.le_of_lt_succ q16)) w.1
                refine r_iz (t := 155) (pc1 := 147) rfl rfl rfl (rgt _) (fun c27 => ?_) (fun c27 => ?_)
                · have w := w.1 c27
                  exact Q21  x13 h15 t15 s15 rx13 w
                · have w := w.2 c27
                  refine r_aldn (pc1 := 148) rfl rfl rfl ?_
                  refine r_n (pc1 := 149) [.int (J x13), rv a2] _ rfl rfl ?_
                  refine r_n (pc1 := 151) [.int (J x14), .int (J x13), rv a2] _ rfl rfl ?_
                  obtain ⟨c23, w⟩ := w
                  obtain ⟨c24, w⟩ := w
                  refine r_iast (pc1 := 152) rfl rfl t15 c23 rx13 c24.1 c24.2 (fun h25 eh25 t25 u25 => ?_)
                  have w := w h25 eh25 t25 u25
                  have s25 := HX_trans s15 u25
                  refine r_inc (pc1 := 155) (g := fun zz => [some (rv 437), some (rv a2), some (.int (J zz)), some (.int (J x5)), some (.int (J x14)), d7, d8]) rfl rfl rfl rfl (fun _ => xput1_rv rfl rfl) (fun x26 ex26 rx26 => ?_)
                  have w := w x26 ex26 rx26
                  exact Q21  x26 h25 t25 s25 rx26 w
          exact Q16 _  x4 0 h12 t12 s12 rx4 (rgk rfl) (Nat.lt_succ_self _) w
        · have w := w.2 c60
          refine r_n (pc1 := 43) [.int (J 0)] _ rfl rfl ?_
          refine r_ist (pc1 := 45) (ls1 := [some (rv 437), some (rv a2), some (.int (J x4)), some (.int (J x5)), some (.int (J x6)), some (.int (J 0)), d8]) rfl rfl rfl rfl ?_
          obtain ⟨I34, m34, w, y34⟩ := w
          have Q34 : ∀ (n : Nat) (d32 : Option Value) (x29 : Int) (x30 : Int) (x31 : Int) (h33 : XH), HT h33 → HX h h33 → rg x29 → rg x30 → rg x31 → m34 x29 x30 x31 h33 < n → I34 x29 x30 x31 h33 → RR sc goal fs 265 45 [some (rv 437), some (rv a2), some (.int (J x29)), some (.int (J x30)), some (.int (J x6)), some (.int (J x31)), d32] [] h33 := by
            intro n
            induction n with
            | zero => intro d32 x29 x30 x31 h33 t33 s33 rx29 rx30 rx31 q34 _; exact absurd q34 (Nat.not_lt_zero _)
            | succ n ih34 =>
              intro d32 x29 x30 x31 h33 t33 s33 rx29 rx30 rx31 q34 z34
              have w := y34 x29 x30 x31 h33 t33 s33 rx29 rx30 rx31 z34
              refine r_aldn (pc1 := 46) rfl rfl rfl ?_
              refine r_n (pc1 := 48) [.int (J x6), rv 437] _ rfl rfl ?_
              refine r_iv rfl rfl rfl rfl rfl rfl t33 (lyk t33 rfl) rfl (xe_of (xa_r (xa_i xa_0)) rfl rfl) (r_d0 hd rfl) (a_X14_wishAt x6 (r_d1 hd rfl) rx6 w t33 (fun a35 w => ?_))
              refine r_fR (pc1 := 51) rfl ?_
              obtain ⟨J36, j36, w⟩ := w
              have Q36 : J36 → RR sc goal fs 265 113 [some (rv 437), some (rv a2), some (.int (J x29)), some (.int (J x30)), some (.int (J x6)), some (.int (J x31)), d32] [] h33 := by
                intro z36
                have w := j36 z36
                refine r_inc (pc1 := 116) (g := fun zz => [some (rv 437), some (rv a2), some (.int (J x29)), some (.int (J x30)), some (.int (J zz)), some (.int (J x31)), d32]) rfl rfl rfl rfl (fun _ => rfl) (fun x37 ex37 rx37 => ?_)
                have w := w x37 ex37 rx37
                refine r_goto (t := 32) rfl rfl ?_
                exact ih10 _ _ x29 x30 x37 h33 t33 s33 rx29 rx30 rx37 (Nat.lt_of_lt_of_le w.2 (Nat.le_of_lt_succ q10)) w.1
              refine r_null (t := 113) (pc1 := 54) rfl rfl rfl (fun c59 => ?_) (fun c59 => ?_)
              · have w := w.1 c59
                exact Q36     w
              · have w := w.2 c59
                refine r_n (pc1 := 56) [.int (J x31)] _ rfl rfl ?_
                refine r_aldn (pc1 := 57) rfl rfl rfl ?_
                refine r_n (pc1 := 59) [.int (J x6), rv 437, .int (J x31)] _ rfl rfl ?_
                refine r_iv rfl rfl rfl rfl rfl rfl t33 (lyk t33 rfl) rfl (xe_of (xa_r (xa_i xa_0)) rfl rfl) (r_d0 hd rfl) (a_X14_wishAt x6 (r_d1 hd rfl) rx6 w t33 (fun a38 w => ?_))
                refine r_fR (pc1 := 62) rfl ?_
                obtain ⟨c39, w⟩ := w
                refine r_gfR (pc1 := 65) rfl rfl rfl t33 c39 rfl rfl ?_
                obtain ⟨c40, w⟩ := w
                obtain ⟨c41, w⟩ := w
                refine r_len (pc1 := 66) (u := 0) rfl rfl t33 c40 (by decide) (fun rc41 => ?_) c41
                refine r_ic (t := 113) (pc1 := 69) rfl rfl rfl rx31 rc41 (fun c58 => ?_) (fun c58 => ?_)
                · have w := w.1 c58
                  exact Q36     w
                · have w := w.2 c58
                  refine r_aldn (pc1 := 70) rfl rfl rfl ?_
                  refine r_n (pc1 := 72) [.int (J x6), rv 437] _ rfl rfl ?_
                  refine r_iv rfl rfl rfl rfl rfl rfl t33 (lyk t33 rfl) rfl (xe_of (xa_r (xa_i xa_0)) rfl rfl) (r_d0 hd rfl) (a_X14_wishAt x6 (r_d1 hd rfl) rx6 w t33 (fun a42 w => ?_))
                  refine r_fR (pc1 := 75) rfl ?_
                  obtain ⟨c43, w⟩ := w
                  refine r_gfR (pc1 := 78) rfl rfl rfl t33 c43 rfl rfl ?_
                  refine r_n (pc1 := 80) [.int (J x31), rv (hR h33 a42 1)] _ rfl rfl ?_
                  obtain ⟨c44, w⟩ := w
                  obtain ⟨c45, w⟩ := w
                  refine r_ial (pc1 := 81) rfl rfl t33 c44 rx31 c45.1 c45.2 ?_
                  refine r_vI (rgh _ _ _) (fun x46 ex46 rx46 => ?_)
                  have w := w x46 ex46 rx46
                  refine r_ist (pc1 := 83) (ls1 := [some (rv 437), some (rv a2), some (.int (J x29)), some (.int (J x30)), some (.int (J x6)), some (.int (J x31)), some (.int (J x46))]) rfl rfl rfl rfl ?_
                  refine r_n (pc1 := 84) [.int (J x30)] _ rfl rfl ?_
                  refine r_n (pc1 := 86) [.int (J x46), .int (J x30)] _ rfl rfl ?_
                  refine r_ishr (pc1 := 87) rfl rfl ?_
                  refine r_n (pc1 := 88) [.int (J 1), .int (J (ishr x30 x46))] _ rfl rfl ?_
                  refine r_iand (pc1 := 89) rfl rfl ?_
                  obtain ⟨J50, j50, w⟩ := w
                  have Q50 : ∀ (x47 : Int) (x48 : Int) (h49 : XH), HT h49 → HX h h49 → rg x47 → rg x48 → J50 x47 x48 h49 → RR sc goal fs 265 107 [some (rv 437), some (rv a2), some (.int (J x47)), some (.int (J x48)), some (.int (J x6)), some (.int (J x31)), some (.int (J x46))] [] h49 := by
                    intro x47 x48 h49 t49 s49 rx47 rx48 z50
                    have w := j50 x47 x48 h49 t49 s49 rx47 rx48 z50
                    refine r_inc (pc1 := 110) (g := fun zz => [some (rv 437), some (rv a2), some (.int (J x47)), some (.int (J x48)), some (.int (J x6)), some (.int (J zz)), some (.int (J x46))]) rfl rfl rfl rfl (fun _ => rfl) (fun x51 ex51 rx51 => ?_)
                    have w := w x51 ex51 rx51
                    refine r_goto (t := 45) rfl rfl ?_
                    exact ih34 _ x47 x48 x51 h49 t49 s49 rx47 rx48 rx51 (Nat.lt_of_lt_of_le w.2 (Nat.le_of_lt_succ q34)) w.1
                  refine r_iz (t := 107) (pc1 := 92) rfl rfl rfl (rgt _) (fun c57 => ?_) (fun c57 => ?_)
                  · have w := w.1 c57
                    exact Q50  x29 x30 h33 t33 s33 rx29 rx30 w
                  · have w := w.2 c57
                    refine r_n (pc1 := 93) [.int (J x30)] _ rfl rfl ?_
                    refine r_n (pc1 := 94) [.int (J 1), .int (J x30)] _ rfl rfl ?_
                    refine r_n (pc1 := 96) [.int (J x46), .int (J 1), .int (J x30)] _ rfl rfl ?_
                    refine r_ishl (pc1 := 97) rfl rfl ?_
                    refine r_ior (pc1 := 98) rfl rfl ?_
                    refine r_vI (rgt _) (fun x52 ex52 rx52 => ?_)
                    have w := w x52 ex52 rx52
                    refine r_istn (pc1 := 99) (ls1 := [some (rv 437), some (rv a2), some (.int (J x29)), some (.int (J x52)), some (.int (J x6)), some (.int (J x31)), some (.int (J x46))]) rfl rfl rfl rfl ?_
                    refine r_aldn (pc1 := 100) rfl rfl rfl ?_
                    refine r_n (pc1 := 101) [.int (J x29), rv a2] _ rfl rfl ?_
                    refine r_n (pc1 := 103) [.int (J x46), .int (J x29), rv a2] _ rfl rfl ?_
                    obtain ⟨c53, w⟩ := w
                    obtain ⟨c54, w⟩ := w
                    refine r_iast (pc1 := 104) rfl rfl t33 c53 rx29 c54.1 c54.2 (fun h55 eh55 t55 u55 => ?_)
                    have w := w h55 eh55 t55 u55
                    have s55 := HX_trans s33 u55
                    refine r_inc (pc1 := 107) (g := fun zz => [some (rv 437), some (rv a2), some (.int (J zz)), some (.int (J x52)), some (.int (J x6)), some (.int (J x31)), some (.int (J x46))]) rfl rfl rfl rfl (fun _ => xput1_rv rfl rfl) (fun x56 ex56 rx56 => ?_)
                    have w := w x56 ex56 rx56
                    exact Q50  x56 x52 h55 t55 s55 rx56 rx52 w
          exact Q34 _ _ x4 x5 0 h9 t9 s9 rx4 rx5 (rgk rfl) (Nat.lt_succ_self _) w
    exact Q10 _ _ _ 0 0 0 h3 t3 s3 (rgk rfl) (rgk rfl) (rgk rfl) (Nat.lt_succ_self _) w
  · have w := w.2 c61
    refine r_aldn (pc1 := 12) rfl rfl rfl ?_
    refine r_gfR (pc1 := 15) rfl rfl rfl t0 (lyk t0 rfl) rfl rfl ?_
    exact r_retR rfl rfl rfl xok_A xokr_A (k _ _ t0 (HX_refl h) w)
def w_X14_firstSet  (K : Nat → XH → Prop) (h : XH) : Prop :=
  (∀ (a1 : Nat) (h2 : XH), a1 = h.length → h2 = nA h 0 12 → HT h2 → HX h h2 → hk h2 a1 = 100 → hn h2 a1 = 12 → (∃ (I5 : Int → XH → Prop) (m5 : Int → XH → Nat), I5 0 h2 ∧ ∀ (x3 : Int) (h4 : XH), HT h4 → HX h h4 → rg x3 → I5 x3 h4 → (((12 ≤ x3 → (w_X14_order (fun a6 h7 => HT h7 → HX h4 h7 → (hk h7 a6 = 100 ∧ (hn h7 a6 : Int) < 2147483648 ∧ ∀ x10 : Int, x10 = (hn h7 a6 : Int) → rg x10 → (∃ (I24 : BitVec 64 → BitVec 64 → Int → XH → Prop) (m24 : BitVec 64 → BitVec 64 → Int → XH → Nat), I24 (0#64) (0#64) 0 h7 ∧ ∀ (b11 : BitVec 64) (b12 : BitVec 64) (x13 : Int) (h23 : XH), HT h23 → HX h h23 → rg x13 → I24 b11 b12 x13 h23 → (((x10 ≤ x13 → ((∃ (I29 : BitVec 64 → BitVec 64 → Int → XH → Prop) (m29 : BitVec 64 → BitVec 64 → Int → XH → Nat), I29 b11 b12 0 h23 ∧ ∀ (b25 : BitVec 64) (b26 : BitVec 64) (x27 : Int) (h28 : XH), HT h28 → HX h h28 → rg x27 → I29 b25 b26 x27 h28 → (((hI h28 438 0 ≤ x27 → (K a1 h28)) ∧ (¬ (hI h28 438 0 ≤ x27) → (w_X14_optionBit x27 (fun b30 => (w_X14_canHold b25 (b26 ||| b30) (fun x31 h32 => HT h32 → HX h28 h32 → rg x31 → (x31 = 0 ∨ x31 = 1) → (∃ J36 : BitVec 64 → BitVec 64 → XH → Prop, (∀ (b33 : BitVec 64) (b34 : BitVec 64) (h35 : XH), HT h35 → HX h h35 → J36 b33 b34 h35 → (∀ x37 : Int, x37 = wr (x27 + 1) → rg x37 → (I29 b33 b34 x37 h35 ∧ m29 b33 b34 x37 h35 < m29 b25 b26 x27 h28))) ∧ ((x31 = 0 → (w_X14_optionBit x27 (fun b38 => (∀ b39 : BitVec 64, b39 = b25 ||| b38 → hk h32 a1 = 100 ∧ (0 ≤ x27 ∧ x27 < (hn h32 a1 : Int)) ∧ ∀ h42 : XH, h42 = sI h32 a1 x27.toNat (wr ((hI h32 a1 x27.toNat) + 1000000)) → HT h42 → HX h32 h42 → J36 b39 b26 h42)) h32)) ∧ (¬ (x31 = 0) → (w_X14_optionBit x27 (fun b43 => (∀ b44 : BitVec 64, b44 = b26 ||| b43 → J36 b25 b44 h32)) h32))))) h28)) h28))))))) ∧ (¬ (x10 ≤ x13) → (hk h23 a6 = 100 ∧ (0 ≤ x13 ∧ x13 < (hn h23 a6 : Int)) ∧ ∀ x49 : Int, x49 = hI h23 a6 x13.toNat → rg x49 → w_X14_versionsOf x49 (fun a50 h51 => HT h51 → HX h23 h51 → (∃ J53 : Int → Prop, (∀ (x52 : Int), rg x52 → J53 x52 → (hk h51 a50 = 100 ∧ (hn h51 a50 : Int) < 2147483648 ∧ ∀ x56 : Int, x56 = (hn h51 a50 : Int) → rg x56 → (∃ (I60 : BitVec 64 → Int → Prop) (m60 : BitVec 64 → Int → Nat), I60 (0#64) 0 ∧ ∀ (b57 : BitVec 64) (x58 : Int), rg x58 → I60 b57 x58 → (((x56 ≤ x58 → (∃ J63 : Int → XH → Prop, (∀ (x61 : Int) (h62 : XH), HT h62 → HX h h62 → rg x61 → J63 x61 h62 → (hk h62 a50 = 100 ∧ (hn h62 a50 : Int) < 2147483648 ∧ ∀ x66 : Int, x66 = wr ((hn h62 a50 : Int) - 1) → rg x66 → (∃ (I73 : BitVec 64 → BitVec 64 → Int → Int → XH → Prop) (m73 : BitVec 64 → BitVec 64 → Int → Int → XH → Nat), I73 b11 b57 x61 x66 h62 ∧ ∀ (b67 : BitVec 64) (b69 : BitVec 64) (x70 : Int) (x71 : Int) (h72 : XH), HT h72 → HX h h72 → rg x70 → rg x71 → I73 b67 b69 x70 x71 h72 → (∃ J74 : Prop, (J74 → (∀ b75 : BitVec 64, b75 = b12 ||| b69 → ∀ x76 : Int, x76 = wr (x13 + 1) → rg x76 → (I24 b67 b75 x76 h72 ∧ m24 b67 b75 x76 h72 < m24 b11 b12 x13 h23))) ∧ ((x71 < 0 → J74) ∧ (¬ (x71 < 0) → (((¬ x70 = 0 → J74) ∧ (¬ (¬ x70 = 0) → (hk h72 a50 = 100 ∧ (0 ≤ x71 ∧ x71 < (hn h72 a50 : Int)) ∧ w_X14_bit (hI h72 a50 x71.toNat) (fun b79 => (w_X14_bit (hI h72 a50 x71.toNat) (fun b80 => (w_X14_canHold (b67 ||| b79) (b12 ||| (b69 &&& (b80 ^^^ (18446744073709551615#64)))) (fun x81 h82 => HT h82 → HX h72 h82 → rg x81 → (x81 = 0 ∨ x81 = 1) → (∃ J88 : BitVec 64 → BitVec 64 → Int → XH → Prop, (∀ (b83 : BitVec 64) (b85 : BitVec 64) (x86 : Int) (h87 : XH), HT h87 → HX h h87 → rg x86 → J88 b83 b85 x86 h87 → (∀ x89 : Int, x89 = wr (x71 + (-1)) → rg x89 → (I73 b83 b85 x86 x89 h87 ∧ m73 b83 b85 x86 x89 h87 < m73 b67 b69 x70 x71 h72))) ∧ ((x81 = 0 → J88 b67 b69 x70 h82) ∧ (¬ (x81 = 0) → ((0 ≤ x71 ∧ x71 < (hn h82 a50 : Int)) ∧ w_X14_ver (hI h82 a50 x71.toNat) 1 (fun x91 => rg x91 → (hk h82 a1 = 100 ∧ (0 ≤ x49 ∧ x49 < (hn h82 a1 : Int)) ∧ ∀ h94 : XH, h94 = sI h82 a1 x49.toNat x91 → HT h94 → HX h82 h94 → (0 ≤ x71 ∧ x71 < (hn h94 a50 : Int)) ∧ w_X14_bit (hI h94 a50 x71.toNat) (fun b96 => (∀ b97 : BitVec 64, b97 = b67 ||| b96 → w_X14_bit (hI h94 a50 x71.toNat) (fun b98 => (∀ b99 : BitVec 64, b99 = b69 &&& (b98 ^^^ (18446744073709551615#64)) → J88 b97 b99 1 h94)) h94)) h94)) h82))))) h72)) h72)) h72)))))))))) ∧ ∃ J104 : XH → Prop, (∀ (h103 : XH), HT h103 → HX h h103 → J104 h103 → (J63 0 h103)) ∧ ((¬ x52 = 0 → J104 h51) ∧ (¬ (¬ x52 = 0) → (w_X14_canHold b11 (b12 ||| b57) (fun x105 h106 => HT h106 → HX h51 h106 → rg x105 → (x105 = 0 ∨ x105 = 1) → (((x105 = 0 → J104 h106) ∧ (¬ (x105 = 0) → (J63 1 h106))))) h51))))) ∧ (¬ (x56 ≤ x58) → ((0 ≤ x58 ∧ x58 < (hn h51 a50 : Int)) ∧ ∀ x110 : Int, x110 = hI h51 a50 x58.toNat → rg x110 → w_X14_bit x110 (fun b111 => (∀ b112 : BitVec 64, b112 = b57 ||| b111 → ∀ x113 : Int, x113 = wr (x58 + 1) → rg x113 → (I60 b112 x113 ∧ m60 b112 x113 < m60 b57 x58))) h51))))))) ∧ ((¬ iand (ishr (hI h51 437 37) x49) 1 = 1 → (J53 0)) ∧ (¬ (¬ iand (ishr (hI h51 437 37) x49) 1 = 1) → (J53 1))))) h23))))))) h4)) ∧ (¬ (12 ≤ x3) → (hk h4 a1 = 100 ∧ (0 ≤ x3 ∧ x3 < (hn h4 a1 : Int)) ∧ ∀ h119 : XH, h119 = sI h4 a1 x3.toNat (-1) → HT h119 → HX h4 h119 → ∀ x120 : Int, x120 = wr (x3 + 1) → rg x120 → (I5 x120 h119 ∧ m5 x120 h119 < m5 x3 h4)))))))
set_option maxHeartbeats 4000000 in
theorem a_X14_firstSet {sc : Nat × (Nat → Int32)} {goal : XO → XH → Prop} {fs : List XF} {h : XH}  {K : Nat → XH → Prop} (hd : fs.length + 76 ≤ 1000) (w : w_X14_firstSet  K h) (t0 : HT h) (k : ∀ (r : Nat) (h1 : XH), HT h1 → HX h h1 → K r h1 → XFin xP sc goal fs (.inl (some (rv r))) h1) : RR sc goal fs 205 0 [some (rv 437), none, none, none, none, none, none, none, none, none, none, none, none, none, none, none, none, none] [] h := by
  unfold w_X14_firstSet at w
  refine r_n (pc1 := 2) [.int (J 12)] _ rfl rfl ?_
  refine r_na (pc1 := 4) (u := 0) (m := 2) rfl rfl rfl t0 rfl (rgk rfl) (by decide) (by decide) (fun a1 h2 ea1 eh2 t2 u2 ca1 la1 => ?_)
  have w := w a1 h2 ea1 eh2 t2 u2 ca1 la1
  have s2 := HX_trans (HX_refl h) u2
  refine r_astn (pc1 := 5) (ls1 := [some (rv 437), some (rv a1), none, none, none, none, none, none, none, none, none, none, none, none, none, none, none, none]) rfl rfl rfl rfl ?_
  refine r_n (pc1 := 6) [.long (G (0#64))] _ rfl rfl ?_
  refine r_lstn (pc1 := 7) (ls1 := [some (rv 437), some (rv a1), some (.long (G (0#64))), none, none, none, none, none, none, none, none, none, none, none, none, none, none, none]) rfl rfl rfl (xput2_rv rfl rfl) ?_
  refine r_n (pc1 := 8) [.long (G (0#64))] _ rfl rfl ?_
  refine r_lst (pc1 := 10) (ls1 := [some (rv 437), some (rv a1), some (.long (G (0#64))), none, some (.long (G (0#64))), none, none, none, none, none, none, none, none, none, none, none, none, none]) rfl rfl rfl rfl ?_
  refine r_n (pc1 := 11) [.int (J 0)] _ rfl rfl ?_
  refine r_ist (pc1 := 13) (ls1 := [some (rv 437), some (rv a1), some (.long (G (0#64))), none, some (.long (G (0#64))), none, some (.int (J 0)), none, none, none, none, none, none, none, none, none, none, none]) rfl rfl rfl rfl ?_
  obtain ⟨I5, m5, w, y5⟩ := w
  have Q5 : ∀ (n : Nat)  (x3 : Int) (h4 : XH), HT h4 → HX h h4 → rg x3 → m5 x3 h4 < n → I5 x3 h4 → RR sc goal fs 205 13 [some (rv 437), some (rv a1), some (.long (G (0#64))), none, some (.long (G (0#64))), none, some (.int (J x3)), none, none, none, none, none, none, none, none, none, none, none] [] h4 := by
    intro n
    induction n with
    | zero => intro x3 h4 t4 s4 rx3 q5 _; exact absurd q5 (Nat.not_lt_zero _)
    | succ n ih5 =>
      intro x3 h4 t4 s4 rx3 q5 z5
      have w := y5 x3 h4 t4 s4 rx3 z5
      refine r_n (pc1 := 15) [.int (J x3)] _ rfl rfl ?_
      refine r_n (pc1 := 17) [.int (J 12), .int (J x3)] _ rfl rfl ?_
      refine r_ic (t := 31) (pc1 := 20) rfl rfl rfl rx3 (rgk rfl) (fun c121 => ?_) (fun c121 => ?_)
      · have w := w.1 c121
        refine r_aldn (pc1 := 32) rfl rfl rfl ?_
        refine r_iv rfl rfl rfl rfl rfl rfl t4 (lyk t4 rfl) rfl (xe_of (xa_r xa_0) rfl rfl) (r_d0 hd rfl) (a_X14_order  (r_d1 hd rfl)  w t4 (fun a6 h7 t7 u7 w => ?_))
        refine r_fR (pc1 := 35) rfl ?_
        have s7 := HX_trans s4 u7
        have w := w t7 u7
        refine r_ast (pc1 := 37) (ls1 := [some (rv 437), some (rv a1), some (.long (G (0#64))), none, some (.long (G (0#64))), none, some (rv a6), none, none, none, none, none, none, none, none, none, none, none]) rfl rfl rfl rfl ?_
        refine r_ald (pc1 := 39) rfl rfl rfl ?_
        obtain ⟨c8, w⟩ := w
        obtain ⟨c9, w⟩ := w
        refine r_len (pc1 := 40) (u := 0) rfl rfl t7 c8 (by decide) (fun rc9 => ?_) c9
        refine r_vI rc9 (fun x10 ex10 rx10 => ?_)
        have w := w x10 ex10 rx10
        refine r_ist (pc1 := 42) (ls1 := [some (rv 437), some (rv a1), some (.long (G (0#64))), none, some (.long (G (0#64))), none, some (rv a6), some (.int (J x10)), none, none, none, none, none, none, none, none, none, none]) rfl rfl rfl (xput1_rv rfl rfl) ?_
        refine r_n (pc1 := 43) [.int (J 0)] _ rfl rfl ?_
        refine r_ist (pc1 := 45) (ls1 := [some (rv 437), some (rv a1), some (.long (G (0#64))), none, some (.long (G (0#64))), none, some (rv a6), some (.int (J x10)), some (.int (J 0)), none, none, none, none, none, none, none, none, none]) rfl rfl rfl rfl ?_
        obtain ⟨I24, m24, w, y24⟩ := w
        have Q24 : ∀ (n : Nat) (d14 : Option Value) (d15 : Option Value) (d16 : Option Value) (d17 : Option Value) (d18 : Option Value) (d19 : Option Value) (d20 : Option Value) (d21 : Option Value) (d22 : Option Value) (b11 : BitVec 64) (b12 : BitVec 64) (x13 : Int) (h23 : XH), HT h23 → HX h h23 → rg x13 → m24 b11 b12 x13 h23 < n → I24 b11 b12 x13 h23 → RR sc goal fs 205 45 [some (rv 437), some (rv a1), some (.long (G b11)), none, some (.long (G b12)), none, some (rv a6), some (.int (J x10)), some (.int (J x13)), d14, d15, d16, d17, d18, d19, d20, d21, d22] [] h23 := by
          intro n
          induction n with
          | zero => intro d14 d15 d16 d17 d18 d19 d20 d21 d22 b11 b12 x13 h23 t23 s23 rx13 q24 _; exact absurd q24 (Nat.not_lt_zero _)
          | succ n ih24 =>
            intro d14 d15 d16 d17 d18 d19 d20 d21 d22 b11 b12 x13 h23 t23 s23 rx13 q24 z24
            have w := y24 b11 b12 x13 h23 t23 s23 rx13 z24
            refine r_n (pc1 := 47) [.int (J x13)] _ rfl rfl ?_
            refine r_n (pc1 := 49) [.int (J x10), .int (J x13)] _ rfl rfl ?_
            refine r_ic (t := 273) (pc1 := 52) rfl rfl rfl rx13 rx10 (fun c116 => ?_) (fun c116 => ?_)
            · have w := w.1 c116
              refine r_n (pc1 := 274) [.int (J 0)] _ rfl rfl ?_
              refine r_ist (pc1 := 276) (ls1 := [some (rv 437), some (rv a1), some (.long (G b11)), none, some (.long (G b12)), none, some (.int (J 0)), some (.int (J x10)), some (.int (J x13)), d14, d15, d16, d17, d18, d19, d20, d21, d22]) rfl rfl rfl rfl ?_
              obtain ⟨I29, m29, w, y29⟩ := w
              have Q29 : ∀ (n : Nat)  (b25 : BitVec 64) (b26 : BitVec 64) (x27 : Int) (h28 : XH), HT h28 → HX h h28 → rg x27 → m29 b25 b26 x27 h28 < n → I29 b25 b26 x27 h28 → RR sc goal fs 205 276 [some (rv 437), some (rv a1), some (.long (G b25)), none, some (.long (G b26)), none, some (.int (J x27)), some (.int (J x10)), some (.int (J x13)), d14, d15, d16, d17, d18, d19, d20, d21, d22] [] h28 := by
                intro n
                induction n with
                | zero => intro b25 b26 x27 h28 t28 s28 rx27 q29 _; exact absurd q29 (Nat.not_lt_zero _)
                | succ n ih29 =>
                  intro b25 b26 x27 h28 t28 s28 rx27 q29 z29
                  have w := y29 b25 b26 x27 h28 t28 s28 rx27 z29
                  refine r_n (pc1 := 278) [.int (J x27)] _ rfl rfl ?_
                  refine r_aldn (pc1 := 279) rfl rfl rfl ?_
                  refine r_gfC (pc1 := 282) (q := 438) rfl rfl rfl t28 (lyk t28 rfl) rfl rfl (lyR t28 rfl rfl) ?_
                  refine r_n (pc1 := 283) [.int (J 0), rv 438, .int (J x27)] _ rfl rfl ?_
                  refine r_ial (pc1 := 284) rfl rfl t28 (lyk t28 rfl) (rgk rfl) (by decide) (lt_len (lyn t28 rfl) (by decide)) ?_
                  refine r_ic (t := 340) (pc1 := 287) rfl rfl rfl rx27 (rgh _ _ _) (fun c46 => ?_) (fun c46 => ?_)
                  · have w := w.1 c46
                    refine r_aldn (pc1 := 341) rfl rfl rfl ?_
                    exact r_retR rfl rfl rfl xok_A xokr_A (k _ _ t28 s28 w)
                  · have w := w.2 c46
                    refine r_aldn (pc1 := 288) rfl rfl rfl ?_
                    refine r_n (pc1 := 289) [.long (G b25), rv 437] _ rfl rfl ?_
                    refine r_n (pc1 := 291) [.long (G b26), .long (G b25), rv 437] _ rfl rfl ?_
                    refine r_n (pc1 := 293) [.int (J x27), .long (G b26), .long (G b25), rv 437] _ rfl rfl ?_
                    refine r_iq rfl rfl rfl rfl rfl rfl (xe_of (xa_i xa_0) rfl rfl) (r_d0 hd rfl) (a_X14_optionBit x27 (r_d1 hd rfl) rx27 w t28 (fun b30 w => ?_))
                    refine r_fL (pc1 := 296) rfl ?_
                    refine r_lor (pc1 := 297) rfl rfl ?_
                    refine r_iv rfl rfl rfl rfl rfl rfl t28 (lyk t28 rfl) rfl (xe_of (xa_r (xa_l (xa_l xa_0))) rfl rfl) (r_d0 hd rfl) (a_X14_canHold b25 (b26 ||| b30) (r_d1 hd rfl)  w t28 (fun x31 h32 t32 u32 rx31 vx31 w => ?_))
                    refine r_fI (pc1 := 300) rfl ?_
                    have s32 := HX_trans s28 u32
                    have w := w t32 u32
                    have w := w rx31 vx31
                    obtain ⟨J36, j36, w⟩ := w
                    have Q36 : ∀ (b33 : BitVec 64) (b34 : BitVec 64) (h35 : XH), HT h35 → HX h h35 → J36 b33 b34 h35 → RR sc goal fs 205 334 [some (rv 437), some (rv a1), some (.long (G b33)), none, some (.long (G b34)), none, some (.int (J x27)), some (.int (J x10)), some (.int (J x13)), d14, d15, d16, d17, d18, d19, d20, d21, d22] [] h35 := by
                      intro b33 b34 h35 t35 s35 z36
                      have w := j36 b33 b34 h35 t35 s35 z36
                      refine r_inc (pc1 := 337) (g := fun zz => [some (rv 437), some (rv a1), some (.long (G b33)), none, some (.long (G b34)), none, some (.int (J zz)), some (.int (J x10)), some (.int (J x13)), d14, d15, d16, d17, d18, d19, d20, d21, d22]) rfl rfl rfl rfl (fun _ => rfl) (fun x37 ex37 rx37 => ?_)
                      have w := w x37 ex37 rx37
                      refine r_goto (t := 276) rfl rfl ?_
                      exact ih29  b33 b34 x37 h35 t35 s35 rx37 (Nat.lt_of_lt_of_le w.2 (Nat.le_of_lt_succ q29)) w.1
                    refine r_iz (t := 316) (pc1 := 303) rfl rfl rfl rx31 (fun c45 => ?_) (fun c45 => ?_)
                    · have w := w.1 c45
                      refine r_n (pc1 := 317) [.long (G b25)] _ rfl rfl ?_
                      refine r_n (pc1 := 319) [.int (J x27), .long (G b25)] _ rfl rfl ?_
                      refine r_iq rfl rfl rfl rfl rfl rfl (xe_of (xa_i xa_0) rfl rfl) (r_d0 hd rfl) (a_X14_optionBit x27 (r_d1 hd rfl) rx27 w t32 (fun b38 w => ?_))
                      refine r_fL (pc1 := 322) rfl ?_
                      refine r_lor (pc1 := 323) rfl rfl ?_
                      refine r_vL (fun b39 eb39 => ?_)
                      have w := w b39 eb39
                      refine r_lstn (pc1 := 324) (ls1 := [some (rv 437), some (rv a1), some (.long (G b39)), none, some (.long (G b26)), none, some (.int (J x27)), some (.int (J x10)), some (.int (J x13)), d14, d15, d16, d17, d18, d19, d20, d21, d22]) rfl rfl rfl (xput2_rv rfl rfl) ?_
                      refine r_aldn (pc1 := 325) rfl rfl rfl ?_
                      refine r_n (pc1 := 327) [.int (J x27), rv a1] _ rfl rfl ?_
                      refine r_dup2 (pc1 := 328) rfl rfl ?_
                      obtain ⟨c40, w⟩ := w
                      obtain ⟨c41, w⟩ := w
                      refine r_ial (pc1 := 329) rfl rfl t32 c40 rx27 c41.1 c41.2 ?_
                      refine r_n (pc1 := 332) [.int (J 1000000), .int (J (hI h32 a1 x27.toNat)), .int (J x27), rv a1] _ rfl rfl ?_
                      refine r_iadd (pc1 := 333) rfl rfl ?_
                      refine r_iast (pc1 := 334) rfl rfl t32 c40 rx27 c41.1 c41.2 (fun h42 eh42 t42 u42 => ?_)
                      have w := w h42 eh42 t42 u42
                      have s42 := HX_trans s32 u42
                      exact Q36  b39 b26 h42 t42 s42  w
                    · have w := w.2 c45
                      refine r_n (pc1 := 305) [.long (G b26)] _ rfl rfl ?_
                      refine r_n (pc1 := 307) [.int (J x27), .long (G b26)] _ rfl rfl ?_
                      refine r_iq rfl rfl rfl rfl rfl rfl (xe_of (xa_i xa_0) rfl rfl) (r_d0 hd rfl) (a_X14_optionBit x27 (r_d1 hd rfl) rx27 w t32 (fun b43 w => ?_))
                      refine r_fL (pc1 := 310) rfl ?_
                      refine r_lor (pc1 := 311) rfl rfl ?_
                      refine r_vL (fun b44 eb44 => ?_)
                      have w := w b44 eb44
                      refine r_lst (pc1 := 313) (ls1 := [some (rv 437), some (rv a1), some (.long (G b25)), none, some (.long (G b44)), none, some (.int (J x27)), some (.int (J x10)), some (.int (J x13)), d14, d15, d16, d17, d18, d19, d20, d21, d22]) rfl rfl rfl rfl ?_
                      refine r_goto (t := 334) rfl rfl ?_
                      exact Q36  b25 b44 h32 t32 s32  w
              exact Q29 _  b11 b12 0 h23 t23 s23 (rgk rfl) (Nat.lt_succ_self _) w
            · have w := w.2 c116
              refine r_ald (pc1 := 54) rfl rfl rfl ?_
              refine r_n (pc1 := 56) [.int (J x13), rv a6] _ rfl rfl ?_
              obtain ⟨c47, w⟩ := w
              obtain ⟨c48, w⟩ := w
              refine r_ial (pc1 := 57) rfl rfl t23 c47 rx13 c48.1 c48.2 ?_
              refine r_vI (rgh _ _ _) (fun x49 ex49 rx49 => ?_)
              have w := w x49 ex49 rx49
              refine r_ist (pc1 := 59) (ls1 := [some (rv 437), some (rv a1), some (.long (G b11)), none, some (.long (G b12)), none, some (rv a6), some (.int (J x10)), some (.int (J x13)), some (.int (J x49)), d15, d16, d17, d18, d19, d20, d21, d22]) rfl rfl rfl rfl ?_
              refine r_aldn (pc1 := 60) rfl rfl rfl ?_
              refine r_n (pc1 := 62) [.int (J x49), rv 437] _ rfl rfl ?_
              refine r_iv rfl rfl rfl rfl rfl rfl t23 (lyk t23 rfl) rfl (xe_of (xa_r (xa_i xa_0)) rfl rfl) (r_d0 hd rfl) (a_X14_versionsOf x49 (r_d1 hd rfl) rx49 w t23 (fun a50 h51 t51 u51 w => ?_))
              refine r_fR (pc1 := 65) rfl ?_
              have s51 := HX_trans s23 u51
              have w := w t51 u51
              refine r_ast (pc1 := 67) (ls1 := [some (rv 437), some (rv a1), some (.long (G b11)), none, some (.long (G b12)), none, some (rv a6), some (.int (J x10)), some (.int (J x13)), some (.int (J x49)), some (rv a50), d16, d17, d18, d19, d20, d21, d22]) rfl rfl rfl rfl ?_
              refine r_aldn (pc1 := 68) rfl rfl rfl ?_
              refine r_gfI (pc1 := 71) rfl rfl rfl t51 (lyk t51 rfl) rfl rfl ?_
              refine r_n (pc1 := 73) [.int (J x49), .int (J (hI h51 437 37))] _ rfl rfl ?_
              refine r_ishr (pc1 := 74) rfl rfl ?_
              refine r_n (pc1 := 75) [.int (J 1), .int (J (ishr (hI h51 437 37) x49))] _ rfl rfl ?_
              refine r_iand (pc1 := 76) rfl rfl ?_
              refine r_n (pc1 := 77) [.int (J 1), .int (J (iand (ishr (hI h51 437 37) x49) 1))] _ rfl rfl ?_
              obtain ⟨J53, j53, w⟩ := w
              have Q53 : ∀ (x52 : Int), rg x52 → J53 x52 → RR sc goal fs 205 85 [some (rv 437), some (rv a1), some (.long (G b11)), none, some (.long (G b12)), none, some (rv a6), some (.int (J x10)), some (.int (J x13)), some (.int (J x49)), some (rv a50), d16, d17, d18, d19, d20, d21, d22] [.int (J x52)] h51 := by
                intro x52 rx52 z53
                have w := j53 x52 rx52 z53
                refine r_ist (pc1 := 87) (ls1 := [some (rv 437), some (rv a1), some (.long (G b11)), none, some (.long (G b12)), none, some (rv a6), some (.int (J x10)), some (.int (J x13)), some (.int (J x49)), some (rv a50), some (.int (J x52)), d17, d18, d19, d20, d21, d22]) rfl rfl rfl (xput1_rv rfl rfl) ?_
                refine r_n (pc1 := 88) [.long (G (0#64))] _ rfl rfl ?_
                refine r_lst (pc1 := 90) (ls1 := [some (rv 437), some (rv a1), some (.long (G b11)), none, some (.long (G b12)), none, some (rv a6), some (.int (J x10)), some (.int (J x13)), some (.int (J x49)), some (rv a50), some (.int (J x52)), some (.long (G (0#64))), none, d19, d20, d21, d22]) rfl rfl rfl rfl ?_
                refine r_ald (pc1 := 92) rfl rfl rfl ?_
                refine r_ast (pc1 := 94) (ls1 := [some (rv 437), some (rv a1), some (.long (G b11)), none, some (.long (G b12)), none, some (rv a6), some (.int (J x10)), some (.int (J x13)), some (.int (J x49)), some (rv a50), some (.int (J x52)), some (.long (G (0#64))), none, some (rv a50), d20, d21, d22]) rfl rfl rfl rfl ?_
                refine r_ald (pc1 := 96) rfl rfl rfl ?_
                obtain ⟨c54, w⟩ := w
                obtain ⟨c55, w⟩ := w
                refine r_len (pc1 := 97) (u := 0) rfl rfl t51 c54 (by decide) (fun rc55 => ?_) c55
                refine r_vI rc55 (fun x56 ex56 rx56 => ?_)
                have w := w x56 ex56 rx56
                refine r_ist (pc1 := 99) (ls1 := [some (rv 437), some (rv a1), some (.long (G b11)), none, some (.long (G b12)), none, some (rv a6), some (.int (J x10)), some (.int (J x13)), some (.int (J x49)), some (rv a50), some (.int (J x52)), some (.long (G (0#64))), none, some (rv a50), some (.int (J x56)), d21, d22]) rfl rfl rfl (xput1_rv rfl rfl) ?_
                refine r_n (pc1 := 100) [.int (J 0)] _ rfl rfl ?_
                refine r_ist (pc1 := 102) (ls1 := [some (rv 437), some (rv a1), some (.long (G b11)), none, some (.long (G b12)), none, some (rv a6), some (.int (J x10)), some (.int (J x13)), some (.int (J x49)), some (rv a50), some (.int (J x52)), some (.long (G (0#64))), none, some (rv a50), some (.int (J x56)), some (.int (J 0)), d22]) rfl rfl rfl rfl ?_
                obtain ⟨I60, m60, w, y60⟩ := w
                have Q60 : ∀ (n : Nat) (d59 : Option Value) (b57 : BitVec 64) (x58 : Int), rg x58 → m60 b57 x58 < n → I60 b57 x58 → RR sc goal fs 205 102 [some (rv 437), some (rv a1), some (.long (G b11)), none, some (.long (G b12)), none, some (rv a6), some (.int (J x10)), some (.int (J x13)), some (.int (J x49)), some (rv a50), some (.int (J x52)), some (.long (G b57)), none, some (rv a50), some (.int (J x56)), some (.int (J x58)), d59] [] h51 := by
                  intro n
                  induction n with
                  | zero => intro d59 b57 x58 rx58 q60 _; exact absurd q60 (Nat.not_lt_zero _)
                  | succ n ih60 =>
                    intro d59 b57 x58 rx58 q60 z60
                    have w := y60 b57 x58 rx58 z60
                    refine r_n (pc1 := 104) [.int (J x58)] _ rfl rfl ?_
                    refine r_n (pc1 := 106) [.int (J x56), .int (J x58)] _ rfl rfl ?_
                    refine r_ic (t := 132) (pc1 := 109) rfl rfl rfl rx58 rx56 (fun c114 => ?_) (fun c114 => ?_)
                    · have w := w.1 c114
                      refine r_n (pc1 := 134) [.int (J x52)] _ rfl rfl ?_
                      obtain ⟨J63, j63, w⟩ := w
                      have Q63 : ∀ (x61 : Int) (h62 : XH), HT h62 → HX h h62 → rg x61 → J63 x61 h62 → RR sc goal fs 205 155 [some (rv 437), some (rv a1), some (.long (G b11)), none, some (.long (G b12)), none, some (rv a6), some (.int (J x10)), some (.int (J x13)), some (.int (J x49)), some (rv a50), some (.int (J x52)), some (.long (G b57)), none, some (rv a50), some (.int (J x56)), some (.int (J x58)), d59] [.int (J x61)] h62 := by
                        intro x61 h62 t62 s62 rx61 z63
                        have w := j63 x61 h62 t62 s62 rx61 z63
                        refine r_ist (pc1 := 157) (ls1 := [some (rv 437), some (rv a1), some (.long (G b11)), none, some (.long (G b12)), none, some (rv a6), some (.int (J x10)), some (.int (J x13)), some (.int (J x49)), some (rv a50), some (.int (J x52)), some (.long (G b57)), none, some (.int (J x61)), some (.int (J x56)), some (.int (J x58)), d59]) rfl rfl rfl rfl ?_
                        refine r_ald (pc1 := 159) rfl rfl rfl ?_
                        obtain ⟨c64, w⟩ := w
                        obtain ⟨c65, w⟩ := w
                        refine r_len (pc1 := 160) (u := 0) rfl rfl t62 c64 (by decide) (fun rc65 => ?_) c65
                        refine r_n (pc1 := 161) [.int (J 1), .int (J (hn h62 a50 : Int))] _ rfl rfl ?_
                        refine r_isub (pc1 := 162) rfl rfl ?_
                        refine r_vI (rgw _) (fun x66 ex66 rx66 => ?_)
                        have w := w x66 ex66 rx66
                        refine r_ist (pc1 := 164) (ls1 := [some (rv 437), some (rv a1), some (.long (G b11)), none, some (.long (G b12)), none, some (rv a6), some (.int (J x10)), some (.int (J x13)), some (.int (J x49)), some (rv a50), some (.int (J x52)), some (.long (G b57)), none, some (.int (J x61)), some (.int (J x66)), some (.int (J x58)), d59]) rfl rfl rfl rfl ?_
                        obtain ⟨I73, m73, w, y73⟩ := w
                        have Q73 : ∀ (n : Nat) (d68 : Option Value) (b67 : BitVec 64) (b69 : BitVec 64) (x70 : Int) (x71 : Int) (h72 : XH), HT h72 → HX h h72 → rg x70 → rg x71 → m73 b67 b69 x70 x71 h72 < n → I73 b67 b69 x70 x71 h72 → RR sc goal fs 205 164 [some (rv 437), some (rv a1), some (.long (G b67)), none, some (.long (G b12)), none, some (rv a6), some (.int (J x10)), some (.int (J x13)), some (.int (J x49)), some (rv a50), d68, some (.long (G b69)), none, some (.int (J x70)), some (.int (J x71)), some (.int (J x58)), d59] [] h72 := by
                          intro n
                          induction n with
                          | zero => intro d68 b67 b69 x70 x71 h72 t72 s72 rx70 rx71 q73 _; exact absurd q73 (Nat.not_lt_zero _)
                          | succ n ih73 =>
                            intro d68 b67 b69 x70 x71 h72 t72 s72 rx70 rx71 q73 z73
                            have w := y73 b67 b69 x70 x71 h72 t72 s72 rx70 rx71 z73
                            refine r_n (pc1 := 166) [.int (J x71)] _ rfl rfl ?_
                            obtain ⟨J74, j74, w⟩ := w
                            have Q74 : J74 → RR sc goal fs 205 260 [some (rv 437), some (rv a1), some (.long (G b67)), none, some (.long (G b12)), none, some (rv a6), some (.int (J x10)), some (.int (J x13)), some (.int (J x49)), some (rv a50), d68, some (.long (G b69)), none, some (.int (J x70)), some (.int (J x71)), some (.int (J x58)), d59] [] h72 := by
                              intro z74
                              have w := j74 z74
                              refine r_n (pc1 := 262) [.long (G b12)] _ rfl rfl ?_
                              refine r_n (pc1 := 264) [.long (G b69), .long (G b12)] _ rfl rfl ?_
                              refine r_lor (pc1 := 265) rfl rfl ?_
                              refine r_vL (fun b75 eb75 => ?_)
                              have w := w b75 eb75
                              refine r_lst (pc1 := 267) (ls1 := [some (rv 437), some (rv a1), some (.long (G b67)), none, some (.long (G b75)), none, some (rv a6), some (.int (J x10)), some (.int (J x13)), some (.int (J x49)), some (rv a50), d68, some (.long (G b69)), none, some (.int (J x70)), some (.int (J x71)), some (.int (J x58)), d59]) rfl rfl rfl rfl ?_
                              refine r_inc (pc1 := 270) (g := fun zz => [some (rv 437), some (rv a1), some (.long (G b67)), none, some (.long (G b75)), none, some (rv a6), some (.int (J x10)), some (.int (J zz)), some (.int (J x49)), some (rv a50), d68, some (.long (G b69)), none, some (.int (J x70)), some (.int (J x71)), some (.int (J x58)), d59]) rfl rfl rfl rfl (fun _ => rfl) (fun x76 ex76 rx76 => ?_)
                              have w := w x76 ex76 rx76
                              refine r_goto (t := 45) rfl rfl ?_
                              exact ih24 _ _ _ _ _ _ _ _ _ b67 b75 x76 h72 t72 s72 rx76 (Nat.lt_of_lt_of_le w.2 (Nat.le_of_lt_succ q24)) w.1
                            refine r_iz (t := 260) (pc1 := 169) rfl rfl rfl rx71 (fun c102 => ?_) (fun c102 => ?_)
                            · have w := w.1 c102
                              exact Q74     w
                            · have w := w.2 c102
                              refine r_n (pc1 := 171) [.int (J x70)] _ rfl rfl ?_
                              refine r_iz (t := 260) (pc1 := 174) rfl rfl rfl rx70 (fun c101 => ?_) (fun c101 => ?_)
                              · have w := w.1 c101
                                exact Q74     w
                              · have w := w.2 c101
                                refine r_aldn (pc1 := 175) rfl rfl rfl ?_
                                refine r_n (pc1 := 176) [.long (G b67), rv 437] _ rfl rfl ?_
                                refine r_ald (pc1 := 178) rfl rfl rfl ?_
                                refine r_n (pc1 := 180) [.int (J x71), rv a50, .long (G b67), rv 437] _ rfl rfl ?_
                                obtain ⟨c77, w⟩ := w
                                obtain ⟨c78, w⟩ := w
                                refine r_ial (pc1 := 181) rfl rfl t72 c77 rx71 c78.1 c78.2 ?_
                                refine r_iq rfl rfl rfl rfl rfl rfl (xe_of (xa_i xa_0) rfl rfl) (r_d0 hd rfl) (a_X14_bit (hI h72 a50 x71.toNat) (r_d1 hd rfl) (rgh _ _ _) w t72 (fun b79 w => ?_))
                                refine r_fL (pc1 := 184) rfl ?_
                                refine r_lor (pc1 := 185) rfl rfl ?_
                                refine r_n (pc1 := 187) [.long (G b12), .long (G (b67 ||| b79)), rv 437] _ rfl rfl ?_
                                refine r_n (pc1 := 189) [.long (G b69), .long (G b12), .long (G (b67 ||| b79)), rv 437] _ rfl rfl ?_
                                refine r_ald (pc1 := 191) rfl rfl rfl ?_
                                refine r_n (pc1 := 193) [.int (J x71), rv a50, .long (G b69), .long (G b12), .long (G (b67 ||| b79)), rv 437] _ rfl rfl ?_
                                refine r_ial (pc1 := 194) rfl rfl t72 c77 rx71 c78.1 c78.2 ?_
                                refine r_iq rfl rfl rfl rfl rfl rfl (xe_of (xa_i xa_0) rfl rfl) (r_d0 hd rfl) (a_X14_bit (hI h72 a50 x71.toNat) (r_d1 hd rfl) (rgh _ _ _) w t72 (fun b80 w => ?_))
                                refine r_fL (pc1 := 197) rfl ?_
                                refine r_n (pc1 := 200) [.long (G (18446744073709551615#64)), .long (G b80), .long (G b69), .long (G b12), .long (G (b67 ||| b79)), rv 437] _ rfl rfl ?_
                                refine r_lxor (pc1 := 201) rfl rfl ?_
                                refine r_land (pc1 := 202) rfl rfl ?_
                                refine r_lor (pc1 := 203) rfl rfl ?_
                                refine r_iv rfl rfl rfl rfl rfl rfl t72 (lyk t72 rfl) rfl (xe_of (xa_r (xa_l (xa_l xa_0))) rfl rfl) (r_d0 hd rfl) (a_X14_canHold (b67 ||| b79) (b12 ||| (b69 &&& (b80 ^^^ (18446744073709551615#64)))) (r_d1 hd rfl)  w t72 (fun x81 h82 t82 u82 rx81 vx81 w => ?_))
                                refine r_fI (pc1 := 206) rfl ?_
                                have s82 := HX_trans s72 u82
                                have w := w t82 u82
                                have w := w rx81 vx81
                                obtain ⟨J88, j88, w⟩ := w
                                have Q88 : ∀ (d84 : Option Value) (b83 : BitVec 64) (b85 : BitVec 64) (x86 : Int) (h87 : XH), HT h87 → HX h h87 → rg x86 → J88 b83 b85 x86 h87 → RR sc goal fs 205 254 [some (rv 437), some (rv a1), some (.long (G b83)), none, some (.long (G b12)), none, some (rv a6), some (.int (J x10)), some (.int (J x13)), some (.int (J x49)), some (rv a50), d84, some (.long (G b85)), none, some (.int (J x86)), some (.int (J x71)), some (.int (J x58)), d59] [] h87 := by
                                  intro d84 b83 b85 x86 h87 t87 s87 rx86 z88
                                  have w := j88 b83 b85 x86 h87 t87 s87 rx86 z88
                                  refine r_inc (pc1 := 257) (g := fun zz => [some (rv 437), some (rv a1), some (.long (G b83)), none, some (.long (G b12)), none, some (rv a6), some (.int (J x10)), some (.int (J x13)), some (.int (J x49)), some (rv a50), d84, some (.long (G b85)), none, some (.int (J x86)), some (.int (J zz)), some (.int (J x58)), d59]) rfl rfl rfl rfl (fun _ => rfl) (fun x89 ex89 rx89 => ?_)
                                  have w := w x89 ex89 rx89
                                  refine r_goto (t := 164) rfl rfl ?_
                                  exact ih73 _ b83 b85 x86 x89 h87 t87 s87 rx86 rx89 (Nat.lt_of_lt_of_le w.2 (Nat.le_of_lt_succ q73)) w.1
                                refine r_iz (t := 254) (pc1 := 209) rfl rfl rfl rx81 (fun c100 => ?_) (fun c100 => ?_)
                                · have w := w.1 c100
                                  exact Q88 _ b67 b69 x70 h82 t82 s82 rx70 w
                                · have w := w.2 c100
                                  refine r_n (pc1 := 210) [.int (J 1)] _ rfl rfl ?_
                                  refine r_ist (pc1 := 212) (ls1 := [some (rv 437), some (rv a1), some (.long (G b67)), none, some (.long (G b12)), none, some (rv a6), some (.int (J x10)), some (.int (J x13)), some (.int (J x49)), some (rv a50), d68, some (.long (G b69)), none, some (.int (J 1)), some (.int (J x71)), some (.int (J x58)), d59]) rfl rfl rfl rfl ?_
                                  refine r_aldn (pc1 := 213) rfl rfl rfl ?_
                                  refine r_n (pc1 := 215) [.int (J x49), rv a1] _ rfl rfl ?_
                                  refine r_aldn (pc1 := 216) rfl rfl rfl ?_
                                  refine r_ald (pc1 := 218) rfl rfl rfl ?_
                                  refine r_n (pc1 := 220) [.int (J x71), rv a50, rv 437, .int (J x49), rv a1] _ rfl rfl ?_
                                  obtain ⟨c90, w⟩ := w
                                  refine r_ial (pc1 := 221) rfl rfl t82 (HXk u82 c77 rfl) rx71 c90.1 c90.2 ?_
                                  refine r_n (pc1 := 222) [.int (J 1), .int (J (hI h82 a50 x71.toNat)), rv 437, .int (J x49), rv a1] _ rfl rfl ?_
                                  refine r_iv rfl rfl rfl rfl rfl rfl t82 (lyk t82 rfl) rfl (xe_of (xa_r (xa_i (xa_i xa_0))) rfl rfl) (r_d0 hd rfl) (a_X14_ver (hI h82 a50 x71.toNat) 1 (r_d1 hd rfl) (rgh _ _ _) (rgk rfl) w t82 (fun x91 rx91 w => ?_))
                                  refine r_fI (pc1 := 225) rfl ?_
                                  have w := w rx91
                                  obtain ⟨c92, w⟩ := w
                                  obtain ⟨c93, w⟩ := w
                                  refine r_iast (pc1 := 226) rfl rfl t82 c92 rx49 c93.1 c93.2 (fun h94 eh94 t94 u94 => ?_)
                                  have w := w h94 eh94 t94 u94
                                  have s94 := HX_trans s82 u94
                                  refine r_n (pc1 := 227) [.long (G b67)] _ rfl rfl ?_
                                  refine r_ald (pc1 := 229) rfl rfl rfl ?_
                                  refine r_n (pc1 := 231) [.int (J x71), rv a50, .long (G b67)] _ rfl rfl ?_
                                  obtain ⟨c95, w⟩ := w
                                  refine r_ial (pc1 := 232) rfl rfl t94 (HXk u94 (HXk u82 c77 rfl) rfl) rx71 c95.1 c95.2 ?_
                                  refine r_iq rfl rfl rfl rfl rfl rfl (xe_of (xa_i xa_0) rfl rfl) (r_d0 hd rfl) (a_X14_bit (hI h94 a50 x71.toNat) (r_d1 hd rfl) (rgh _ _ _) w t94 (fun b96 w => ?_))
                                  refine r_fL (pc1 := 235) rfl ?_
                                  refine r_lor (pc1 := 236) rfl rfl ?_
                                  refine r_vL (fun b97 eb97 => ?_)
                                  have w := w b97 eb97
                                  refine r_lstn (pc1 := 237) (ls1 := [some (rv 437), some (rv a1), some (.long (G b97)), none, some (.long (G b12)), none, some (rv a6), some (.int (J x10)), some (.int (J x13)), some (.int (J x49)), some (rv a50), d68, some (.long (G b69)), none, some (.int (J 1)), some (.int (J x71)), some (.int (J x58)), d59]) rfl rfl rfl (xput2_rv rfl rfl) ?_
                                  refine r_n (pc1 := 239) [.long (G b69)] _ rfl rfl ?_
                                  refine r_ald (pc1 := 241) rfl rfl rfl ?_
                                  refine r_n (pc1 := 243) [.int (J x71), rv a50, .long (G b69)] _ rfl rfl ?_
                                  refine r_ial (pc1 := 244) rfl rfl t94 (HXk u94 (HXk u82 c77 rfl) rfl) rx71 c95.1 c95.2 ?_
                                  refine r_iq rfl rfl rfl rfl rfl rfl (xe_of (xa_i xa_0) rfl rfl) (r_d0 hd rfl) (a_X14_bit (hI h94 a50 x71.toNat) (r_d1 hd rfl) (rgh _ _ _) w t94 (fun b98 w => ?_))
                                  refine r_fL (pc1 := 247) rfl ?_
                                  refine r_n (pc1 := 250) [.long (G (18446744073709551615#64)), .long (G b98), .long (G b69)] _ rfl rfl ?_
                                  refine r_lxor (pc1 := 251) rfl rfl ?_
                                  refine r_land (pc1 := 252) rfl rfl ?_
                                  refine r_vL (fun b99 eb99 => ?_)
                                  have w := w b99 eb99
                                  refine r_lst (pc1 := 254) (ls1 := [some (rv 437), some (rv a1), some (.long (G b97)), none, some (.long (G b12)), none, some (rv a6), some (.int (J x10)), some (.int (J x13)), some (.int (J x49)), some (rv a50), (dcl d68), some (.long (G b99)), none, some (.int (J 1)), some (.int (J x71)), some (.int (J x58)), d59]) rfl rfl rfl (xput2_d rfl rfl) ?_
                                  exact Q88 _ b97 b99 1 h94 t94 s94 (rgk rfl) w
                        exact Q73 _ _ b11 b57 x61 x66 h62 t62 s62 rx61 rx66 (Nat.lt_succ_self _) w
                      obtain ⟨J104, j104, w⟩ := w
                      have Q104 : ∀ (h103 : XH), HT h103 → HX h h103 → J104 h103 → RR sc goal fs 205 154 [some (rv 437), some (rv a1), some (.long (G b11)), none, some (.long (G b12)), none, some (rv a6), some (.int (J x10)), some (.int (J x13)), some (.int (J x49)), some (rv a50), some (.int (J x52)), some (.long (G b57)), none, some (rv a50), some (.int (J x56)), some (.int (J x58)), d59] [] h103 := by
                        intro h103 t103 s103 z104
                        have w := j104 h103 t103 s103 z104
                        refine r_n (pc1 := 155) [.int (J 0)] _ rfl rfl ?_
                        exact Q63  0 h103 t103 s103 (rgk rfl) w
                      refine r_iz (t := 154) (pc1 := 137) rfl rfl rfl rx52 (fun c108 => ?_) (fun c108 => ?_)
                      · have w := w.1 c108
                        exact Q104   h51 t51 s51  w
                      · have w := w.2 c108
                        refine r_aldn (pc1 := 138) rfl rfl rfl ?_
                        refine r_n (pc1 := 139) [.long (G b11), rv 437] _ rfl rfl ?_
                        refine r_n (pc1 := 141) [.long (G b12), .long (G b11), rv 437] _ rfl rfl ?_
                        refine r_n (pc1 := 143) [.long (G b57), .long (G b12), .long (G b11), rv 437] _ rfl rfl ?_
                        refine r_lor (pc1 := 144) rfl rfl ?_
                        refine r_iv rfl rfl rfl rfl rfl rfl t51 (lyk t51 rfl) rfl (xe_of (xa_r (xa_l (xa_l xa_0))) rfl rfl) (r_d0 hd rfl) (a_X14_canHold b11 (b12 ||| b57) (r_d1 hd rfl)  w t51 (fun x105 h106 t106 u106 rx105 vx105 w => ?_))
                        refine r_fI (pc1 := 147) rfl ?_
                        have s106 := HX_trans s51 u106
                        have w := w t106 u106
                        have w := w rx105 vx105
                        refine r_iz (t := 154) (pc1 := 150) rfl rfl rfl rx105 (fun c107 => ?_) (fun c107 => ?_)
                        · have w := w.1 c107
                          exact Q104   h106 t106 s106  w
                        · have w := w.2 c107
                          refine r_n (pc1 := 151) [.int (J 1)] _ rfl rfl ?_
                          refine r_goto (t := 155) rfl rfl ?_
                          exact Q63  1 h106 t106 s106 (rgk rfl) w
                    · have w := w.2 c114
                      refine r_ald (pc1 := 111) rfl rfl rfl ?_
                      refine r_n (pc1 := 113) [.int (J x58), rv a50] _ rfl rfl ?_
                      obtain ⟨c109, w⟩ := w
                      refine r_ial (pc1 := 114) rfl rfl t51 c54 rx58 c109.1 c109.2 ?_
                      refine r_vI (rgh _ _ _) (fun x110 ex110 rx110 => ?_)
                      have w := w x110 ex110 rx110
                      refine r_ist (pc1 := 116) (ls1 := [some (rv 437), some (rv a1), some (.long (G b11)), none, some (.long (G b12)), none, some (rv a6), some (.int (J x10)), some (.int (J x13)), some (.int (J x49)), some (rv a50), some (.int (J x52)), some (.long (G b57)), none, some (rv a50), some (.int (J x56)), some (.int (J x58)), some (.int (J x110))]) rfl rfl rfl rfl ?_
                      refine r_n (pc1 := 118) [.long (G b57)] _ rfl rfl ?_
                      refine r_n (pc1 := 120) [.int (J x110), .long (G b57)] _ rfl rfl ?_
                      refine r_iq rfl rfl rfl rfl rfl rfl (xe_of (xa_i xa_0) rfl rfl) (r_d0 hd rfl) (a_X14_bit x110 (r_d1 hd rfl) rx110 w t51 (fun b111 w => ?_))
                      refine r_fL (pc1 := 123) rfl ?_
                      refine r_lor (pc1 := 124) rfl rfl ?_
                      refine r_vL (fun b112 eb112 => ?_)
                      have w := w b112 eb112
                      refine r_lst (pc1 := 126) (ls1 := [some (rv 437), some (rv a1), some (.long (G b11)), none, some (.long (G b12)), none, some (rv a6), some (.int (J x10)), some (.int (J x13)), some (.int (J x49)), some (rv a50), some (.int (J x52)), some (.long (G b112)), none, some (rv a50), some (.int (J x56)), some (.int (J x58)), some (.int (J x110))]) rfl rfl rfl rfl ?_
                      refine r_inc (pc1 := 129) (g := fun zz => [some (rv 437), some (rv a1), some (.long (G b11)), none, some (.long (G b12)), none, some (rv a6), some (.int (J x10)), some (.int (J x13)), some (.int (J x49)), some (rv a50), some (.int (J x52)), some (.long (G b112)), none, some (rv a50), some (.int (J x56)), some (.int (J zz)), some (.int (J x110))]) rfl rfl rfl rfl (fun _ => rfl) (fun x113 ex113 rx113 => ?_)
                      have w := w x113 ex113 rx113
                      refine r_goto (t := 102) rfl rfl ?_
                      exact ih60 _ b112 x113  rx113 (Nat.lt_of_lt_of_le w.2 (Nat.le_of_lt_succ q60)) w.1
                exact Q60 _ _ (0#64) 0  (rgk rfl) (Nat.lt_succ_self _) w
              refine r_ic (t := 84) (pc1 := 80) rfl rfl rfl (rgt _) (rgk rfl) (fun c115 => ?_) (fun c115 => ?_)
              · have w := w.1 c115
                refine r_n (pc1 := 85) [.int (J 0)] _ rfl rfl ?_
                exact Q53  0  (rgk rfl) w
              · have w := w.2 c115
                refine r_n (pc1 := 81) [.int (J 1)] _ rfl rfl ?_
                refine r_goto (t := 85) rfl rfl ?_
                exact Q53  1  (rgk rfl) w
        exact Q24 _ _ _ _ _ _ _ _ _ _ (0#64) (0#64) 0 h7 t7 s7 (rgk rfl) (Nat.lt_succ_self _) w
      · have w := w.2 c121
        refine r_aldn (pc1 := 21) rfl rfl rfl ?_
        refine r_n (pc1 := 23) [.int (J x3), rv a1] _ rfl rfl ?_
        refine r_n (pc1 := 24) [.int (J (-1)), .int (J x3), rv a1] _ rfl rfl ?_
        obtain ⟨c117, w⟩ := w
        obtain ⟨c118, w⟩ := w
        refine r_iast (pc1 := 25) rfl rfl t4 c117 rx3 c118.1 c118.2 (fun h119 eh119 t119 u119 => ?_)
        have w := w h119 eh119 t119 u119
        have s119 := HX_trans s4 u119
        refine r_inc (pc1 := 28) (g := fun zz => [some (rv 437), some (rv a1), some (.long (G (0#64))), none, some (.long (G (0#64))), none, some (.int (J zz)), none, none, none, none, none, none, none, none, none, none, none]) rfl rfl rfl rfl (fun _ => rfl) (fun x120 ex120 rx120 => ?_)
        have w := w x120 ex120 rx120
        refine r_goto (t := 13) rfl rfl ?_
        exact ih5  x120 h119 t119 s119 rx120 (Nat.lt_of_lt_of_le w.2 (Nat.le_of_lt_succ q5)) w.1
  exact Q5 _  0 h2 t2 s2 (rgk rfl) (Nat.lt_succ_self _) w
def w_X14_found (p0 : Int) (K : Nat → XH → Prop) (h : XH) : Prop :=
  (w_X14_fitsAny (fun x1 h2 => HT h2 → HX h h2 → rg x1 → (x1 = 0 ∨ x1 = 1) → (((¬ x1 = 0 → (∃ J4 : XH → Prop, (∀ (h3 : XH), HT h3 → HX h h3 → J4 h3 → (w_X14_firstSet (fun a5 h6 => HT h6 → HX h3 h6 → (∀ h7 : XH, h7 = sI h6 437 33 (-1) → HT h7 → HX h6 h7 → K a5 h7)) h3)) ∧ ((p0 = 0 → J4 h2) ∧ (¬ (p0 = 0) → (w_X14_installedSet (fun a8 h9 => HT h9 → HX h2 h9 → (∀ h10 : XH, h10 = sR h9 437 34 a8 → HT h10 → HX h9 h10 → ∀ h11 : XH, h11 = sI h10 437 33 0 → HT h11 → HX h10 h11 → (∃ (I13 : XH → Prop) (m13 : XH → Nat), I13 h11 ∧ ∀ (h12 : XH), HT h12 → HX h h12 → I13 h12 → (w_X14_canHold (0#64) (0#64) (fun x14 h15 => HT h15 → HX h12 h15 → rg x14 → (x14 = 0 ∨ x14 = 1) → (((¬ x14 = 0 → J4 h15) ∧ (¬ (¬ x14 = 0) → (∀ h16 : XH, h16 = sI h15 437 33 (wr ((hI h15 437 33) + 1)) → HT h16 → HX h15 h16 → (I13 h16 ∧ m13 h16 < m13 h12)))))) h12)))) h2))))) ∧ (¬ (¬ x1 = 0) → (K 0 h2))))) h)
set_option maxHeartbeats 4000000 in
theorem a_X14_found {sc : Nat × (Nat → Int32)} {goal : XO → XH → Prop} {fs : List XF} {h : XH} (p0 : Int) {K : Nat → XH → Prop} (hd : fs.length + 77 ≤ 1000) (rp0 : rg p0) (w : w_X14_found p0 K h) (t0 : HT h) (k : ∀ (r : Nat) (h1 : XH), HT h1 → HX h h1 → K r h1 → XFin xP sc goal fs (.inl (some (rv r))) h1) : RR sc goal fs 209 0 [some (rv 437), some (.int (J p0)), none] [] h := by
  unfold w_X14_found at w
  refine r_aldn (pc1 := 1) rfl rfl rfl ?_
  refine r_iv rfl rfl rfl rfl rfl rfl t0 (lyk t0 rfl) rfl (xe_of (xa_r xa_0) rfl rfl) (r_d0 hd rfl) (a_X14_fitsAny  (r_d1 hd rfl)  w t0 (fun x1 h2 t2 u2 rx1 vx1 w => ?_))
  refine r_fI (pc1 := 4) rfl ?_
  have s2 := HX_trans (HX_refl h) u2
  have w := w t2 u2
  have w := w rx1 vx1
  refine r_iz (t := 9) (pc1 := 7) rfl rfl rfl rx1 (fun c19 => ?_) (fun c19 => ?_)
  · have w := w.1 c19
    refine r_n (pc1 := 10) [.int (J p0)] _ rfl rfl ?_
    obtain ⟨J4, j4, w⟩ := w
    have Q4 : ∀ (h3 : XH), HT h3 → HX h h3 → J4 h3 → RR sc goal fs 209 48 [some (rv 437), some (.int (J p0)), none] [] h3 := by
      intro h3 t3 s3 z4
      have w := j4 h3 t3 s3 z4
      refine r_aldn (pc1 := 49) rfl rfl rfl ?_
      refine r_iv rfl rfl rfl rfl rfl rfl t3 (lyk t3 rfl) rfl (xe_of (xa_r xa_0) rfl rfl) (r_d0 hd rfl) (a_X14_firstSet  (r_d1 hd rfl)  w t3 (fun a5 h6 t6 u6 w => ?_))
      refine r_fR (pc1 := 52) rfl ?_
      have s6 := HX_trans s3 u6
      have w := w t6 u6
      refine r_astn (pc1 := 53) (ls1 := [some (rv 437), some (.int (J p0)), some (rv a5)]) rfl rfl rfl rfl ?_
      refine r_aldn (pc1 := 54) rfl rfl rfl ?_
      refine r_n (pc1 := 55) [.int (J (-1)), rv 437] _ rfl rfl ?_
      refine r_pfI (pc1 := 58) rfl rfl rfl t6 (lyk t6 rfl) rfl rfl rfl (fun h7 eh7 t7 u7 => ?_)
      have w := w h7 eh7 t7 u7
      have s7 := HX_trans s6 u7
      refine r_aldn (pc1 := 59) rfl rfl rfl ?_
      exact r_retR rfl rfl rfl xok_A xokr_A (k _ _ t7 s7 w)
    refine r_iz (t := 48) (pc1 := 13) rfl rfl rfl rp0 (fun c18 => ?_) (fun c18 => ?_)
    · have w := w.1 c18
      exact Q4   h2 t2 s2  w
    · have w := w.2 c18
      refine r_aldn (pc1 := 14) rfl rfl rfl ?_
      refine r_aldn (pc1 := 15) rfl rfl rfl ?_
      refine r_iv rfl rfl rfl rfl rfl rfl t2 (lyk t2 rfl) rfl (xe_of (xa_r xa_0) rfl rfl) (r_d0 hd rfl) (a_X14_installedSet  (r_d1 hd rfl)  w t2 (fun a8 h9 t9 u9 w => ?_))
      refine r_fR (pc1 := 18) rfl ?_
      have s9 := HX_trans s2 u9
      have w := w t9 u9
      refine r_pfA (pc1 := 21) rfl rfl rfl t9 (lyk t9 rfl) rfl rfl rfl (fun h10 eh10 t10 u10 => ?_)
      have w := w h10 eh10 t10 u10
      have s10 := HX_trans s9 u10
      refine r_aldn (pc1 := 22) rfl rfl rfl ?_
      refine r_n (pc1 := 23) [.int (J 0), rv 437] _ rfl rfl ?_
      refine r_pfI (pc1 := 26) rfl rfl rfl t10 (lyk t10 rfl) rfl rfl rfl (fun h11 eh11 t11 u11 => ?_)
      have w := w h11 eh11 t11 u11
      have s11 := HX_trans s10 u11
      obtain ⟨I13, m13, w, y13⟩ := w
      have Q13 : ∀ (n : Nat)  (h12 : XH), HT h12 → HX h h12 → m13 h12 < n → I13 h12 → RR sc goal fs 209 26 [some (rv 437), some (.int (J p0)), none] [] h12 := by
        intro n
        induction n with
        | zero => intro h12 t12 s12 q13 _; exact absurd q13 (Nat.not_lt_zero _)
        | succ n ih13 =>
          intro h12 t12 s12 q13 z13
          have w := y13 h12 t12 s12 z13
          refine r_aldn (pc1 := 27) rfl rfl rfl ?_
          refine r_n (pc1 := 28) [.long (G (0#64)), rv 437] _ rfl rfl ?_
          refine r_n (pc1 := 29) [.long (G (0#64)), .long (G (0#64)), rv 437] _ rfl rfl ?_
          refine r_iv rfl rfl rfl rfl rfl rfl t12 (lyk t12 rfl) rfl (xe_of (xa_r (xa_l (xa_l xa_0))) rfl rfl) (r_d0 hd rfl) (a_X14_canHold (0#64) (0#64) (r_d1 hd rfl)  w t12 (fun x14 h15 t15 u15 rx14 vx14 w => ?_))
          refine r_fI (pc1 := 32) rfl ?_
          have s15 := HX_trans s12 u15
          have w := w t15 u15
          have w := w rx14 vx14
          refine r_iz (t := 48) (pc1 := 35) rfl rfl rfl rx14 (fun c17 => ?_) (fun c17 => ?_)
          · have w := w.1 c17
            exact Q4   h15 t15 s15  w
          · have w := w.2 c17
            refine r_aldn (pc1 := 36) rfl rfl rfl ?_
            refine r_dupR (pc1 := 37) rfl rfl ?_
            refine r_gfI (pc1 := 40) rfl rfl rfl t15 (lyk t15 rfl) rfl rfl ?_
            refine r_n (pc1 := 41) [.int (J 1), .int (J (hI h15 437 33)), rv 437] _ rfl rfl ?_
            refine r_iadd (pc1 := 42) rfl rfl ?_
            refine r_pfI (pc1 := 45) rfl rfl rfl t15 (lyk t15 rfl) rfl rfl rfl (fun h16 eh16 t16 u16 => ?_)
            have w := w h16 eh16 t16 u16
            have s16 := HX_trans s15 u16
            refine r_goto (t := 26) rfl rfl ?_
            exact ih13   h16 t16 s16  (Nat.lt_of_lt_of_le w.2 (Nat.le_of_lt_succ q13)) w.1
      exact Q13 _   h11 t11 s11  (Nat.lt_succ_self _) w
  · have w := w.2 c19
    refine r_n (pc1 := 8) [rv 0] _ rfl rfl ?_
    exact r_retR rfl rfl rfl xok_A xokr_A (k _ _ t2 s2 w)
def w_X14_putGoal (p0 : Nat) (K : XH → Prop) (h : XH) : Prop :=
  (hk h p0 = 100 ∧ (¬ p0 = 438 ∧ (0 : Int) ≤ 0 ∧ (0 : Int) ≤ wr ((wr (805 + (wr ((hI h 438 1) * 291)))) + 35) ∧ (0 : Int) ≤ 12 ∧ ((0 + 12 : Int)) ≤ (hn h p0 : Int) ∧ (((wr ((wr (805 + (wr ((hI h 438 1) * 291)))) + 35)) + 12 : Int)) ≤ 1957) ∧ ∀ h3 : XH, h3 = cA h p0 0 438 (wr ((wr (805 + (wr ((hI h 438 1) * 291)))) + 35)).toNat 12 → HT h3 → HX h h3 → K h3)
set_option maxHeartbeats 4000000 in
theorem a_X14_putGoal {sc : Nat × (Nat → Int32)} {goal : XO → XH → Prop} {fs : List XF} {h : XH} (p0 : Nat) {K : XH → Prop} (hd : fs.length + 0 ≤ 1000) (w : w_X14_putGoal p0 K h) (t0 : HT h) (k : ∀ (h1 : XH), HT h1 → HX h h1 → K h1 → XFin xP sc goal fs (.inl none) h1) : RR sc goal fs 277 0 [some (rv 437), some (rv p0)] [] h := by
  unfold w_X14_putGoal at w
  refine r_aldn (pc1 := 1) rfl rfl rfl ?_
  refine r_n (pc1 := 2) [.int (J 0), rv p0] _ rfl rfl ?_
  refine r_aldn (pc1 := 3) rfl rfl rfl ?_
  refine r_gfC (pc1 := 6) (q := 438) rfl rfl rfl t0 (lyk t0 rfl) rfl rfl (lyR t0 rfl rfl) ?_
  refine r_n (pc1 := 9) [.int (J 805), rv 438, .int (J 0), rv p0] _ rfl rfl ?_
  refine r_aldn (pc1 := 10) rfl rfl rfl ?_
  refine r_gfC (pc1 := 13) (q := 438) rfl rfl rfl t0 (lyk t0 rfl) rfl rfl (lyR t0 rfl rfl) ?_
  refine r_n (pc1 := 14) [.int (J 1), rv 438, .int (J 805), rv 438, .int (J 0), rv p0] _ rfl rfl ?_
  refine r_ial (pc1 := 15) rfl rfl t0 (lyk t0 rfl) (rgk rfl) (by decide) (lt_len (lyn t0 rfl) (by decide)) ?_
  refine r_n (pc1 := 18) [.int (J 291), .int (J (hI h 438 1)), .int (J 805), rv 438, .int (J 0), rv p0] _ rfl rfl ?_
  refine r_imul (pc1 := 19) rfl rfl ?_
  refine r_iadd (pc1 := 20) rfl rfl ?_
  refine r_n (pc1 := 22) [.int (J 35), .int (J (wr (805 + (wr ((hI h 438 1) * 291))))), rv 438, .int (J 0), rv p0] _ rfl rfl ?_
  refine r_iadd (pc1 := 23) rfl rfl ?_
  refine r_n (pc1 := 25) [.int (J 12), .int (J (wr ((wr (805 + (wr ((hI h 438 1) * 291)))) + 35))), rv 438, .int (J 0), rv p0] _ rfl rfl ?_
  obtain ⟨c1, w⟩ := w
  obtain ⟨c2, w⟩ := w
  refine r_cp (pc1 := 28) (u := 0) rfl rfl rfl rfl t0 c1 (lyk t0 rfl) (by decide) (rgk rfl) (rgw _) (rgk rfl) rfl (lyn t0 rfl) c2 (fun h3 eh3 t3 u3 => ?_)
  have w := w h3 eh3 t3 u3
  have s3 := HX_trans (HX_refl h) u3
  exact r_retV rfl rfl rfl (k _ t3 s3 w)
