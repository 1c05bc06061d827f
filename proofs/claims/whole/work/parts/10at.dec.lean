/-! printed by dec.py: what each method wants, and that the machine keeps it -/ 
def w_X14_findProof  (K : XH → Prop) (h : XH) : Prop :=
  (w_X14_findCore (fun h1 => HT h1 → HX h h1 → (((¬ hI h1 437 46 = hI h1 437 4 → (∀ h2 : XH, h2 = sI h1 437 46 (hI h1 437 4) → HT h2 → HX h1 h2 → ∀ h3 : XH, h3 = sI h2 437 47 0 → HT h3 → HX h2 h3 → ∀ h4 : XH, h4 = sI h3 437 56 0 → HT h4 → HX h3 h4 → hk h4 (hR h4 437 45) = 100 ∧ (hn h4 (hR h4 437 45) : Int) < 2147483648 ∧ ((¬ (hn h4 (hR h4 437 45) : Int) = 0 → ((hn h4 (hR h4 437 45) : Int) < 2147483648 ∧ (((hn h4 (hR h4 437 45) : Int) ≤ 200 → (∀ a8 : Nat, a8 = hR h4 437 45 → (hn h4 a8 : Int) < 2147483648 ∧ ∀ x10 : Int, x10 = (hn h4 a8 : Int) → rg x10 → (∃ (I15 : Int → Int → XH → Prop) (m15 : Int → Int → XH → Nat), I15 0 0 h4 ∧ ∀ (x11 : Int) (x12 : Int) (h14 : XH), HT h14 → HX h h14 → rg x11 → rg x12 → I15 x11 x12 h14 → (((x10 ≤ x12 → (∃ (I19 : Int → XH → Prop) (m19 : Int → XH → Nat), I19 x11 h14 ∧ ∀ (x16 : Int) (h18 : XH), HT h18 → HX h h18 → rg x16 → I19 x16 h18 → (((¬ x16 = 0 → (w_X14_leaveOut (fun h20 => HT h20 → HX h18 h20 → (K h20)) h18)) ∧ (¬ (¬ x16 = 0) → (w_X14_bestPair (fun x21 => rg x21 → (∃ J22 : Prop, (J22 → (∀ h23 : XH, h23 = sI h18 437 47 (-1) → HT h23 → HX h18 h23 → K h23)) ∧ ((x21 = (-1) → J22) ∧ (¬ (x21 = (-1)) → (((¬ hI h18 437 47 = 200 → (hk h18 (hR h18 437 52) = 101 ∧ (0 ≤ x21 ∧ x21 < (hn h18 (hR h18 437 52) : Int)) ∧ ∃ J27 : Int → Prop, (∀ (x26 : Int), rg x26 → J27 x26 → (hk h18 (hR h18 437 53) = 101 ∧ (0 ≤ x21 ∧ x21 < (hn h18 (hR h18 437 53) : Int)) ∧ hk h18 (hR h18 437 54) = 100 ∧ (0 ≤ x21 ∧ x21 < (hn h18 (hR h18 437 54) : Int)) ∧ hk h18 (hR h18 437 55) = 100 ∧ (0 ≤ x21 ∧ x21 < (hn h18 (hR h18 437 55) : Int)) ∧ w_X14_addRow (hL h18 (hR h18 437 52) x21.toNat) (hL h18 (hR h18 437 53) x21.toNat) (hI h18 (hR h18 437 54) x21.toNat) (hI h18 (hR h18 437 55) x21.toNat) (fun h34 => HT h34 → HX h18 h34 → ((I19 x26 h34 ∧ m19 x26 h34 < m19 x16 h18))) h18)) ∧ ∃ J35 : Prop, (J35 → (J27 0)) ∧ ((¬ hL h18 (hR h18 437 52) x21.toNat = (0#64) → J35) ∧ (¬ (¬ hL h18 (hR h18 437 52) x21.toNat = (0#64)) → (hk h18 (hR h18 437 53) = 101 ∧ (0 ≤ x21 ∧ x21 < (hn h18 (hR h18 437 53) : Int)) ∧ ((¬ hL h18 (hR h18 437 53) x21.toNat = (0#64) → J35) ∧ (¬ (¬ hL h18 (hR h18 437 53) x21.toNat = (0#64)) → (J27 1)))))))) ∧ (¬ (¬ hI h18 437 47 = 200) → J22))))))) h18)))))) ∧ (¬ (x10 ≤ x12) → (hk h14 a8 = 100 ∧ (0 ≤ x12 ∧ x12 < (hn h14 a8 : Int)) ∧ ∀ x45 : Int, x45 = hI h14 a8 x12.toNat → rg x45 → hk h14 (hR h14 437 24) = 101 ∧ (0 ≤ x45 ∧ x45 < (hn h14 (hR h14 437 24) : Int)) ∧ hk h14 (hR h14 437 25) = 101 ∧ (0 ≤ x45 ∧ x45 < (hn h14 (hR h14 437 25) : Int)) ∧ w_X14_addRow (hL h14 (hR h14 437 24) x45.toNat) (hL h14 (hR h14 437 25) x45.toNat) (-1) (-1) (fun h50 => HT h50 → HX h14 h50 → (∃ J52 : Int → Prop, (∀ (x51 : Int), rg x51 → J52 x51 → (∀ x53 : Int, x53 = wr (x12 + 1) → rg x53 → (I15 x51 x53 h50 ∧ m15 x51 x53 h50 < m15 x11 x12 h14))) ∧ ∃ J54 : Prop, (J54 → (J52 1)) ∧ ((¬ x11 = 0 → J54) ∧ (¬ (¬ x11 = 0) → (hk h50 (hR h50 437 24) = 101 ∧ (0 ≤ x45 ∧ x45 < (hn h50 (hR h50 437 24) : Int)) ∧ ∃ J57 : Prop, (J57 → (J52 0)) ∧ ((¬ hL h50 (hR h50 437 24) x45.toNat = (0#64) → J57) ∧ (¬ (¬ hL h50 (hR h50 437 24) x45.toNat = (0#64)) → (hk h50 (hR h50 437 25) = 101 ∧ (0 ≤ x45 ∧ x45 < (hn h50 (hR h50 437 25) : Int)) ∧ ((¬ hL h50 (hR h50 437 25) x45.toNat = (0#64) → J57) ∧ (¬ (¬ hL h50 (hR h50 437 25) x45.toNat = (0#64)) → J54)))))))))) h14))))))) ∧ (¬ ((hn h4 (hR h4 437 45) : Int) ≤ 200) → (∀ h64 : XH, h64 = sI h4 437 47 (-1) → HT h64 → HX h4 h64 → K h64))))) ∧ (¬ (¬ (hn h4 (hR h4 437 45) : Int) = 0) → (K h4))))) ∧ (¬ (¬ hI h1 437 46 = hI h1 437 4) → (K h1))))) h)
set_option maxHeartbeats 4000000 in
theorem a_X14_findProof {sc : Nat × (Nat → Int32)} {goal : XO → XH → Prop} {fs : List XF} {h : XH}  {K : XH → Prop} (hd : fs.length + 78 ≤ 1000) (w : w_X14_findProof  K h) (t0 : HT h) (k : ∀ (h1 : XH), HT h1 → HX h h1 → K h1 → XFin xP sc goal fs (.inl none) h1) : RR sc goal fs 201 0 [some (rv 437), none, none, none, none, none] [] h := by
  unfold w_X14_findProof at w
  refine r_aldn (pc1 := 1) rfl rfl rfl ?_
  refine r_iv rfl rfl rfl rfl rfl rfl t0 (lyk t0 rfl) rfl (xe_of (xa_r xa_0) rfl rfl) (r_d0 hd rfl) (a_X14_findCore  (r_d1 hd rfl)  w t0 (fun h1 t1 u1 w => ?_))
  refine r_fV (pc1 := 4) rfl ?_
  have s1 := HX_trans (HX_refl h) u1
  have w := w t1 u1
  refine r_aldn (pc1 := 5) rfl rfl rfl ?_
  refine r_gfI (pc1 := 8) rfl rfl rfl t1 (lyk t1 rfl) rfl rfl ?_
  refine r_aldn (pc1 := 9) rfl rfl rfl ?_
  refine r_gfI (pc1 := 12) rfl rfl rfl t1 (lyk t1 rfl) rfl rfl ?_
  refine r_ic (t := 16) (pc1 := 15) rfl rfl rfl (rgh _ _ _) (rgh _ _ _) (fun c67 => ?_) (fun c67 => ?_)
  · have w := w.1 c67
    refine r_aldn (pc1 := 17) rfl rfl rfl ?_
    refine r_aldn (pc1 := 18) rfl rfl rfl ?_
    refine r_gfI (pc1 := 21) rfl rfl rfl t1 (lyk t1 rfl) rfl rfl ?_
    refine r_pfI (pc1 := 24) rfl rfl rfl t1 (lyk t1 rfl) rfl rfl rfl (fun h2 eh2 t2 u2 => ?_)
    have w := w h2 eh2 t2 u2
    have s2 := HX_trans s1 u2
    refine r_aldn (pc1 := 25) rfl rfl rfl ?_
    refine r_n (pc1 := 26) [.int (J 0), rv 437] _ rfl rfl ?_
    refine r_pfI (pc1 := 29) rfl rfl rfl t2 (lyk t2 rfl) rfl rfl rfl (fun h3 eh3 t3 u3 => ?_)
    have w := w h3 eh3 t3 u3
    have s3 := HX_trans s2 u3
    refine r_aldn (pc1 := 30) rfl rfl rfl ?_
    refine r_n (pc1 := 31) [.int (J 0), rv 437] _ rfl rfl ?_
    refine r_pfI (pc1 := 34) rfl rfl rfl t3 (lyk t3 rfl) rfl rfl rfl (fun h4 eh4 t4 u4 => ?_)
    have w := w h4 eh4 t4 u4
    have s4 := HX_trans s3 u4
    refine r_aldn (pc1 := 35) rfl rfl rfl ?_
    refine r_gfR (pc1 := 38) rfl rfl rfl t4 (lyk t4 rfl) rfl rfl ?_
    obtain ⟨c5, w⟩ := w
    obtain ⟨c6, w⟩ := w
    refine r_len (pc1 := 39) (u := 0) rfl rfl t4 c5 (by decide) (fun rc6 => ?_) c6
    refine r_iz (t := 43) (pc1 := 42) rfl rfl rfl rc6 (fun c66 => ?_) (fun c66 => ?_)
    · have w := w.1 c66
      refine r_aldn (pc1 := 44) rfl rfl rfl ?_
      refine r_gfR (pc1 := 47) rfl rfl rfl t4 (lyk t4 rfl) rfl rfl ?_
      obtain ⟨c7, w⟩ := w
      refine r_len (pc1 := 48) (u := 0) rfl rfl t4 c5 (by decide) (fun rc7 => ?_) c7
      refine r_n (pc1 := 51) [.int (J 200), .int (J (hn h4 (hR h4 437 45) : Int))] _ rfl rfl ?_
      refine r_ic (t := 60) (pc1 := 54) rfl rfl rfl rc7 (rgk rfl) (fun c65 => ?_) (fun c65 => ?_)
      · have w := w.1 c65
        refine r_n (pc1 := 61) [.int (J 0)] _ rfl rfl ?_
        refine r_istn (pc1 := 62) (ls1 := [some (rv 437), some (.int (J 0)), none, none, none, none]) rfl rfl rfl rfl ?_
        refine r_aldn (pc1 := 63) rfl rfl rfl ?_
        refine r_gfR (pc1 := 66) rfl rfl rfl t4 (lyk t4 rfl) rfl rfl ?_
        refine r_vR (fun a8 ea8 => ?_)
        have w := w a8 ea8
        refine r_astn (pc1 := 67) (ls1 := [some (rv 437), some (.int (J 0)), some (rv a8), none, none, none]) rfl rfl rfl rfl ?_
        refine r_aldn (pc1 := 68) rfl rfl rfl ?_
        obtain ⟨c9, w⟩ := w
        refine r_len (pc1 := 69) (u := 0) rfl rfl t4 (ea8 ▸ c5) (by decide) (fun rc9 => ?_) c9
        refine r_vI rc9 (fun x10 ex10 rx10 => ?_)
        have w := w x10 ex10 rx10
        refine r_istn (pc1 := 70) (ls1 := [some (rv 437), some (.int (J 0)), some (rv a8), some (.int (J x10)), none, none]) rfl rfl rfl (xput1_rv rfl rfl) ?_
        refine r_n (pc1 := 71) [.int (J 0)] _ rfl rfl ?_
        refine r_ist (pc1 := 73) (ls1 := [some (rv 437), some (.int (J 0)), some (rv a8), some (.int (J x10)), some (.int (J 0)), none]) rfl rfl rfl rfl ?_
        obtain ⟨I15, m15, w, y15⟩ := w
        have Q15 : ∀ (n : Nat) (d13 : Option Value) (x11 : Int) (x12 : Int) (h14 : XH), HT h14 → HX h h14 → rg x11 → rg x12 → m15 x11 x12 h14 < n → I15 x11 x12 h14 → RR sc goal fs 201 73 [some (rv 437), some (.int (J x11)), some (rv a8), some (.int (J x10)), some (.int (J x12)), d13] [] h14 := by
          intro n
          induction n with
          | zero => intro d13 x11 x12 h14 t14 s14 rx11 rx12 q15 _; exact absurd q15 (Nat.not_lt_zero _)
          | succ n ih15 =>
            intro d13 x11 x12 h14 t14 s14 rx11 rx12 q15 z15
            have w := y15 x11 x12 h14 t14 s14 rx11 rx12 z15
            refine r_n (pc1 := 75) [.int (J x12)] _ rfl rfl ?_
            refine r_n (pc1 := 76) [.int (J x10), .int (J x12)] _ rfl rfl ?_
            refine r_ic (t := 145) (pc1 := 79) rfl rfl rfl rx12 rx10 (fun c63 => ?_) (fun c63 => ?_)
            · have w := w.1 c63
              obtain ⟨I19, m19, w, y19⟩ := w
              have Q19 : ∀ (n : Nat) (d17 : Option Value) (x16 : Int) (h18 : XH), HT h18 → HX h h18 → rg x16 → m19 x16 h18 < n → I19 x16 h18 → RR sc goal fs 201 145 [some (rv 437), some (.int (J x16)), d17, some (.int (J x10)), some (.int (J x12)), d13] [] h18 := by
                intro n
                induction n with
                | zero => intro d17 x16 h18 t18 s18 rx16 q19 _; exact absurd q19 (Nat.not_lt_zero _)
                | succ n ih19 =>
                  intro d17 x16 h18 t18 s18 rx16 q19 z19
                  have w := y19 x16 h18 t18 s18 rx16 z19
                  refine r_n (pc1 := 146) [.int (J x16)] _ rfl rfl ?_
                  refine r_iz (t := 234) (pc1 := 149) rfl rfl rfl rx16 (fun c42 => ?_) (fun c42 => ?_)
                  · have w := w.1 c42
                    refine r_aldn (pc1 := 235) rfl rfl rfl ?_
                    refine r_iv rfl rfl rfl rfl rfl rfl t18 (lyk t18 rfl) rfl (xe_of (xa_r xa_0) rfl rfl) (r_d0 hd rfl) (a_X14_leaveOut  (r_d1 hd rfl)  w t18 (fun h20 t20 u20 w => ?_))
                    refine r_fV (pc1 := 238) rfl ?_
                    have s20 := HX_trans s18 u20
                    have w := w t20 u20
                    exact r_retV rfl rfl rfl (k _ t20 s20 w)
                  · have w := w.2 c42
                    refine r_aldn (pc1 := 150) rfl rfl rfl ?_
                    refine r_iv rfl rfl rfl rfl rfl rfl t18 (lyk t18 rfl) rfl (xe_of (xa_r xa_0) rfl rfl) (r_d0 hd rfl) (a_X14_bestPair  (r_d1 hd rfl)  w t18 (fun x21 rx21 w => ?_))
                    refine r_fI (pc1 := 153) rfl ?_
                    have w := w rx21
                    refine r_istn (pc1 := 154) (ls1 := [some (rv 437), some (.int (J x16)), some (.int (J x21)), some (.int (J x10)), some (.int (J x12)), d13]) rfl rfl rfl rfl ?_
                    refine r_n (pc1 := 155) [.int (J x21)] _ rfl rfl ?_
                    refine r_n (pc1 := 156) [.int (J (-1)), .int (J x21)] _ rfl rfl ?_
                    obtain ⟨J22, j22, w⟩ := w
                    have Q22 : J22 → RR sc goal fs 201 169 [some (rv 437), some (.int (J x16)), some (.int (J x21)), some (.int (J x10)), some (.int (J x12)), d13] [] h18 := by
                      intro z22
                      have w := j22 z22
                      refine r_aldn (pc1 := 170) rfl rfl rfl ?_
                      refine r_n (pc1 := 171) [.int (J (-1)), rv 437] _ rfl rfl ?_
                      refine r_pfI (pc1 := 174) rfl rfl rfl t18 (lyk t18 rfl) rfl rfl rfl (fun h23 eh23 t23 u23 => ?_)
                      have w := w h23 eh23 t23 u23
                      have s23 := HX_trans s18 u23
                      exact r_retV rfl rfl rfl (k _ t23 s23 w)
                    refine r_ic (t := 169) (pc1 := 159) rfl rfl rfl rx21 (rgk rfl) (fun c41 => ?_) (fun c41 => ?_)
                    · have w := w.1 c41
                      exact Q22     w
                    · have w := w.2 c41
                      refine r_aldn (pc1 := 160) rfl rfl rfl ?_
                      refine r_gfI (pc1 := 163) rfl rfl rfl t18 (lyk t18 rfl) rfl rfl ?_
                      refine r_n (pc1 := 166) [.int (J 200), .int (J (hI h18 437 47))] _ rfl rfl ?_
                      refine r_ic (t := 175) (pc1 := 169) rfl rfl rfl (rgh _ _ _) (rgk rfl) (fun c40 => ?_) (fun c40 => ?_)
                      · have w := w.1 c40
                        refine r_aldn (pc1 := 176) rfl rfl rfl ?_
                        refine r_gfR (pc1 := 179) rfl rfl rfl t18 (lyk t18 rfl) rfl rfl ?_
                        refine r_n (pc1 := 180) [.int (J x21), rv (hR h18 437 52)] _ rfl rfl ?_
                        obtain ⟨c24, w⟩ := w
                        obtain ⟨c25, w⟩ := w
                        refine r_lal (pc1 := 181) rfl rfl t18 c24 rx21 c25.1 c25.2 ?_
                        refine r_n (pc1 := 182) [.long (G (0#64)), .long (G (hL h18 (hR h18 437 52) x21.toNat))] _ rfl rfl ?_
                        obtain ⟨J27, j27, w⟩ := w
                        have Q27 : ∀ (x26 : Int), rg x26 → J27 x26 → RR sc goal fs 201 202 [some (rv 437), some (.int (J x16)), some (.int (J x21)), some (.int (J x10)), some (.int (J x12)), d13] [.int (J x26)] h18 := by
                          intro x26 rx26 z27
                          have w := j27 x26 rx26 z27
                          refine r_istn (pc1 := 203) (ls1 := [some (rv 437), some (.int (J x26)), some (.int (J x21)), some (.int (J x10)), some (.int (J x12)), d13]) rfl rfl rfl rfl ?_
                          refine r_aldn (pc1 := 204) rfl rfl rfl ?_
                          refine r_aldn (pc1 := 205) rfl rfl rfl ?_
                          refine r_gfR (pc1 := 208) rfl rfl rfl t18 (lyk t18 rfl) rfl rfl ?_
                          refine r_n (pc1 := 209) [.int (J x21), rv (hR h18 437 52), rv 437] _ rfl rfl ?_
                          refine r_lal (pc1 := 210) rfl rfl t18 c24 rx21 c25.1 c25.2 ?_
                          refine r_aldn (pc1 := 211) rfl rfl rfl ?_
                          refine r_gfR (pc1 := 214) rfl rfl rfl t18 (lyk t18 rfl) rfl rfl ?_
                          refine r_n (pc1 := 215) [.int (J x21), rv (hR h18 437 53), .long (G (hL h18 (hR h18 437 52) x21.toNat)), rv 437] _ rfl rfl ?_
                          obtain ⟨c28, w⟩ := w
                          obtain ⟨c29, w⟩ := w
                          refine r_lal (pc1 := 216) rfl rfl t18 c28 rx21 c29.1 c29.2 ?_
                          refine r_aldn (pc1 := 217) rfl rfl rfl ?_
                          refine r_gfR (pc1 := 220) rfl rfl rfl t18 (lyk t18 rfl) rfl rfl ?_
                          refine r_n (pc1 := 221) [.int (J x21), rv (hR h18 437 54), .long (G (hL h18 (hR h18 437 53) x21.toNat)), .long (G (hL h18 (hR h18 437 52) x21.toNat)), rv 437] _ rfl rfl ?_
                          obtain ⟨c30, w⟩ := w
                          obtain ⟨c31, w⟩ := w
                          refine r_ial (pc1 := 222) rfl rfl t18 c30 rx21 c31.1 c31.2 ?_
                          refine r_aldn (pc1 := 223) rfl rfl rfl ?_
                          refine r_gfR (pc1 := 226) rfl rfl rfl t18 (lyk t18 rfl) rfl rfl ?_
                          refine r_n (pc1 := 227) [.int (J x21), rv (hR h18 437 55), .int (J (hI h18 (hR h18 437 54) x21.toNat)), .long (G (hL h18 (hR h18 437 53) x21.toNat)), .long (G (hL h18 (hR h18 437 52) x21.toNat)), rv 437] _ rfl rfl ?_
                          obtain ⟨c32, w⟩ := w
                          obtain ⟨c33, w⟩ := w
                          refine r_ial (pc1 := 228) rfl rfl t18 c32 rx21 c33.1 c33.2 ?_
                          refine r_iv rfl rfl rfl rfl rfl rfl t18 (lyk t18 rfl) rfl (xe_of (xa_r (xa_l (xa_l (xa_i (xa_i xa_0))))) rfl rfl) (r_d0 hd rfl) (a_X14_addRow (hL h18 (hR h18 437 52) x21.toNat) (hL h18 (hR h18 437 53) x21.toNat) (hI h18 (hR h18 437 54) x21.toNat) (hI h18 (hR h18 437 55) x21.toNat) (r_d1 hd rfl) (rgh _ _ _) (rgh _ _ _) w t18 (fun h34 t34 u34 w => ?_))
                          refine r_fV (pc1 := 231) rfl ?_
                          have s34 := HX_trans s18 u34
                          have w := w t34 u34
                          refine r_goto (t := 145) rfl rfl ?_
                          exact ih19 _ x26 h34 t34 s34 rx26 (Nat.lt_of_lt_of_le w.2 (Nat.le_of_lt_succ q19)) w.1
                        obtain ⟨J35, j35, w⟩ := w
                        have Q35 : J35 → RR sc goal fs 201 201 [some (rv 437), some (.int (J x16)), some (.int (J x21)), some (.int (J x10)), some (.int (J x12)), d13] [] h18 := by
                          intro z35
                          have w := j35 z35
                          refine r_n (pc1 := 202) [.int (J 0)] _ rfl rfl ?_
                          exact Q27  0  (rgk rfl) w
                        refine r_lc (pc2 := 183) (t := 201) (pc1 := 186) rfl rfl rfl rfl rfl (fun c39 => ?_) (fun c39 => ?_)
                        · have w := w.1 c39
                          exact Q35     w
                        · have w := w.2 c39
                          refine r_aldn (pc1 := 187) rfl rfl rfl ?_
                          refine r_gfR (pc1 := 190) rfl rfl rfl t18 (lyk t18 rfl) rfl rfl ?_
                          refine r_n (pc1 := 191) [.int (J x21), rv (hR h18 437 53)] _ rfl rfl ?_
                          obtain ⟨c36, w⟩ := w
                          obtain ⟨c37, w⟩ := w
                          refine r_lal (pc1 := 192) rfl rfl t18 c36 rx21 c37.1 c37.2 ?_
                          refine r_n (pc1 := 193) [.long (G (0#64)), .long (G (hL h18 (hR h18 437 53) x21.toNat))] _ rfl rfl ?_
                          refine r_lc (pc2 := 194) (t := 201) (pc1 := 197) rfl rfl rfl rfl rfl (fun c38 => ?_) (fun c38 => ?_)
                          · have w := w.1 c38
                            exact Q35     w
                          · have w := w.2 c38
                            refine r_n (pc1 := 198) [.int (J 1)] _ rfl rfl ?_
                            refine r_goto (t := 202) rfl rfl ?_
                            exact Q27  1  (rgk rfl) w
                      · have w := w.2 c40
                        exact Q22     w
              exact Q19 _ _ x11 h14 t14 s14 rx11 (Nat.lt_succ_self _) w
            · have w := w.2 c63
              refine r_aldn (pc1 := 80) rfl rfl rfl ?_
              refine r_n (pc1 := 82) [.int (J x12), rv a8] _ rfl rfl ?_
              obtain ⟨c43, w⟩ := w
              obtain ⟨c44, w⟩ := w
              refine r_ial (pc1 := 83) rfl rfl t14 c43 rx12 c44.1 c44.2 ?_
              refine r_vI (rgh _ _ _) (fun x45 ex45 rx45 => ?_)
              have w := w x45 ex45 rx45
              refine r_ist (pc1 := 85) (ls1 := [some (rv 437), some (.int (J x11)), some (rv a8), some (.int (J x10)), some (.int (J x12)), some (.int (J x45))]) rfl rfl rfl rfl ?_
              refine r_aldn (pc1 := 86) rfl rfl rfl ?_
              refine r_aldn (pc1 := 87) rfl rfl rfl ?_
              refine r_gfR (pc1 := 90) rfl rfl rfl t14 (lyk t14 rfl) rfl rfl ?_
              refine r_n (pc1 := 92) [.int (J x45), rv (hR h14 437 24), rv 437] _ rfl rfl ?_
              obtain ⟨c46, w⟩ := w
              obtain ⟨c47, w⟩ := w
              refine r_lal (pc1 := 93) rfl rfl t14 c46 rx45 c47.1 c47.2 ?_
              refine r_aldn (pc1 := 94) rfl rfl rfl ?_
              refine r_gfR (pc1 := 97) rfl rfl rfl t14 (lyk t14 rfl) rfl rfl ?_
              refine r_n (pc1 := 99) [.int (J x45), rv (hR h14 437 25), .long (G (hL h14 (hR h14 437 24) x45.toNat)), rv 437] _ rfl rfl ?_
              obtain ⟨c48, w⟩ := w
              obtain ⟨c49, w⟩ := w
              refine r_lal (pc1 := 100) rfl rfl t14 c48 rx45 c49.1 c49.2 ?_
              refine r_n (pc1 := 101) [.int (J (-1)), .long (G (hL h14 (hR h14 437 25) x45.toNat)), .long (G (hL h14 (hR h14 437 24) x45.toNat)), rv 437] _ rfl rfl ?_
              refine r_n (pc1 := 102) [.int (J (-1)), .int (J (-1)), .long (G (hL h14 (hR h14 437 25) x45.toNat)), .long (G (hL h14 (hR h14 437 24) x45.toNat)), rv 437] _ rfl rfl ?_
              refine r_iv rfl rfl rfl rfl rfl rfl t14 (lyk t14 rfl) rfl (xe_of (xa_r (xa_l (xa_l (xa_i (xa_i xa_0))))) rfl rfl) (r_d0 hd rfl) (a_X14_addRow (hL h14 (hR h14 437 24) x45.toNat) (hL h14 (hR h14 437 25) x45.toNat) (-1) (-1) (r_d1 hd rfl) (rgk rfl) (rgk rfl) w t14 (fun h50 t50 u50 w => ?_))
              refine r_fV (pc1 := 105) rfl ?_
              have s50 := HX_trans s14 u50
              have w := w t50 u50
              refine r_n (pc1 := 106) [.int (J x11)] _ rfl rfl ?_
              obtain ⟨J52, j52, w⟩ := w
              have Q52 : ∀ (x51 : Int), rg x51 → J52 x51 → RR sc goal fs 201 138 [some (rv 437), some (.int (J x11)), some (rv a8), some (.int (J x10)), some (.int (J x12)), some (.int (J x45))] [.int (J x51)] h50 := by
                intro x51 rx51 z52
                have w := j52 x51 rx51 z52
                refine r_istn (pc1 := 139) (ls1 := [some (rv 437), some (.int (J x51)), some (rv a8), some (.int (J x10)), some (.int (J x12)), some (.int (J x45))]) rfl rfl rfl rfl ?_
                refine r_inc (pc1 := 142) (g := fun zz => [some (rv 437), some (.int (J x51)), some (rv a8), some (.int (J x10)), some (.int (J zz)), some (.int (J x45))]) rfl rfl rfl rfl (fun _ => rfl) (fun x53 ex53 rx53 => ?_)
                have w := w x53 ex53 rx53
                refine r_goto (t := 73) rfl rfl ?_
                exact ih15 _ x51 x53 h50 t50 s50 rx51 rx53 (Nat.lt_of_lt_of_le w.2 (Nat.le_of_lt_succ q15)) w.1
              obtain ⟨J54, j54, w⟩ := w
              have Q54 : J54 → RR sc goal fs 201 133 [some (rv 437), some (.int (J x11)), some (rv a8), some (.int (J x10)), some (.int (J x12)), some (.int (J x45))] [] h50 := by
                intro z54
                have w := j54 z54
                refine r_n (pc1 := 134) [.int (J 1)] _ rfl rfl ?_
                refine r_goto (t := 138) rfl rfl ?_
                exact Q52  1  (rgk rfl) w
              refine r_iz (t := 133) (pc1 := 109) rfl rfl rfl rx11 (fun c62 => ?_) (fun c62 => ?_)
              · have w := w.1 c62
                exact Q54     w
              · have w := w.2 c62
                refine r_aldn (pc1 := 110) rfl rfl rfl ?_
                refine r_gfR (pc1 := 113) rfl rfl rfl t50 (lyk t50 rfl) rfl rfl ?_
                refine r_n (pc1 := 115) [.int (J x45), rv (hR h50 437 24)] _ rfl rfl ?_
                obtain ⟨c55, w⟩ := w
                obtain ⟨c56, w⟩ := w
                refine r_lal (pc1 := 116) rfl rfl t50 c55 rx45 c56.1 c56.2 ?_
                refine r_n (pc1 := 117) [.long (G (0#64)), .long (G (hL h50 (hR h50 437 24) x45.toNat))] _ rfl rfl ?_
                obtain ⟨J57, j57, w⟩ := w
                have Q57 : J57 → RR sc goal fs 201 137 [some (rv 437), some (.int (J x11)), some (rv a8), some (.int (J x10)), some (.int (J x12)), some (.int (J x45))] [] h50 := by
                  intro z57
                  have w := j57 z57
                  refine r_n (pc1 := 138) [.int (J 0)] _ rfl rfl ?_
                  exact Q52  0  (rgk rfl) w
                refine r_lc (pc2 := 118) (t := 137) (pc1 := 121) rfl rfl rfl rfl rfl (fun c61 => ?_) (fun c61 => ?_)
                · have w := w.1 c61
                  exact Q57     w
                · have w := w.2 c61
                  refine r_aldn (pc1 := 122) rfl rfl rfl ?_
                  refine r_gfR (pc1 := 125) rfl rfl rfl t50 (lyk t50 rfl) rfl rfl ?_
                  refine r_n (pc1 := 127) [.int (J x45), rv (hR h50 437 25)] _ rfl rfl ?_
                  obtain ⟨c58, w⟩ := w
                  obtain ⟨c59, w⟩ := w
                  refine r_lal (pc1 := 128) rfl rfl t50 c58 rx45 c59.1 c59.2 ?_
                  refine r_n (pc1 := 129) [.long (G (0#64)), .long (G (hL h50 (hR h50 437 25) x45.toNat))] _ rfl rfl ?_
                  refine r_lc (pc2 := 130) (t := 137) (pc1 := 133) rfl rfl rfl rfl rfl (fun c60 => ?_) (fun c60 => ?_)
                  · have w := w.1 c60
                    exact Q57     w
                  · have w := w.2 c60
                    exact Q54     w
        exact Q15 _ _ 0 0 h4 t4 s4 (rgk rfl) (rgk rfl) (Nat.lt_succ_self _) w
      · have w := w.2 c65
        refine r_aldn (pc1 := 55) rfl rfl rfl ?_
        refine r_n (pc1 := 56) [.int (J (-1)), rv 437] _ rfl rfl ?_
        refine r_pfI (pc1 := 59) rfl rfl rfl t4 (lyk t4 rfl) rfl rfl rfl (fun h64 eh64 t64 u64 => ?_)
        have w := w h64 eh64 t64 u64
        have s64 := HX_trans s4 u64
        exact r_retV rfl rfl rfl (k _ t64 s64 w)
    · have w := w.2 c66
      exact r_retV rfl rfl rfl (k _ t4 s4 w)
  · have w := w.2 c67
    exact r_retV rfl rfl rfl (k _ t1 s1 w)
def w_X14_proof  (K : Int → XH → Prop) (h : XH) : Prop :=
  (∀ h1 : XH, h1 = sI h 437 5 0 → HT h1 → HX h h1 → w_X14_findProof (fun h2 => HT h2 → HX h1 h2 → (K (hI h2 437 47) h2)) h1)
set_option maxHeartbeats 4000000 in
theorem a_X14_proof {sc : Nat × (Nat → Int32)} {goal : XO → XH → Prop} {fs : List XF} {h : XH}  {K : Int → XH → Prop} (hd : fs.length + 79 ≤ 1000) (w : w_X14_proof  K h) (t0 : HT h) (k : ∀ (r : Int) (h1 : XH), HT h1 → HX h h1 → rg r → K r h1 → XFin xP sc goal fs (.inl (some (.int (J r)))) h1) : RR sc goal fs 272 0 [some (rv 437)] [] h := by
  unfold w_X14_proof at w
  refine r_aldn (pc1 := 1) rfl rfl rfl ?_
  refine r_n (pc1 := 2) [.int (J 0), rv 437] _ rfl rfl ?_
  refine r_pfI (pc1 := 5) rfl rfl rfl t0 (lyk t0 rfl) rfl rfl rfl (fun h1 eh1 t1 u1 => ?_)
  have w := w h1 eh1 t1 u1
  have s1 := HX_trans (HX_refl h) u1
  refine r_aldn (pc1 := 6) rfl rfl rfl ?_
  refine r_iv rfl rfl rfl rfl rfl rfl t1 (lyk t1 rfl) rfl (xe_of (xa_r xa_0) rfl rfl) (r_d0 hd rfl) (a_X14_findProof  (r_d1 hd rfl)  w t1 (fun h2 t2 u2 w => ?_))
  refine r_fV (pc1 := 9) rfl ?_
  have s2 := HX_trans s1 u2
  have w := w t2 u2
  refine r_aldn (pc1 := 10) rfl rfl rfl ?_
  refine r_gfI (pc1 := 13) rfl rfl rfl t2 (lyk t2 rfl) rfl rfl ?_
  exact r_retI rfl rfl rfl (k _ _ t2 s2 (rgh _ _ _) w)
def w_X12_proofAt (p0 : Int) (p1 : Int) (K : Int → XH → Prop) (E : Nat → XH → Prop) (h : XH) : Prop :=
  (w_X12_know 4 (fun h1 => HT h1 → HX h h1 → (∃ J2 : Prop, (J2 → (E 2 (nT h1))) ∧ ((p0 < 0 → J2) ∧ (¬ (p0 < 0) → (((p0 < hI h1 70 5 → (((p1 < 0 ∨ 2 < p1 → (E 1 (nT h1))) ∧ (p1 = 0 → ((0 ≤ p0 ∧ p0 < 200) ∧ K (hI h1 75 p0.toNat) h1)) ∧ (p1 = 1 → ((0 ≤ p0 ∧ p0 < 200) ∧ K (hI h1 76 p0.toNat) h1)) ∧ (p1 = 2 → (w_X4_literalsOf p0 (fun x6 => rg x6 → (K x6 h1)) h1))))) ∧ (¬ (p0 < hI h1 70 5) → J2))))))) h)
set_option maxHeartbeats 4000000 in
theorem a_X12_proofAt {sc : Nat × (Nat → Int32)} {goal : XO → XH → Prop} {fs : List XF} {h : XH} (p0 : Int) (p1 : Int) {K : Int → XH → Prop} {E : Nat → XH → Prop} (hd : fs.length + 8 ≤ 1000) (rp0 : rg p0) (rp1 : rg p1) (w : w_X12_proofAt p0 p1 K E h) (t0 : HT h) (k : ∀ (r : Int) (h1 : XH), HT h1 → HX h h1 → rg r → K r h1 → XFin xP sc goal fs (.inl (some (.int (J r)))) h1) (kE : ∀ (x : Nat) (h1 : XH), HT h1 → HX h h1 → E x h1 → XFin xP sc goal fs (.inr x) h1) : RR sc goal fs 142 0 [some (rv 2), some (.int (J p0)), some (.int (J p1))] [] h := by
  unfold w_X12_proofAt at w
  refine r_aldn (pc1 := 1) rfl rfl rfl ?_
  refine r_n (pc1 := 2) [.int (J 4), rv 2] _ rfl rfl ?_
  refine r_iv rfl rfl rfl rfl rfl rfl t0 (lyk t0 rfl) rfl (xe_of (xa_r (xa_i xa_0)) rfl rfl) (r_d0 hd rfl) (a_X12_know 4 (r_d1 hd rfl) (rgk rfl) w t0 (fun h1 t1 u1 w => ?_))
  refine r_fV (pc1 := 5) rfl ?_
  have s1 := HX_trans (HX_refl h) u1
  have w := w t1 u1
  refine r_n (pc1 := 6) [.int (J p0)] _ rfl rfl ?_
  obtain ⟨J2, j2, w⟩ := w
  have Q2 : J2 → RR sc goal fs 142 20 [some (rv 2), some (.int (J p0)), some (.int (J p1))] [] h1 := by
    intro z2
    have w := j2 z2
    exact r_thr rfl rfl rfl rfl rfl rfl (kE _ _ (HT_nT t1).1 (HX_trans s1 (HT_nT t1).2) w)
  refine r_iz (t := 20) (pc1 := 9) rfl rfl rfl rp0 (fun c8 => ?_) (fun c8 => ?_)
  · have w := w.1 c8
    exact Q2     w
  · have w := w.2 c8
    refine r_n (pc1 := 10) [.int (J p0)] _ rfl rfl ?_
    refine r_aldn (pc1 := 11) rfl rfl rfl ?_
    refine r_gfC (pc1 := 14) (q := 70) rfl rfl rfl t1 (lyk t1 rfl) rfl rfl (lyR t1 rfl rfl) ?_
    refine r_gfI (pc1 := 17) rfl rfl rfl t1 (lyk t1 rfl) rfl rfl ?_
    refine r_ic (t := 31) (pc1 := 20) rfl rfl rfl rp0 (rgh _ _ _) (fun c7 => ?_) (fun c7 => ?_)
    · have w := w.1 c7
      refine r_n (pc1 := 32) [.int (J p1)] _ rfl rfl ?_
      refine r_tsw (t0 := 89) rfl rp1 rfl rfl (fun c3 => ?_) ?_
      · have w := w.1 c3
        exact r_thr rfl rfl rfl rfl rfl rfl (kE _ _ (HT_nT t1).1 (HX_trans s1 (HT_nT t1).2) w)
      have w := w.2
      refine ⟨fun c3 => ⟨60, rfl, ?_⟩, ⟨fun c3 => ⟨70, rfl, ?_⟩, ⟨fun c3 => ⟨80, rfl, ?_⟩, trivial⟩⟩⟩
      · have w := w.1 c3
        refine r_aldn (pc1 := 61) rfl rfl rfl ?_
        refine r_gfC (pc1 := 64) (q := 70) rfl rfl rfl t1 (lyk t1 rfl) rfl rfl (lyR t1 rfl rfl) ?_
        refine r_gfC (pc1 := 67) (q := 75) rfl rfl rfl t1 (lyk t1 rfl) rfl rfl (lyR t1 rfl rfl) ?_
        refine r_n (pc1 := 68) [.int (J p0), rv 75] _ rfl rfl ?_
        obtain ⟨c4, w⟩ := w
        refine r_ial (pc1 := 69) rfl rfl t1 (lyk t1 rfl) rp0 c4.1 (lt_len (lyn t1 rfl) c4.2) ?_
        exact r_retI rfl rfl rfl (k _ _ t1 s1 (rgh _ _ _) w)
      · have w := w.2.1 c3
        refine r_aldn (pc1 := 71) rfl rfl rfl ?_
        refine r_gfC (pc1 := 74) (q := 70) rfl rfl rfl t1 (lyk t1 rfl) rfl rfl (lyR t1 rfl rfl) ?_
        refine r_gfC (pc1 := 77) (q := 76) rfl rfl rfl t1 (lyk t1 rfl) rfl rfl (lyR t1 rfl rfl) ?_
        refine r_n (pc1 := 78) [.int (J p0), rv 76] _ rfl rfl ?_
        obtain ⟨c5, w⟩ := w
        refine r_ial (pc1 := 79) rfl rfl t1 (lyk t1 rfl) rp0 c5.1 (lt_len (lyn t1 rfl) c5.2) ?_
        exact r_retI rfl rfl rfl (k _ _ t1 s1 (rgh _ _ _) w)
      · have w := w.2.2 c3
        refine r_aldn (pc1 := 81) rfl rfl rfl ?_
        refine r_gfC (pc1 := 84) (q := 70) rfl rfl rfl t1 (lyk t1 rfl) rfl rfl (lyR t1 rfl rfl) ?_
        refine r_n (pc1 := 85) [.int (J p0), rv 70] _ rfl rfl ?_
        refine r_iv rfl rfl rfl rfl rfl rfl t1 (lyk t1 rfl) rfl (xe_of (xa_r (xa_i xa_0)) rfl rfl) (r_d0 hd rfl) (a_X4_literalsOf p0 (r_d1 hd rfl) rp0 w t1 (fun x6 rx6 w => ?_))
        refine r_fI (pc1 := 88) rfl ?_
        have w := w rx6
        exact r_retI rfl rfl rfl (k _ _ t1 s1 rx6 w)
    · have w := w.2 c7
      exact Q2     w
def w_L_proofAt (p1 : Int) (p2 : Int) (K : Int → XH → Prop) (h : XH) : Prop :=
  (w_X12_proofAt p1 p2 (fun x1 h2 => HT h2 → HX h h2 → rg x1 → (∀ h5 : XH, h5 = sL h2 467 0 (i2l x1) → HT h5 → HX h2 h5 → (K 0 h5))) (fun y4 h3 => ((y4 = 2 ∧ K 1 h3) ∨ (y4 = 1 ∧ K 2 h3))) h)
set_option maxHeartbeats 4000000 in
theorem a_L_proofAt {sc : Nat × (Nat → Int32)} {goal : XO → XH → Prop} {fs : List XF} {h : XH} (p1 : Int) (p2 : Int) {K : Int → XH → Prop} (hd : fs.length + 9 ≤ 1000) (rp1 : rg p1) (rp2 : rg p2) (w : w_L_proofAt p1 p2 K h) (t0 : HT h) (k : ∀ (r : Int) (h1 : XH), HT h1 → HX h h1 → rg r → K r h1 → XFin xP sc goal fs (.inl (some (.int (J r)))) h1) : RR sc goal fs 56 0 [some (rv 2), some (.int (J p1)), some (.int (J p2)), some (rv 467), none] [] h := by
  unfold w_L_proofAt at w
  refine r_aldn (pc1 := 1) rfl rfl rfl ?_
  refine r_n (pc1 := 2) [.int (J 0), rv 467] _ rfl rfl ?_
  refine r_aldn (pc1 := 3) rfl rfl rfl ?_
  refine r_n (pc1 := 4) [.int (J p1), rv 2, .int (J 0), rv 467] _ rfl rfl ?_
  refine r_n (pc1 := 5) [.int (J p2), .int (J p1), rv 2, .int (J 0), rv 467] _ rfl rfl ?_
  refine r_iv rfl rfl rfl rfl rfl rfl t0 (lyk t0 rfl) rfl (xe_of (xa_r (xa_i (xa_i xa_0))) rfl rfl) (r_d0 hd rfl) (a_X12_proofAt p1 p2 (r_d1 hd rfl) rp1 rp2 w t0 (fun x1 h2 t2 u2 rx1 w => ?_) (fun y4 h3 ty uy w => ?_))
  · refine r_fI (pc1 := 8) rfl ?_
    have s2 := HX_trans (HX_refl h) u2
    have w := w t2 u2
    have w := w rx1
    refine r_i2l (pc1 := 9) rfl rfl ?_
    refine r_last (pc1 := 10) rfl rfl t2 (lyk t2 rfl) (rgk rfl) (by decide) (lt_len (lyn t2 rfl) (by decide)) (fun h5 eh5 t5 u5 => ?_)
    have w := w h5 eh5 t5 u5
    have s5 := HX_trans s2 u5
    refine r_goto (t := 21) rfl rfl ?_
    refine r_n (pc1 := 22) [.int (J 0)] _ rfl rfl ?_
    exact r_retI rfl rfl rfl (k _ _ t5 s5 (rgk rfl) w)
  · rcases w with ⟨rfl, w⟩ | w
    · exact r_fink (z := 1) rfl (by decide) rfl rfl (k _ _ ty (HX_trans (HX_refl h) uy) (rgk rfl) w)
    obtain ⟨rfl, w⟩ := w
    exact r_fink (z := 2) rfl (by decide) rfl rfl (k _ _ ty (HX_trans (HX_refl h) uy) (rgk rfl) w)
def w_X14_proofAt (p0 : Int) (p1 : Int) (K : Int → XH → Prop) (h : XH) : Prop :=
  (∀ h1 : XH, h1 = sI h 437 5 0 → HT h1 → HX h h1 → w_X14_findProof (fun h2 => HT h2 → HX h1 h2 → (w_X14_within p0 0 (wr ((hI h2 437 47) - 1)) (fun x3 => rg x3 → (x3 = 0 ∨ x3 = 1) → (w_X14_refused x3 1 (fun x4 h5 => HT h5 → HX h2 h5 → rg x4 → (x4 = 0 ∨ x4 = 1) → (∃ J7 : XH → Prop, (∀ (h6 : XH), HT h6 → HX h h6 → J7 h6 → (K 0 h6)) ∧ ((¬ x4 = 0 → J7 h5) ∧ (¬ (¬ x4 = 0) → (w_X14_within p1 0 2 (fun x8 => rg x8 → (x8 = 0 ∨ x8 = 1) → (w_X14_refused x8 2 (fun x9 h10 => HT h10 → HX h5 h10 → rg x9 → (x9 = 0 ∨ x9 = 1) → (((x9 = 0 → (∃ J12 : Int → Prop, (∀ (x11 : Int), rg x11 → J12 x11 → (K x11 h10)) ∧ ((¬ p1 = 0 → (((¬ p1 = 1 → ((0 ≤ p0 ∧ p0 < 200) ∧ w_J13_bitCount_95d88 (hL h10 454 p0.toNat) (fun x14 => rg x14 → (w_J13_bitCount_95d88 (hL h10 455 p0.toNat) (fun x15 => rg x15 → (J12 (wr (x14 + x15)))) h10)) h10)) ∧ (¬ (¬ p1 = 1) → ((0 ≤ p0 ∧ p0 < 200) ∧ J12 (hI h10 457 p0.toNat)))))) ∧ (¬ (¬ p1 = 0) → ((0 ≤ p0 ∧ p0 < 200) ∧ J12 (hI h10 456 p0.toNat)))))) ∧ (¬ (x9 = 0) → J7 h10)))) h5)) h5))))) h2)) h2)) h1)
set_option maxHeartbeats 4000000 in
theorem a_X14_proofAt {sc : Nat × (Nat → Int32)} {goal : XO → XH → Prop} {fs : List XF} {h : XH} (p0 : Int) (p1 : Int) {K : Int → XH → Prop} (hd : fs.length + 79 ≤ 1000) (rp0 : rg p0) (rp1 : rg p1) (w : w_X14_proofAt p0 p1 K h) (t0 : HT h) (k : ∀ (r : Int) (h1 : XH), HT h1 → HX h h1 → rg r → K r h1 → XFin xP sc goal fs (.inl (some (.int (J r)))) h1) : RR sc goal fs 273 0 [some (rv 437), some (.int (J p0)), some (.int (J p1))] [] h := by
  unfold w_X14_proofAt at w
  refine r_aldn (pc1 := 1) rfl rfl rfl ?_
  refine r_n (pc1 := 2) [.int (J 0), rv 437] _ rfl rfl ?_
  refine r_pfI (pc1 := 5) rfl rfl rfl t0 (lyk t0 rfl) rfl rfl rfl (fun h1 eh1 t1 u1 => ?_)
  have w := w h1 eh1 t1 u1
  have s1 := HX_trans (HX_refl h) u1
  refine r_aldn (pc1 := 6) rfl rfl rfl ?_
  refine r_iv rfl rfl rfl rfl rfl rfl t1 (lyk t1 rfl) rfl (xe_of (xa_r xa_0) rfl rfl) (r_d0 hd rfl) (a_X14_findProof  (r_d1 hd rfl)  w t1 (fun h2 t2 u2 w => ?_))
  refine r_fV (pc1 := 9) rfl ?_
  have s2 := HX_trans s1 u2
  have w := w t2 u2
  refine r_aldn (pc1 := 10) rfl rfl rfl ?_
  refine r_n (pc1 := 11) [.int (J p0), rv 437] _ rfl rfl ?_
  refine r_n (pc1 := 12) [.int (J 0), .int (J p0), rv 437] _ rfl rfl ?_
  refine r_aldn (pc1 := 13) rfl rfl rfl ?_
  refine r_gfI (pc1 := 16) rfl rfl rfl t2 (lyk t2 rfl) rfl rfl ?_
  refine r_n (pc1 := 17) [.int (J 1), .int (J (hI h2 437 47)), .int (J 0), .int (J p0), rv 437] _ rfl rfl ?_
  refine r_isub (pc1 := 18) rfl rfl ?_
  refine r_iq rfl rfl rfl rfl rfl rfl (xe_of (xa_i (xa_i (xa_i xa_0))) rfl rfl) (r_d0 hd rfl) (a_X14_within p0 0 (wr ((hI h2 437 47) - 1)) (r_d1 hd rfl) rp0 (rgk rfl) (rgw _) w t2 (fun x3 rx3 vx3 w => ?_))
  refine r_fI (pc1 := 21) rfl ?_
  have w := w rx3 vx3
  refine r_n (pc1 := 22) [.int (J 1), .int (J x3), rv 437] _ rfl rfl ?_
  refine r_iv rfl rfl rfl rfl rfl rfl t2 (lyk t2 rfl) rfl (xe_of (xa_r (xa_i (xa_i xa_0))) rfl rfl) (r_d0 hd rfl) (a_X14_refused x3 1 (r_d1 hd rfl) rx3 (rgk rfl) w t2 (fun x4 h5 t5 u5 rx4 vx4 w => ?_))
  refine r_fI (pc1 := 25) rfl ?_
  have s5 := HX_trans s2 u5
  have w := w t5 u5
  have w := w rx4 vx4
  obtain ⟨J7, j7, w⟩ := w
  have Q7 : ∀ (h6 : XH), HT h6 → HX h h6 → J7 h6 → RR sc goal fs 273 42 [some (rv 437), some (.int (J p0)), some (.int (J p1))] [] h6 := by
    intro h6 t6 s6 z7
    have w := j7 h6 t6 s6 z7
    refine r_n (pc1 := 43) [.int (J 0)] _ rfl rfl ?_
    exact r_retI rfl rfl rfl (k _ _ t6 s6 (rgk rfl) w)
  refine r_iz (t := 42) (pc1 := 28) rfl rfl rfl rx4 (fun c21 => ?_) (fun c21 => ?_)
  · have w := w.1 c21
    exact Q7   h5 t5 s5  w
  · have w := w.2 c21
    refine r_aldn (pc1 := 29) rfl rfl rfl ?_
    refine r_n (pc1 := 30) [.int (J p1), rv 437] _ rfl rfl ?_
    refine r_n (pc1 := 31) [.int (J 0), .int (J p1), rv 437] _ rfl rfl ?_
    refine r_n (pc1 := 32) [.int (J 2), .int (J 0), .int (J p1), rv 437] _ rfl rfl ?_
    refine r_iq rfl rfl rfl rfl rfl rfl (xe_of (xa_i (xa_i (xa_i xa_0))) rfl rfl) (r_d0 hd rfl) (a_X14_within p1 0 2 (r_d1 hd rfl) rp1 (rgk rfl) (rgk rfl) w t5 (fun x8 rx8 vx8 w => ?_))
    refine r_fI (pc1 := 35) rfl ?_
    have w := w rx8 vx8
    refine r_n (pc1 := 36) [.int (J 2), .int (J x8), rv 437] _ rfl rfl ?_
    refine r_iv rfl rfl rfl rfl rfl rfl t5 (lyk t5 rfl) rfl (xe_of (xa_r (xa_i (xa_i xa_0))) rfl rfl) (r_d0 hd rfl) (a_X14_refused x8 2 (r_d1 hd rfl) rx8 (rgk rfl) w t5 (fun x9 h10 t10 u10 rx9 vx9 w => ?_))
    refine r_fI (pc1 := 39) rfl ?_
    have s10 := HX_trans s5 u10
    have w := w t10 u10
    have w := w rx9 vx9
    refine r_iz (t := 44) (pc1 := 42) rfl rfl rfl rx9 (fun c20 => ?_) (fun c20 => ?_)
    · have w := w.1 c20
      refine r_n (pc1 := 45) [.int (J p1)] _ rfl rfl ?_
      obtain ⟨J12, j12, w⟩ := w
      have Q12 : ∀ (x11 : Int), rg x11 → J12 x11 → RR sc goal fs 273 90 [some (rv 437), some (.int (J p0)), some (.int (J p1))] [.int (J x11)] h10 := by
        intro x11 rx11 z12
        have w := j12 x11 rx11 z12
        exact r_retI rfl rfl rfl (k _ _ t10 s10 rx11 w)
      refine r_iz (t := 57) (pc1 := 48) rfl rfl rfl rp1 (fun c19 => ?_) (fun c19 => ?_)
      · have w := w.1 c19
        refine r_n (pc1 := 58) [.int (J p1)] _ rfl rfl ?_
        refine r_n (pc1 := 59) [.int (J 1), .int (J p1)] _ rfl rfl ?_
        refine r_ic (t := 71) (pc1 := 62) rfl rfl rfl rp1 (rgk rfl) (fun c17 => ?_) (fun c17 => ?_)
        · have w := w.1 c17
          refine r_aldn (pc1 := 72) rfl rfl rfl ?_
          refine r_gfC (pc1 := 75) (q := 454) rfl rfl rfl t10 (lyk t10 rfl) rfl rfl (lyR t10 rfl rfl) ?_
          refine r_n (pc1 := 76) [.int (J p0), rv 454] _ rfl rfl ?_
          obtain ⟨c13, w⟩ := w
          refine r_lal (pc1 := 77) rfl rfl t10 (lyk t10 rfl) rp0 c13.1 (lt_len (lyn t10 rfl) c13.2) ?_
          refine r_iq rfl rfl rfl rfl rfl rfl (xe_of (xa_l xa_0) rfl rfl) (r_d0 hd rfl) (a_J13_bitCount_95d88 (hL h10 454 p0.toNat) (r_d1 hd rfl)  w t10 (fun x14 rx14 w => ?_))
          refine r_fI (pc1 := 80) rfl ?_
          have w := w rx14
          refine r_aldn (pc1 := 81) rfl rfl rfl ?_
          refine r_gfC (pc1 := 84) (q := 455) rfl rfl rfl t10 (lyk t10 rfl) rfl rfl (lyR t10 rfl rfl) ?_
          refine r_n (pc1 := 85) [.int (J p0), rv 455, .int (J x14)] _ rfl rfl ?_
          refine r_lal (pc1 := 86) rfl rfl t10 (lyk t10 rfl) rp0 c13.1 (lt_len (lyn t10 rfl) c13.2) ?_
          refine r_iq rfl rfl rfl rfl rfl rfl (xe_of (xa_l xa_0) rfl rfl) (r_d0 hd rfl) (a_J13_bitCount_95d88 (hL h10 455 p0.toNat) (r_d1 hd rfl)  w t10 (fun x15 rx15 w => ?_))
          refine r_fI (pc1 := 89) rfl ?_
          have w := w rx15
          refine r_iadd (pc1 := 90) rfl rfl ?_
          exact Q12  (wr (x14 + x15))  (rgw _) w
        · have w := w.2 c17
          refine r_aldn (pc1 := 63) rfl rfl rfl ?_
          refine r_gfC (pc1 := 66) (q := 457) rfl rfl rfl t10 (lyk t10 rfl) rfl rfl (lyR t10 rfl rfl) ?_
          refine r_n (pc1 := 67) [.int (J p0), rv 457] _ rfl rfl ?_
          obtain ⟨c16, w⟩ := w
          refine r_ial (pc1 := 68) rfl rfl t10 (lyk t10 rfl) rp0 c16.1 (lt_len (lyn t10 rfl) c16.2) ?_
          refine r_goto (t := 90) rfl rfl ?_
          exact Q12  (hI h10 457 p0.toNat)  (rgh _ _ _) w
      · have w := w.2 c19
        refine r_aldn (pc1 := 49) rfl rfl rfl ?_
        refine r_gfC (pc1 := 52) (q := 456) rfl rfl rfl t10 (lyk t10 rfl) rfl rfl (lyR t10 rfl rfl) ?_
        refine r_n (pc1 := 53) [.int (J p0), rv 456] _ rfl rfl ?_
        obtain ⟨c18, w⟩ := w
        refine r_ial (pc1 := 54) rfl rfl t10 (lyk t10 rfl) rp0 c18.1 (lt_len (lyn t10 rfl) c18.2) ?_
        refine r_goto (t := 90) rfl rfl ?_
        exact Q12  (hI h10 456 p0.toNat)  (rgh _ _ _) w
    · have w := w.2 c20
      exact Q7   h10 t10 s10  w
def w_X12_literalIn (p0 : BitVec 64) (p1 : BitVec 64) (p2 : Int) (K : Int → Prop) (h : XH) : Prop :=
  ((∃ (I9 : Int → Int → Prop) (m9 : Int → Int → Nat), I9 p2 0 ∧ ∀ (x1 : Int) (x2 : Int), rg x1 → rg x2 → I9 x1 x2 → (((hI h 9 0 ≤ x2 → (K (-1))) ∧ (¬ (hI h 9 0 ≤ x2) → ((∃ (I17 : Int → Int → Prop) (m17 : Int → Int → Nat), I17 x1 0 ∧ ∀ (x10 : Int) (x11 : Int), rg x10 → rg x11 → I17 x10 x11 → ((0 ≤ x2 ∧ x2 < 12) ∧ ((hI h 10 x2.toNat < x11 → (∀ x19 : Int, x19 = wr (x2 + 1) → rg x19 → (I9 x10 x19 ∧ m9 x10 x19 < m9 x1 x2))) ∧ (¬ (hI h 10 x2.toNat < x11) → (∃ J21 : Int → Prop, (∀ (x20 : Int), rg x20 → J21 x20 → (∃ J23 : Int → Prop, (∀ (x22 : Int), rg x22 → J23 x22 → (∃ J25 : BitVec 64 → Prop, (∀ (b24 : BitVec 64), J25 b24 → (∃ J28 : Int → Prop, (∀ (x26 : Int), rg x26 → J28 x26 → (∀ x29 : Int, x29 = wr (x11 + 1) → rg x29 → (I17 x26 x29 ∧ m17 x26 x29 < m17 x10 x11))) ∧ (((p0 ||| p1) &&& b24 = (0#64) → J28 x10) ∧ (¬ ((p0 ||| p1) &&& b24 = (0#64)) → (∃ J31 : Int → Prop, (∀ (x30 : Int), rg x30 → J31 x30 → (∀ x32 : Int, x32 = wr ((wr (1000000 * x2)) + x30) → rg x32 → ((¬ x10 = 0 → (∀ x33 : Int, x33 = wr (x10 + (-1)) → rg x33 → J28 x33)) ∧ (¬ (¬ x10 = 0) → (∃ J35 : Int → Prop, (∀ (x34 : Int), rg x34 → J35 x34 → (K x34)) ∧ ((p0 &&& b24 = (0#64) → (J35 (wr ((wr (-x32)) - 1)))) ∧ (¬ (p0 &&& b24 = (0#64)) → (J35 x32)))))))) ∧ ((x20 = 0 → ((0 ≤ x22 ∧ x22 < 40) ∧ J31 (hI h 14 x22.toNat))) ∧ (¬ (x20 = 0) → (J31 0)))))))) ∧ ((x20 = 0 → (J25 (lshl (1#64) x22))) ∧ (¬ (x20 = 0) → (w_X12_switchOf x2 (fun b41 => (J25 b41)) h))))) ∧ ((x20 = 0 → (w_X8_idAt x2 x11 (fun x43 => rg x43 → J23 x43) h)) ∧ (¬ (x20 = 0) → (J23 (-1)))))) ∧ ((¬ x11 = hI h 10 x2.toNat → (J21 0)) ∧ (¬ (¬ x11 = hI h 10 x2.toNat) → (J21 1))))))))))))))
set_option maxHeartbeats 4000000 in
theorem a_X12_literalIn {sc : Nat × (Nat → Int32)} {goal : XO → XH → Prop} {fs : List XF} {h : XH} (p0 : BitVec 64) (p1 : BitVec 64) (p2 : Int) {K : Int → Prop} (hd : fs.length + 1 ≤ 1000) (rp2 : rg p2) (w : w_X12_literalIn p0 p1 p2 K h) (t0 : HT h) (k : ∀ (r : Int), rg r → K r → XFin xP sc goal fs (.inl (some (.int (J r)))) h) : RR sc goal fs 123 0 [some (rv 2), some (.long (G p0)), none, some (.long (G p1)), none, some (.int (J p2)), none, none, none, none, none, none, none, none, none] [] h := by
  unfold w_X12_literalIn at w
  refine r_aldn (pc1 := 1) rfl rfl rfl ?_
  refine r_gfC (pc1 := 4) (q := 8) rfl rfl rfl t0 (lyk t0 rfl) rfl rfl (lyR t0 rfl rfl) ?_
  refine r_gfC (pc1 := 7) (q := 9) rfl rfl rfl t0 (lyk t0 rfl) rfl rfl (lyR t0 rfl rfl) ?_
  refine r_ast (pc1 := 9) (ls1 := [some (rv 2), some (.long (G p0)), none, some (.long (G p1)), none, some (.int (J p2)), some (rv 9), none, none, none, none, none, none, none, none]) rfl rfl rfl rfl ?_
  refine r_n (pc1 := 11) [.int (J p2)] _ rfl rfl ?_
  refine r_ist (pc1 := 13) (ls1 := [some (rv 2), some (.long (G p0)), none, some (.long (G p1)), none, some (.int (J p2)), some (rv 9), some (.int (J p2)), none, none, none, none, none, none, none]) rfl rfl rfl rfl ?_
  refine r_n (pc1 := 14) [.int (J 0)] _ rfl rfl ?_
  refine r_ist (pc1 := 16) (ls1 := [some (rv 2), some (.long (G p0)), none, some (.long (G p1)), none, some (.int (J p2)), some (rv 9), some (.int (J p2)), some (.int (J 0)), none, none, none, none, none, none]) rfl rfl rfl rfl ?_
  obtain ⟨I9, m9, w, y9⟩ := w
  have Q9 : ∀ (n : Nat) (d3 : Option Value) (d4 : Option Value) (d5 : Option Value) (d6 : Option Value) (d7 : Option Value) (d8 : Option Value) (x1 : Int) (x2 : Int), rg x1 → rg x2 → m9 x1 x2 < n → I9 x1 x2 → RR sc goal fs 123 16 [some (rv 2), some (.long (G p0)), none, some (.long (G p1)), none, some (.int (J p2)), some (rv 9), some (.int (J x1)), some (.int (J x2)), d3, d4, d5, d6, d7, d8] [] h := by
    intro n
    induction n with
    | zero => intro d3 d4 d5 d6 d7 d8 x1 x2 rx1 rx2 q9 _; exact absurd q9 (Nat.not_lt_zero _)
    | succ n ih9 =>
      intro d3 d4 d5 d6 d7 d8 x1 x2 rx1 rx2 q9 z9
      have w := y9 x1 x2 rx1 rx2 z9
      refine r_n (pc1 := 18) [.int (J x2)] _ rfl rfl ?_
      refine r_ald (pc1 := 20) rfl rfl rfl ?_
      refine r_gfI (pc1 := 23) rfl rfl rfl t0 (lyk t0 rfl) rfl rfl ?_
      refine r_ic (t := 178) (pc1 := 26) rfl rfl rfl rx2 (rgh _ _ _) (fun c47 => ?_) (fun c47 => ?_)
      · have w := w.1 c47
        refine r_n (pc1 := 179) [.int (J (-1))] _ rfl rfl ?_
        exact r_retI rfl rfl rfl (k _ (rgk rfl) w)
      · have w := w.2 c47
        refine r_n (pc1 := 27) [.int (J 0)] _ rfl rfl ?_
        refine r_ist (pc1 := 29) (ls1 := [some (rv 2), some (.long (G p0)), none, some (.long (G p1)), none, some (.int (J p2)), some (rv 9), some (.int (J x1)), some (.int (J x2)), some (.int (J 0)), d4, d5, d6, d7, d8]) rfl rfl rfl rfl ?_
        obtain ⟨I17, m17, w, y17⟩ := w
        have Q17 : ∀ (n : Nat) (d12 : Option Value) (d13 : Option Value) (d14 : Option Value) (d15 : Option Value) (d16 : Option Value) (x10 : Int) (x11 : Int), rg x10 → rg x11 → m17 x10 x11 < n → I17 x10 x11 → RR sc goal fs 123 29 [some (rv 2), some (.long (G p0)), none, some (.long (G p1)), none, some (.int (J p2)), some (rv 9), some (.int (J x10)), some (.int (J x2)), some (.int (J x11)), d12, d13, d14, d15, d16] [] h := by
          intro n
          induction n with
          | zero => intro d12 d13 d14 d15 d16 x10 x11 rx10 rx11 q17 _; exact absurd q17 (Nat.not_lt_zero _)
          | succ n ih17 =>
            intro d12 d13 d14 d15 d16 x10 x11 rx10 rx11 q17 z17
            have w := y17 x10 x11 rx10 rx11 z17
            refine r_n (pc1 := 31) [.int (J x11)] _ rfl rfl ?_
            refine r_ald (pc1 := 33) rfl rfl rfl ?_
            refine r_gfC (pc1 := 36) (q := 10) rfl rfl rfl t0 (lyk t0 rfl) rfl rfl (lyR t0 rfl rfl) ?_
            refine r_n (pc1 := 38) [.int (J x2), rv 10, .int (J x11)] _ rfl rfl ?_
            obtain ⟨c18, w⟩ := w
            refine r_ial (pc1 := 39) rfl rfl t0 (lyk t0 rfl) rx2 c18.1 (lt_len (lyn t0 rfl) c18.2) ?_
            refine r_ic (t := 172) (pc1 := 42) rfl rfl rfl rx11 (rgh _ _ _) (fun c46 => ?_) (fun c46 => ?_)
            · have w := w.1 c46
              refine r_inc (pc1 := 175) (g := fun zz => [some (rv 2), some (.long (G p0)), none, some (.long (G p1)), none, some (.int (J p2)), some (rv 9), some (.int (J x10)), some (.int (J zz)), some (.int (J x11)), d12, d13, d14, d15, d16]) rfl rfl rfl rfl (fun _ => rfl) (fun x19 ex19 rx19 => ?_)
              have w := w x19 ex19 rx19
              refine r_goto (t := 16) rfl rfl ?_
              exact ih9 _ _ _ _ _ _ x10 x19  rx10 rx19 (Nat.lt_of_lt_of_le w.2 (Nat.le_of_lt_succ q9)) w.1
            · have w := w.2 c46
              refine r_n (pc1 := 44) [.int (J x11)] _ rfl rfl ?_
              refine r_ald (pc1 := 46) rfl rfl rfl ?_
              refine r_gfC (pc1 := 49) (q := 10) rfl rfl rfl t0 (lyk t0 rfl) rfl rfl (lyR t0 rfl rfl) ?_
              refine r_n (pc1 := 51) [.int (J x2), rv 10, .int (J x11)] _ rfl rfl ?_
              refine r_ial (pc1 := 52) rfl rfl t0 (lyk t0 rfl) rx2 c18.1 (lt_len (lyn t0 rfl) c18.2) ?_
              obtain ⟨J21, j21, w⟩ := w
              have Q21 : ∀ (x20 : Int), rg x20 → J21 x20 → RR sc goal fs 123 60 [some (rv 2), some (.long (G p0)), none, some (.long (G p1)), none, some (.int (J p2)), some (rv 9), some (.int (J x10)), some (.int (J x2)), some (.int (J x11)), d12, d13, d14, d15, d16] [.int (J x20)] h := by
                intro x20 rx20 z21
                have w := j21 x20 rx20 z21
                refine r_ist (pc1 := 62) (ls1 := [some (rv 2), some (.long (G p0)), none, some (.long (G p1)), none, some (.int (J p2)), some (rv 9), some (.int (J x10)), some (.int (J x2)), some (.int (J x11)), some (.int (J x20)), d13, d14, d15, d16]) rfl rfl rfl rfl ?_
                refine r_n (pc1 := 64) [.int (J x20)] _ rfl rfl ?_
                obtain ⟨J23, j23, w⟩ := w
                have Q23 : ∀ (x22 : Int), rg x22 → J23 x22 → RR sc goal fs 123 80 [some (rv 2), some (.long (G p0)), none, some (.long (G p1)), none, some (.int (J p2)), some (rv 9), some (.int (J x10)), some (.int (J x2)), some (.int (J x11)), some (.int (J x20)), d13, d14, d15, d16] [.int (J x22)] h := by
                  intro x22 rx22 z23
                  have w := j23 x22 rx22 z23
                  refine r_ist (pc1 := 82) (ls1 := [some (rv 2), some (.long (G p0)), none, some (.long (G p1)), none, some (.int (J p2)), some (rv 9), some (.int (J x10)), some (.int (J x2)), some (.int (J x11)), some (.int (J x20)), some (.int (J x22)), d14, d15, d16]) rfl rfl rfl rfl ?_
                  refine r_n (pc1 := 84) [.int (J x20)] _ rfl rfl ?_
                  obtain ⟨J25, j25, w⟩ := w
                  have Q25 : ∀ (b24 : BitVec 64), J25 b24 → RR sc goal fs 123 99 [some (rv 2), some (.long (G p0)), none, some (.long (G p1)), none, some (.int (J p2)), some (rv 9), some (.int (J x10)), some (.int (J x2)), some (.int (J x11)), some (.int (J x20)), some (.int (J x22)), d14, d15, d16] [.long (G b24)] h := by
                    intro b24 z25
                    have w := j25 b24 z25
                    refine r_lst (pc1 := 101) (ls1 := [some (rv 2), some (.long (G p0)), none, some (.long (G p1)), none, some (.int (J p2)), some (rv 9), some (.int (J x10)), some (.int (J x2)), some (.int (J x11)), some (.int (J x20)), some (.int (J x22)), some (.long (G b24)), none, d16]) rfl rfl rfl rfl ?_
                    refine r_n (pc1 := 102) [.long (G p0)] _ rfl rfl ?_
                    refine r_n (pc1 := 103) [.long (G p1), .long (G p0)] _ rfl rfl ?_
                    refine r_lor (pc1 := 104) rfl rfl ?_
                    refine r_n (pc1 := 106) [.long (G b24), .long (G (p0 ||| p1))] _ rfl rfl ?_
                    refine r_land (pc1 := 107) rfl rfl ?_
                    refine r_n (pc1 := 108) [.long (G (0#64)), .long (G ((p0 ||| p1) &&& b24))] _ rfl rfl ?_
                    obtain ⟨J28, j28, w⟩ := w
                    have Q28 : ∀ (d27 : Option Value) (x26 : Int), rg x26 → J28 x26 → RR sc goal fs 123 166 [some (rv 2), some (.long (G p0)), none, some (.long (G p1)), none, some (.int (J p2)), some (rv 9), some (.int (J x26)), some (.int (J x2)), some (.int (J x11)), some (.int (J x20)), some (.int (J x22)), some (.long (G b24)), none, d27] [] h := by
                      intro d27 x26 rx26 z28
                      have w := j28 x26 rx26 z28
                      refine r_inc (pc1 := 169) (g := fun zz => [some (rv 2), some (.long (G p0)), none, some (.long (G p1)), none, some (.int (J p2)), some (rv 9), some (.int (J x26)), some (.int (J x2)), some (.int (J zz)), some (.int (J x20)), some (.int (J x22)), some (.long (G b24)), none, d27]) rfl rfl rfl rfl (fun _ => rfl) (fun x29 ex29 rx29 => ?_)
                      have w := w x29 ex29 rx29
                      refine r_goto (t := 29) rfl rfl ?_
                      exact ih17 _ _ _ _ _ x26 x29  rx26 rx29 (Nat.lt_of_lt_of_le w.2 (Nat.le_of_lt_succ q17)) w.1
                    refine r_lc (pc2 := 109) (t := 166) (pc1 := 112) rfl rfl rfl rfl rfl (fun c40 => ?_) (fun c40 => ?_)
                    · have w := w.1 c40
                      exact Q28 _ x10  rx10 w
                    · have w := w.2 c40
                      refine r_n (pc1 := 115) [.int (J 1000000)] _ rfl rfl ?_
                      refine r_n (pc1 := 117) [.int (J x2), .int (J 1000000)] _ rfl rfl ?_
                      refine r_imul (pc1 := 118) rfl rfl ?_
                      refine r_n (pc1 := 120) [.int (J x20), .int (J (wr (1000000 * x2)))] _ rfl rfl ?_
                      obtain ⟨J31, j31, w⟩ := w
                      have Q31 : ∀ (x30 : Int), rg x30 → J31 x30 → RR sc goal fs 123 135 [some (rv 2), some (.long (G p0)), none, some (.long (G p1)), none, some (.int (J p2)), some (rv 9), some (.int (J x10)), some (.int (J x2)), some (.int (J x11)), some (.int (J x20)), some (.int (J x22)), some (.long (G b24)), none, d16] [.int (J x30), .int (J (wr (1000000 * x2)))] h := by
                        intro x30 rx30 z31
                        have w := j31 x30 rx30 z31
                        refine r_iadd (pc1 := 136) rfl rfl ?_
                        refine r_vI (rgw _) (fun x32 ex32 rx32 => ?_)
                        have w := w x32 ex32 rx32
                        refine r_ist (pc1 := 138) (ls1 := [some (rv 2), some (.long (G p0)), none, some (.long (G p1)), none, some (.int (J p2)), some (rv 9), some (.int (J x10)), some (.int (J x2)), some (.int (J x11)), some (.int (J x20)), some (.int (J x22)), some (.long (G b24)), none, some (.int (J x32))]) rfl rfl rfl rfl ?_
                        refine r_n (pc1 := 140) [.int (J x10)] _ rfl rfl ?_
                        refine r_iz (t := 163) (pc1 := 143) rfl rfl rfl rx10 (fun c37 => ?_) (fun c37 => ?_)
                        · have w := w.1 c37
                          refine r_inc (pc1 := 166) (g := fun zz => [some (rv 2), some (.long (G p0)), none, some (.long (G p1)), none, some (.int (J p2)), some (rv 9), some (.int (J zz)), some (.int (J x2)), some (.int (J x11)), some (.int (J x20)), some (.int (J x22)), some (.long (G b24)), none, some (.int (J x32))]) rfl rfl rfl rfl (fun _ => rfl) (fun x33 ex33 rx33 => ?_)
                          have w := w x33 ex33 rx33
                          exact Q28 _ x33  rx33 w
                        · have w := w.2 c37
                          refine r_n (pc1 := 144) [.long (G p0)] _ rfl rfl ?_
                          refine r_n (pc1 := 146) [.long (G b24), .long (G p0)] _ rfl rfl ?_
                          refine r_land (pc1 := 147) rfl rfl ?_
                          refine r_n (pc1 := 148) [.long (G (0#64)), .long (G (p0 &&& b24))] _ rfl rfl ?_
                          obtain ⟨J35, j35, w⟩ := w
                          have Q35 : ∀ (x34 : Int), rg x34 → J35 x34 → RR sc goal fs 123 162 [some (rv 2), some (.long (G p0)), none, some (.long (G p1)), none, some (.int (J p2)), some (rv 9), some (.int (J x10)), some (.int (J x2)), some (.int (J x11)), some (.int (J x20)), some (.int (J x22)), some (.long (G b24)), none, some (.int (J x32))] [.int (J x34)] h := by
                            intro x34 rx34 z35
                            have w := j35 x34 rx34 z35
                            exact r_retI rfl rfl rfl (k _ rx34 w)
                          refine r_lc (pc2 := 149) (t := 157) (pc1 := 152) rfl rfl rfl rfl rfl (fun c36 => ?_) (fun c36 => ?_)
                          · have w := w.1 c36
                            refine r_n (pc1 := 159) [.int (J x32)] _ rfl rfl ?_
                            refine r_ineg (pc1 := 160) rfl rfl ?_
                            refine r_n (pc1 := 161) [.int (J 1), .int (J (wr (-x32)))] _ rfl rfl ?_
                            refine r_isub (pc1 := 162) rfl rfl ?_
                            exact Q35  (wr ((wr (-x32)) - 1))  (rgw _) w
                          · have w := w.2 c36
                            refine r_n (pc1 := 154) [.int (J x32)] _ rfl rfl ?_
                            refine r_goto (t := 162) rfl rfl ?_
                            exact Q35  x32  rx32 w
                      refine r_iz (t := 127) (pc1 := 123) rfl rfl rfl rx20 (fun c39 => ?_) (fun c39 => ?_)
                      · have w := w.1 c39
                        refine r_ald (pc1 := 129) rfl rfl rfl ?_
                        refine r_gfC (pc1 := 132) (q := 14) rfl rfl rfl t0 (lyk t0 rfl) rfl rfl (lyR t0 rfl rfl) ?_
                        refine r_n (pc1 := 134) [.int (J x22), rv 14, .int (J (wr (1000000 * x2)))] _ rfl rfl ?_
                        obtain ⟨c38, w⟩ := w
                        refine r_ial (pc1 := 135) rfl rfl t0 (lyk t0 rfl) rx22 c38.1 (lt_len (lyn t0 rfl) c38.2) ?_
                        exact Q31  (hI h 14 x22.toNat)  (rgh _ _ _) w
                      · have w := w.2 c39
                        refine r_n (pc1 := 124) [.int (J 0), .int (J (wr (1000000 * x2)))] _ rfl rfl ?_
                        refine r_goto (t := 135) rfl rfl ?_
                        exact Q31  0  (rgk rfl) w
                  refine r_iz (t := 95) (pc1 := 87) rfl rfl rfl rx20 (fun c42 => ?_) (fun c42 => ?_)
                  · have w := w.1 c42
                    refine r_n (pc1 := 96) [.long (G (1#64))] _ rfl rfl ?_
                    refine r_n (pc1 := 98) [.int (J x22), .long (G (1#64))] _ rfl rfl ?_
                    refine r_lshl (pc1 := 99) rfl rfl ?_
                    exact Q25  (lshl (1#64) x22)   w
                  · have w := w.2 c42
                    refine r_n (pc1 := 89) [.int (J x2)] _ rfl rfl ?_
                    refine r_iq rfl rfl rfl rfl rfl rfl (xe_of (xa_i xa_0) rfl rfl) (r_d0 hd rfl) (a_X12_switchOf x2 (r_d1 hd rfl) rx2 w t0 (fun b41 w => ?_))
                    refine r_fL (pc1 := 92) rfl ?_
                    refine r_goto (t := 99) rfl rfl ?_
                    exact Q25  b41   w
                refine r_iz (t := 71) (pc1 := 67) rfl rfl rfl rx20 (fun c44 => ?_) (fun c44 => ?_)
                · have w := w.1 c44
                  refine r_ald (pc1 := 73) rfl rfl rfl ?_
                  refine r_n (pc1 := 75) [.int (J x2), rv 9] _ rfl rfl ?_
                  refine r_n (pc1 := 77) [.int (J x11), .int (J x2), rv 9] _ rfl rfl ?_
                  refine r_iv rfl rfl rfl rfl rfl rfl t0 (lyk t0 rfl) rfl (xe_of (xa_r (xa_i (xa_i xa_0))) rfl rfl) (r_d0 hd rfl) (a_X8_idAt x2 x11 (r_d1 hd rfl) rx2 rx11 w t0 (fun x43 rx43 w => ?_))
                  refine r_fI (pc1 := 80) rfl ?_
                  have w := w rx43
                  exact Q23  x43  rx43 w
                · have w := w.2 c44
                  refine r_n (pc1 := 68) [.int (J (-1))] _ rfl rfl ?_
                  refine r_goto (t := 80) rfl rfl ?_
                  exact Q23  (-1)  (rgk rfl) w
              refine r_ic (t := 59) (pc1 := 55) rfl rfl rfl rx11 (rgh _ _ _) (fun c45 => ?_) (fun c45 => ?_)
              · have w := w.1 c45
                refine r_n (pc1 := 60) [.int (J 0)] _ rfl rfl ?_
                exact Q21  0  (rgk rfl) w
              · have w := w.2 c45
                refine r_n (pc1 := 56) [.int (J 1)] _ rfl rfl ?_
                refine r_goto (t := 60) rfl rfl ?_
                exact Q21  1  (rgk rfl) w
        exact Q17 _ _ _ _ _ _ x1 0  rx1 (rgk rfl) (Nat.lt_succ_self _) w
  exact Q9 _ _ _ _ _ _ _ p2 0  rp2 (rgk rfl) (Nat.lt_succ_self _) w
def w_X12_literalAt (p0 : Int) (p1 : Int) (K : Int → XH → Prop) (E : Nat → XH → Prop) (h : XH) : Prop :=
  (w_X12_know 4 (fun h1 => HT h1 → HX h h1 → (∃ J2 : Prop, (J2 → (E 2 (nT h1))) ∧ ((p0 < 0 → J2) ∧ (¬ (p0 < 0) → (((hI h1 70 5 ≤ p0 → J2) ∧ (¬ (hI h1 70 5 ≤ p0) → (((p1 < 0 → J2) ∧ (¬ (p1 < 0) → (w_X4_literalsOf p0 (fun x3 => rg x3 → (((p1 < x3 → ((0 ≤ p0 ∧ p0 < 200) ∧ w_X12_literalIn (hL h1 73 p0.toNat) (hL h1 74 p0.toNat) p1 (fun x5 => rg x5 → (K x5 h1)) h1)) ∧ (¬ (p1 < x3) → J2)))) h1))))))))))) h)
set_option maxHeartbeats 4000000 in
theorem a_X12_literalAt {sc : Nat × (Nat → Int32)} {goal : XO → XH → Prop} {fs : List XF} {h : XH} (p0 : Int) (p1 : Int) {K : Int → XH → Prop} {E : Nat → XH → Prop} (hd : fs.length + 8 ≤ 1000) (rp0 : rg p0) (rp1 : rg p1) (w : w_X12_literalAt p0 p1 K E h) (t0 : HT h) (k : ∀ (r : Int) (h1 : XH), HT h1 → HX h h1 → rg r → K r h1 → XFin xP sc goal fs (.inl (some (.int (J r)))) h1) (kE : ∀ (x : Nat) (h1 : XH), HT h1 → HX h h1 → E x h1 → XFin xP sc goal fs (.inr x) h1) : RR sc goal fs 122 0 [some (rv 2), some (.int (J p0)), some (.int (J p1))] [] h := by
  unfold w_X12_literalAt at w
  refine r_aldn (pc1 := 1) rfl rfl rfl ?_
  refine r_n (pc1 := 2) [.int (J 4), rv 2] _ rfl rfl ?_
  refine r_iv rfl rfl rfl rfl rfl rfl t0 (lyk t0 rfl) rfl (xe_of (xa_r (xa_i xa_0)) rfl rfl) (r_d0 hd rfl) (a_X12_know 4 (r_d1 hd rfl) (rgk rfl) w t0 (fun h1 t1 u1 w => ?_))
  refine r_fV (pc1 := 5) rfl ?_
  have s1 := HX_trans (HX_refl h) u1
  have w := w t1 u1
  refine r_n (pc1 := 6) [.int (J p0)] _ rfl rfl ?_
  obtain ⟨J2, j2, w⟩ := w
  have Q2 : J2 → RR sc goal fs 122 36 [some (rv 2), some (.int (J p0)), some (.int (J p1))] [] h1 := by
    intro z2
    have w := j2 z2
    exact r_thr rfl rfl rfl rfl rfl rfl (kE _ _ (HT_nT t1).1 (HX_trans s1 (HT_nT t1).2) w)
  refine r_iz (t := 36) (pc1 := 9) rfl rfl rfl rp0 (fun c9 => ?_) (fun c9 => ?_)
  · have w := w.1 c9
    exact Q2     w
  · have w := w.2 c9
    refine r_n (pc1 := 10) [.int (J p0)] _ rfl rfl ?_
    refine r_aldn (pc1 := 11) rfl rfl rfl ?_
    refine r_gfC (pc1 := 14) (q := 70) rfl rfl rfl t1 (lyk t1 rfl) rfl rfl (lyR t1 rfl rfl) ?_
    refine r_gfI (pc1 := 17) rfl rfl rfl t1 (lyk t1 rfl) rfl rfl ?_
    refine r_ic (t := 36) (pc1 := 20) rfl rfl rfl rp0 (rgh _ _ _) (fun c8 => ?_) (fun c8 => ?_)
    · have w := w.1 c8
      exact Q2     w
    · have w := w.2 c8
      refine r_n (pc1 := 21) [.int (J p1)] _ rfl rfl ?_
      refine r_iz (t := 36) (pc1 := 24) rfl rfl rfl rp1 (fun c7 => ?_) (fun c7 => ?_)
      · have w := w.1 c7
        exact Q2     w
      · have w := w.2 c7
        refine r_n (pc1 := 25) [.int (J p1)] _ rfl rfl ?_
        refine r_aldn (pc1 := 26) rfl rfl rfl ?_
        refine r_gfC (pc1 := 29) (q := 70) rfl rfl rfl t1 (lyk t1 rfl) rfl rfl (lyR t1 rfl rfl) ?_
        refine r_n (pc1 := 30) [.int (J p0), rv 70, .int (J p1)] _ rfl rfl ?_
        refine r_iv rfl rfl rfl rfl rfl rfl t1 (lyk t1 rfl) rfl (xe_of (xa_r (xa_i xa_0)) rfl rfl) (r_d0 hd rfl) (a_X4_literalsOf p0 (r_d1 hd rfl) rp0 w t1 (fun x3 rx3 w => ?_))
        refine r_fI (pc1 := 33) rfl ?_
        have w := w rx3
        refine r_ic (t := 47) (pc1 := 36) rfl rfl rfl rp1 rx3 (fun c6 => ?_) (fun c6 => ?_)
        · have w := w.1 c6
          refine r_aldn (pc1 := 48) rfl rfl rfl ?_
          refine r_aldn (pc1 := 49) rfl rfl rfl ?_
          refine r_gfC (pc1 := 52) (q := 70) rfl rfl rfl t1 (lyk t1 rfl) rfl rfl (lyR t1 rfl rfl) ?_
          refine r_gfC (pc1 := 55) (q := 73) rfl rfl rfl t1 (lyk t1 rfl) rfl rfl (lyR t1 rfl rfl) ?_
          refine r_n (pc1 := 56) [.int (J p0), rv 73, rv 2] _ rfl rfl ?_
          obtain ⟨c4, w⟩ := w
          refine r_lal (pc1 := 57) rfl rfl t1 (lyk t1 rfl) rp0 c4.1 (lt_len (lyn t1 rfl) c4.2) ?_
          refine r_aldn (pc1 := 58) rfl rfl rfl ?_
          refine r_gfC (pc1 := 61) (q := 70) rfl rfl rfl t1 (lyk t1 rfl) rfl rfl (lyR t1 rfl rfl) ?_
          refine r_gfC (pc1 := 64) (q := 74) rfl rfl rfl t1 (lyk t1 rfl) rfl rfl (lyR t1 rfl rfl) ?_
          refine r_n (pc1 := 65) [.int (J p0), rv 74, .long (G (hL h1 73 p0.toNat)), rv 2] _ rfl rfl ?_
          refine r_lal (pc1 := 66) rfl rfl t1 (lyk t1 rfl) rp0 c4.1 (lt_len (lyn t1 rfl) c4.2) ?_
          refine r_n (pc1 := 67) [.int (J p1), .long (G (hL h1 74 p0.toNat)), .long (G (hL h1 73 p0.toNat)), rv 2] _ rfl rfl ?_
          refine r_iv rfl rfl rfl rfl rfl rfl t1 (lyk t1 rfl) rfl (xe_of (xa_r (xa_l (xa_l (xa_i xa_0)))) rfl rfl) (r_d0 hd rfl) (a_X12_literalIn (hL h1 73 p0.toNat) (hL h1 74 p0.toNat) p1 (r_d1 hd rfl) rp1 w t1 (fun x5 rx5 w => ?_))
          refine r_fI (pc1 := 70) rfl ?_
          have w := w rx5
          exact r_retI rfl rfl rfl (k _ _ t1 s1 rx5 w)
        · have w := w.2 c6
          exact Q2     w
def w_L_literalAt (p1 : Int) (p2 : Int) (K : Int → XH → Prop) (h : XH) : Prop :=
  (w_X12_literalAt p1 p2 (fun x1 h2 => HT h2 → HX h h2 → rg x1 → (∀ h5 : XH, h5 = sL h2 467 0 (i2l x1) → HT h5 → HX h2 h5 → (K 0 h5))) (fun y4 h3 => ((y4 = 2 ∧ K 1 h3))) h)
set_option maxHeartbeats 4000000 in
theorem a_L_literalAt {sc : Nat × (Nat → Int32)} {goal : XO → XH → Prop} {fs : List XF} {h : XH} (p1 : Int) (p2 : Int) {K : Int → XH → Prop} (hd : fs.length + 9 ≤ 1000) (rp1 : rg p1) (rp2 : rg p2) (w : w_L_literalAt p1 p2 K h) (t0 : HT h) (k : ∀ (r : Int) (h1 : XH), HT h1 → HX h h1 → rg r → K r h1 → XFin xP sc goal fs (.inl (some (.int (J r)))) h1) : RR sc goal fs 42 0 [some (rv 2), some (.int (J p1)), some (.int (J p2)), some (rv 467), none] [] h := by
  unfold w_L_literalAt at w
  refine r_aldn (pc1 := 1) rfl rfl rfl ?_
  refine r_n (pc1 := 2) [.int (J 0), rv 467] _ rfl rfl ?_
  refine r_aldn (pc1 := 3) rfl rfl rfl ?_
  refine r_n (pc1 := 4) [.int (J p1), rv 2, .int (J 0), rv 467] _ rfl rfl ?_
  refine r_n (pc1 := 5) [.int (J p2), .int (J p1), rv 2, .int (J 0), rv 467] _ rfl rfl ?_
  refine r_iv rfl rfl rfl rfl rfl rfl t0 (lyk t0 rfl) rfl (xe_of (xa_r (xa_i (xa_i xa_0))) rfl rfl) (r_d0 hd rfl) (a_X12_literalAt p1 p2 (r_d1 hd rfl) rp1 rp2 w t0 (fun x1 h2 t2 u2 rx1 w => ?_) (fun y4 h3 ty uy w => ?_))
  · refine r_fI (pc1 := 8) rfl ?_
    have s2 := HX_trans (HX_refl h) u2
    have w := w t2 u2
    have w := w rx1
    refine r_i2l (pc1 := 9) rfl rfl ?_
    refine r_last (pc1 := 10) rfl rfl t2 (lyk t2 rfl) (rgk rfl) (by decide) (lt_len (lyn t2 rfl) (by decide)) (fun h5 eh5 t5 u5 => ?_)
    have w := w h5 eh5 t5 u5
    have s5 := HX_trans s2 u5
    refine r_goto (t := 17) rfl rfl ?_
    refine r_n (pc1 := 18) [.int (J 0)] _ rfl rfl ?_
    exact r_retI rfl rfl rfl (k _ _ t5 s5 (rgk rfl) w)
  · obtain ⟨rfl, w⟩ := w
    exact r_fink (z := 1) rfl (by decide) rfl rfl (k _ _ ty (HX_trans (HX_refl h) uy) (rgk rfl) w)
def w_X14_literalAt (p0 : Int) (p1 : Int) (K : Int → XH → Prop) (h : XH) : Prop :=
  (∀ h1 : XH, h1 = sI h 437 5 0 → HT h1 → HX h h1 → w_X14_findProof (fun h2 => HT h2 → HX h1 h2 → (w_X14_within p0 0 (wr ((hI h2 437 47) - 1)) (fun x3 => rg x3 → (x3 = 0 ∨ x3 = 1) → (∃ J14 : XH → Prop, (∀ (h13 : XH), HT h13 → HX h h13 → J14 h13 → (∀ h15 : XH, h15 = sI h13 437 5 1 → HT h15 → HX h13 h15 → K 0 h15)) ∧ ((x3 = 0 → J14 h2) ∧ (¬ (x3 = 0) → ((∃ (I26 : Int → Int → XH → Prop) (m26 : Int → Int → XH → Nat), I26 p1 0 h2 ∧ ∀ (x17 : Int) (x18 : Int) (h25 : XH), HT h25 → HX h h25 → rg x17 → rg x18 → I26 x17 x18 h25 → (((hI h25 438 0 ≤ x18 → J14 h25) ∧ (¬ (hI h25 438 0 ≤ x18) → (((x17 < 0 → J14 h25) ∧ (¬ (x17 < 0) → (w_X14_versionsOf x18 (fun a27 h28 => HT h28 → HX h25 h28 → ((∃ (I36 : Int → Int → Prop) (m36 : Int → Int → Nat), I36 x17 0 ∧ ∀ (x30 : Int) (x31 : Int), rg x30 → rg x31 → I36 x30 x31 → (hk h28 a27 = 100 ∧ (hn h28 a27 : Int) < 2147483648 ∧ (((hn h28 a27 : Int) < x31 → (∀ x39 : Int, x39 = wr (x18 + 1) → rg x39 → (I26 x30 x39 h28 ∧ m26 x30 x39 h28 < m26 x17 x18 h25))) ∧ (¬ ((hn h28 a27 : Int) < x31) → ((hn h28 a27 : Int) < 2147483648 ∧ ∃ J42 : BitVec 64 → Prop, (∀ (b41 : BitVec 64), J42 b41 → ((hn h28 a27 : Int) < 2147483648 ∧ ∃ J45 : Int → Prop, (∀ (x44 : Int), rg x44 → J45 x44 → (∀ x46 : Int, x46 = wr ((wr (1000000 * x18)) + x44) → rg x46 → (0 ≤ p0 ∧ p0 < 200) ∧ ∃ J49 : Int → Prop, (∀ (x48 : Int), rg x48 → J49 x48 → (∃ J52 : Int → Prop, (∀ (x51 : Int), rg x51 → J52 x51 → (∀ x53 : Int, x53 = wr (x31 + 1) → rg x53 → (I36 x51 x53 ∧ m36 x51 x53 < m36 x30 x31))) ∧ ∃ J54 : Prop, (J54 → (((¬ x30 = 0 → (∀ x55 : Int, x55 = wr (x30 + (-1)) → rg x55 → J52 x55)) ∧ (¬ (¬ x30 = 0) → (∃ J57 : Int → Prop, (∀ (x56 : Int), rg x56 → J57 x56 → (K x56 h28)) ∧ ((x48 = 0 → (J57 (wr ((wr (-x46)) - 1)))) ∧ (¬ (x48 = 0) → (J57 x46)))))))) ∧ ((¬ x48 = 0 → J54) ∧ (¬ (¬ x48 = 0) → (((¬ (hL h28 455 p0.toNat) &&& b41 = (0#64) → J54) ∧ (¬ (¬ (hL h28 455 p0.toNat) &&& b41 = (0#64)) → (J52 x30)))))))) ∧ (((hL h28 454 p0.toNat) &&& b41 = (0#64) → (J49 0)) ∧ (¬ ((hL h28 454 p0.toNat) &&& b41 = (0#64)) → (J49 1))))) ∧ ((¬ x31 = (hn h28 a27 : Int) → ((0 ≤ x31 ∧ x31 < (hn h28 a27 : Int)) ∧ w_X14_ver (hI h28 a27 x31.toNat) 1 (fun x64 => rg x64 → J45 x64) h28)) ∧ (¬ (¬ x31 = (hn h28 a27 : Int)) → (J45 0))))) ∧ ((¬ x31 = (hn h28 a27 : Int) → ((0 ≤ x31 ∧ x31 < (hn h28 a27 : Int)) ∧ w_X14_bit (hI h28 a27 x31.toNat) (fun b67 => J42 b67) h28)) ∧ (¬ (¬ x31 = (hn h28 a27 : Int)) → (w_X14_optionBit x18 (fun b68 => (J42 b68)) h28)))))))))) h25))))))))))))) h2)) h1)
set_option maxHeartbeats 4000000 in
theorem a_X14_literalAt {sc : Nat × (Nat → Int32)} {goal : XO → XH → Prop} {fs : List XF} {h : XH} (p0 : Int) (p1 : Int) {K : Int → XH → Prop} (hd : fs.length + 79 ≤ 1000) (rp0 : rg p0) (rp1 : rg p1) (w : w_X14_literalAt p0 p1 K h) (t0 : HT h) (k : ∀ (r : Int) (h1 : XH), HT h1 → HX h h1 → rg r → K r h1 → XFin xP sc goal fs (.inl (some (.int (J r)))) h1) : RR sc goal fs 247 0 [some (rv 437), some (.int (J p0)), some (.int (J p1)), none, none, none, none, none, none, none, none] [] h := by
  unfold w_X14_literalAt at w
  refine r_aldn (pc1 := 1) rfl rfl rfl ?_
  refine r_n (pc1 := 2) [.int (J 0), rv 437] _ rfl rfl ?_
  refine r_pfI (pc1 := 5) rfl rfl rfl t0 (lyk t0 rfl) rfl rfl rfl (fun h1 eh1 t1 u1 => ?_)
  have w := w h1 eh1 t1 u1
  have s1 := HX_trans (HX_refl h) u1
  refine r_aldn (pc1 := 6) rfl rfl rfl ?_
  refine r_iv rfl rfl rfl rfl rfl rfl t1 (lyk t1 rfl) rfl (xe_of (xa_r xa_0) rfl rfl) (r_d0 hd rfl) (a_X14_findProof  (r_d1 hd rfl)  w t1 (fun h2 t2 u2 w => ?_))
  refine r_fV (pc1 := 9) rfl ?_
  have s2 := HX_trans s1 u2
  have w := w t2 u2
  refine r_n (pc1 := 10) [.int (J p0)] _ rfl rfl ?_
  refine r_n (pc1 := 11) [.int (J 0), .int (J p0)] _ rfl rfl ?_
  refine r_aldn (pc1 := 12) rfl rfl rfl ?_
  refine r_gfI (pc1 := 15) rfl rfl rfl t2 (lyk t2 rfl) rfl rfl ?_
  refine r_n (pc1 := 16) [.int (J 1), .int (J (hI h2 437 47)), .int (J 0), .int (J p0)] _ rfl rfl ?_
  refine r_isub (pc1 := 17) rfl rfl ?_
  refine r_iq rfl rfl rfl rfl rfl rfl (xe_of (xa_i (xa_i (xa_i xa_0))) rfl rfl) (r_d0 hd rfl) (a_X14_within p0 0 (wr ((hI h2 437 47) - 1)) (r_d1 hd rfl) rp0 (rgk rfl) (rgw _) w t2 (fun x3 rx3 vx3 w => ?_))
  refine r_fI (pc1 := 20) rfl ?_
  have w := w rx3 vx3
  obtain ⟨J14, j14, w⟩ := w
  have Q14 : ∀ (d4 : Option Value) (d5 : Option Value) (d6 : Option Value) (d7 : Option Value) (d8 : Option Value) (d9 : Option Value) (d10 : Option Value) (d11 : Option Value) (d12 : Option Value) (h13 : XH), HT h13 → HX h h13 → J14 h13 → RR sc goal fs 247 197 [some (rv 437), some (.int (J p0)), d4, d5, d6, d7, d8, d9, d10, d11, d12] [] h13 := by
    intro d4 d5 d6 d7 d8 d9 d10 d11 d12 h13 t13 s13 z14
    have w := j14 h13 t13 s13 z14
    refine r_aldn (pc1 := 198) rfl rfl rfl ?_
    refine r_n (pc1 := 199) [.int (J 1), rv 437] _ rfl rfl ?_
    refine r_pfI (pc1 := 202) rfl rfl rfl t13 (lyk t13 rfl) rfl rfl rfl (fun h15 eh15 t15 u15 => ?_)
    have w := w h15 eh15 t15 u15
    have s15 := HX_trans s13 u15
    refine r_n (pc1 := 203) [.int (J 0)] _ rfl rfl ?_
    exact r_retI rfl rfl rfl (k _ _ t15 s15 (rgk rfl) w)
  refine r_iz (t := 197) (pc1 := 23) rfl rfl rfl rx3 (fun c73 => ?_) (fun c73 => ?_)
  · have w := w.1 c73
    exact Q14 _ _ _ _ _ _ _ _ _  h2 t2 s2  w
  · have w := w.2 c73
    refine r_n (pc1 := 24) [.int (J p1)] _ rfl rfl ?_
    refine r_istn (pc1 := 25) (ls1 := [some (rv 437), some (.int (J p0)), some (.int (J p1)), some (.int (J p1)), none, none, none, none, none, none, none]) rfl rfl rfl rfl ?_
    refine r_n (pc1 := 26) [.int (J 0)] _ rfl rfl ?_
    refine r_ist (pc1 := 28) (ls1 := [some (rv 437), some (.int (J p0)), some (.int (J p1)), some (.int (J p1)), some (.int (J 0)), none, none, none, none, none, none]) rfl rfl rfl rfl ?_
    obtain ⟨I26, m26, w, y26⟩ := w
    have Q26 : ∀ (n : Nat) (d16 : Option Value) (d19 : Option Value) (d20 : Option Value) (d21 : Option Value) (d22 : Option Value) (d23 : Option Value) (d24 : Option Value) (x17 : Int) (x18 : Int) (h25 : XH), HT h25 → HX h h25 → rg x17 → rg x18 → m26 x17 x18 h25 < n → I26 x17 x18 h25 → RR sc goal fs 247 28 [some (rv 437), some (.int (J p0)), d16, some (.int (J x17)), some (.int (J x18)), d19, d20, d21, d22, d23, d24] [] h25 := by
      intro n
      induction n with
      | zero => intro d16 d19 d20 d21 d22 d23 d24 x17 x18 h25 t25 s25 rx17 rx18 q26 _; exact absurd q26 (Nat.not_lt_zero _)
      | succ n ih26 =>
        intro d16 d19 d20 d21 d22 d23 d24 x17 x18 h25 t25 s25 rx17 rx18 q26 z26
        have w := y26 x17 x18 h25 t25 s25 rx17 rx18 z26
        refine r_n (pc1 := 30) [.int (J x18)] _ rfl rfl ?_
        refine r_aldn (pc1 := 31) rfl rfl rfl ?_
        refine r_gfC (pc1 := 34) (q := 438) rfl rfl rfl t25 (lyk t25 rfl) rfl rfl (lyR t25 rfl rfl) ?_
        refine r_n (pc1 := 35) [.int (J 0), rv 438, .int (J x18)] _ rfl rfl ?_
        refine r_ial (pc1 := 36) rfl rfl t25 (lyk t25 rfl) (rgk rfl) (by decide) (lt_len (lyn t25 rfl) (by decide)) ?_
        refine r_ic (t := 197) (pc1 := 39) rfl rfl rfl rx18 (rgh _ _ _) (fun c72 => ?_) (fun c72 => ?_)
        · have w := w.1 c72
          exact Q14 _ _ _ _ _ _ _ _ _  h25 t25 s25  w
        · have w := w.2 c72
          refine r_n (pc1 := 40) [.int (J x17)] _ rfl rfl ?_
          refine r_iz (t := 197) (pc1 := 43) rfl rfl rfl rx17 (fun c71 => ?_) (fun c71 => ?_)
          · have w := w.1 c71
            exact Q14 _ _ _ _ _ _ _ _ _  h25 t25 s25  w
          · have w := w.2 c71
            refine r_aldn (pc1 := 44) rfl rfl rfl ?_
            refine r_n (pc1 := 46) [.int (J x18), rv 437] _ rfl rfl ?_
            refine r_iv rfl rfl rfl rfl rfl rfl t25 (lyk t25 rfl) rfl (xe_of (xa_r (xa_i xa_0)) rfl rfl) (r_d0 hd rfl) (a_X14_versionsOf x18 (r_d1 hd rfl) rx18 w t25 (fun a27 h28 t28 u28 w => ?_))
            refine r_fR (pc1 := 49) rfl ?_
            have s28 := HX_trans s25 u28
            have w := w t28 u28
            refine r_ast (pc1 := 51) (ls1 := [some (rv 437), some (.int (J p0)), d16, some (.int (J x17)), some (.int (J x18)), some (rv a27), d20, d21, d22, d23, d24]) rfl rfl rfl rfl ?_
            refine r_n (pc1 := 52) [.int (J 0)] _ rfl rfl ?_
            refine r_ist (pc1 := 54) (ls1 := [some (rv 437), some (.int (J p0)), d16, some (.int (J x17)), some (.int (J x18)), some (rv a27), some (.int (J 0)), d21, d22, d23, d24]) rfl rfl rfl (xput1_rv rfl rfl) ?_
            obtain ⟨I36, m36, w, y36⟩ := w
            have Q36 : ∀ (n : Nat) (d29 : Option Value) (d32 : Option Value) (d33 : Option Value) (d34 : Option Value) (d35 : Option Value) (x30 : Int) (x31 : Int), rg x30 → rg x31 → m36 x30 x31 < n → I36 x30 x31 → RR sc goal fs 247 54 [some (rv 437), some (.int (J p0)), d29, some (.int (J x30)), some (.int (J x18)), some (rv a27), some (.int (J x31)), d32, d33, d34, d35] [] h28 := by
              intro n
              induction n with
              | zero => intro d29 d32 d33 d34 d35 x30 x31 rx30 rx31 q36 _; exact absurd q36 (Nat.not_lt_zero _)
              | succ n ih36 =>
                intro d29 d32 d33 d34 d35 x30 x31 rx30 rx31 q36 z36
                have w := y36 x30 x31 rx30 rx31 z36
                refine r_n (pc1 := 56) [.int (J x31)] _ rfl rfl ?_
                refine r_ald (pc1 := 58) rfl rfl rfl ?_
                obtain ⟨c37, w⟩ := w
                obtain ⟨c38, w⟩ := w
                refine r_len (pc1 := 59) (u := 0) rfl rfl t28 c37 (by decide) (fun rc38 => ?_) c38
                refine r_ic (t := 191) (pc1 := 62) rfl rfl rfl rx31 rc38 (fun c70 => ?_) (fun c70 => ?_)
                · have w := w.1 c70
                  refine r_inc (pc1 := 194) (g := fun zz => [some (rv 437), some (.int (J p0)), d29, some (.int (J x30)), some (.int (J zz)), some (rv a27), some (.int (J x31)), d32, d33, d34, d35]) rfl rfl rfl rfl (fun _ => rfl) (fun x39 ex39 rx39 => ?_)
                  have w := w x39 ex39 rx39
                  refine r_goto (t := 28) rfl rfl ?_
                  exact ih26 _ _ _ _ _ _ _ x30 x39 h28 t28 s28 rx30 rx39 (Nat.lt_of_lt_of_le w.2 (Nat.le_of_lt_succ q26)) w.1
                · have w := w.2 c70
                  refine r_n (pc1 := 64) [.int (J x31)] _ rfl rfl ?_
                  refine r_ald (pc1 := 66) rfl rfl rfl ?_
                  obtain ⟨c40, w⟩ := w
                  refine r_len (pc1 := 67) (u := 0) rfl rfl t28 c37 (by decide) (fun rc40 => ?_) c40
                  obtain ⟨J42, j42, w⟩ := w
                  have Q42 : ∀ (b41 : BitVec 64), J42 b41 → RR sc goal fs 247 86 [some (rv 437), some (.int (J p0)), d29, some (.int (J x30)), some (.int (J x18)), some (rv a27), some (.int (J x31)), d32, d33, d34, d35] [.long (G b41)] h28 := by
                    intro b41 z42
                    have w := j42 b41 z42
                    refine r_lst (pc1 := 88) (ls1 := [some (rv 437), some (.int (J p0)), d29, some (.int (J x30)), some (.int (J x18)), some (rv a27), some (.int (J x31)), some (.long (G b41)), none, d34, d35]) rfl rfl rfl rfl ?_
                    refine r_n (pc1 := 91) [.int (J 1000000)] _ rfl rfl ?_
                    refine r_n (pc1 := 93) [.int (J x18), .int (J 1000000)] _ rfl rfl ?_
                    refine r_imul (pc1 := 94) rfl rfl ?_
                    refine r_n (pc1 := 96) [.int (J x31), .int (J (wr (1000000 * x18)))] _ rfl rfl ?_
                    refine r_ald (pc1 := 98) rfl rfl rfl ?_
                    obtain ⟨c43, w⟩ := w
                    refine r_len (pc1 := 99) (u := 0) rfl rfl t28 c37 (by decide) (fun rc43 => ?_) c43
                    obtain ⟨J45, j45, w⟩ := w
                    have Q45 : ∀ (x44 : Int), rg x44 → J45 x44 → RR sc goal fs 247 116 [some (rv 437), some (.int (J p0)), d29, some (.int (J x30)), some (.int (J x18)), some (rv a27), some (.int (J x31)), some (.long (G b41)), none, d34, d35] [.int (J x44), .int (J (wr (1000000 * x18)))] h28 := by
                      intro x44 rx44 z45
                      have w := j45 x44 rx44 z45
                      refine r_iadd (pc1 := 117) rfl rfl ?_
                      refine r_vI (rgw _) (fun x46 ex46 rx46 => ?_)
                      have w := w x46 ex46 rx46
                      refine r_ist (pc1 := 119) (ls1 := [some (rv 437), some (.int (J p0)), d29, some (.int (J x30)), some (.int (J x18)), some (rv a27), some (.int (J x31)), some (.long (G b41)), none, some (.int (J x46)), d35]) rfl rfl rfl rfl ?_
                      refine r_aldn (pc1 := 120) rfl rfl rfl ?_
                      refine r_gfC (pc1 := 123) (q := 454) rfl rfl rfl t28 (lyk t28 rfl) rfl rfl (lyR t28 rfl rfl) ?_
                      refine r_n (pc1 := 124) [.int (J p0), rv 454] _ rfl rfl ?_
                      obtain ⟨c47, w⟩ := w
                      refine r_lal (pc1 := 125) rfl rfl t28 (lyk t28 rfl) rp0 c47.1 (lt_len (lyn t28 rfl) c47.2) ?_
                      refine r_n (pc1 := 127) [.long (G b41), .long (G (hL h28 454 p0.toNat))] _ rfl rfl ?_
                      refine r_land (pc1 := 128) rfl rfl ?_
                      refine r_n (pc1 := 129) [.long (G (0#64)), .long (G ((hL h28 454 p0.toNat) &&& b41))] _ rfl rfl ?_
                      obtain ⟨J49, j49, w⟩ := w
                      have Q49 : ∀ (x48 : Int), rg x48 → J49 x48 → RR sc goal fs 247 138 [some (rv 437), some (.int (J p0)), d29, some (.int (J x30)), some (.int (J x18)), some (rv a27), some (.int (J x31)), some (.long (G b41)), none, some (.int (J x46)), d35] [.int (J x48)] h28 := by
                        intro x48 rx48 z49
                        have w := j49 x48 rx48 z49
                        refine r_ist (pc1 := 140) (ls1 := [some (rv 437), some (.int (J p0)), d29, some (.int (J x30)), some (.int (J x18)), some (rv a27), some (.int (J x31)), some (.long (G b41)), none, some (.int (J x46)), some (.int (J x48))]) rfl rfl rfl rfl ?_
                        refine r_n (pc1 := 142) [.int (J x48)] _ rfl rfl ?_
                        obtain ⟨J52, j52, w⟩ := w
                        have Q52 : ∀ (d50 : Option Value) (x51 : Int), rg x51 → J52 x51 → RR sc goal fs 247 185 [some (rv 437), some (.int (J p0)), d50, some (.int (J x51)), some (.int (J x18)), some (rv a27), some (.int (J x31)), some (.long (G b41)), none, some (.int (J x46)), some (.int (J x48))] [] h28 := by
                          intro d50 x51 rx51 z52
                          have w := j52 x51 rx51 z52
                          refine r_inc (pc1 := 188) (g := fun zz => [some (rv 437), some (.int (J p0)), d50, some (.int (J x51)), some (.int (J x18)), some (rv a27), some (.int (J zz)), some (.long (G b41)), none, some (.int (J x46)), some (.int (J x48))]) rfl rfl rfl rfl (fun _ => xput1_rv rfl rfl) (fun x53 ex53 rx53 => ?_)
                          have w := w x53 ex53 rx53
                          refine r_goto (t := 54) rfl rfl ?_
                          exact ih36 _ _ _ _ _ x51 x53  rx51 rx53 (Nat.lt_of_lt_of_le w.2 (Nat.le_of_lt_succ q36)) w.1
                        obtain ⟨J54, j54, w⟩ := w
                        have Q54 : J54 → RR sc goal fs 247 162 [some (rv 437), some (.int (J p0)), d29, some (.int (J x30)), some (.int (J x18)), some (rv a27), some (.int (J x31)), some (.long (G b41)), none, some (.int (J x46)), some (.int (J x48))] [] h28 := by
                          intro z54
                          have w := j54 z54
                          refine r_n (pc1 := 163) [.int (J x30)] _ rfl rfl ?_
                          refine r_iz (t := 182) (pc1 := 166) rfl rfl rfl rx30 (fun c59 => ?_) (fun c59 => ?_)
                          · have w := w.1 c59
                            refine r_inc (pc1 := 185) (g := fun zz => [some (rv 437), some (.int (J p0)), (dcl d29), some (.int (J zz)), some (.int (J x18)), some (rv a27), some (.int (J x31)), some (.long (G b41)), none, some (.int (J x46)), some (.int (J x48))]) rfl rfl rfl rfl (fun _ => xput1_d rfl rfl) (fun x55 ex55 rx55 => ?_)
                            have w := w x55 ex55 rx55
                            exact Q52 _ x55  rx55 w
                          · have w := w.2 c59
                            refine r_n (pc1 := 168) [.int (J x48)] _ rfl rfl ?_
                            obtain ⟨J57, j57, w⟩ := w
                            have Q57 : ∀ (x56 : Int), rg x56 → J57 x56 → RR sc goal fs 247 181 [some (rv 437), some (.int (J p0)), d29, some (.int (J x30)), some (.int (J x18)), some (rv a27), some (.int (J x31)), some (.long (G b41)), none, some (.int (J x46)), some (.int (J x48))] [.int (J x56)] h28 := by
                              intro x56 rx56 z57
                              have w := j57 x56 rx56 z57
                              exact r_retI rfl rfl rfl (k _ _ t28 s28 rx56 w)
                            refine r_iz (t := 176) (pc1 := 171) rfl rfl rfl rx48 (fun c58 => ?_) (fun c58 => ?_)
                            · have w := w.1 c58
                              refine r_n (pc1 := 178) [.int (J x46)] _ rfl rfl ?_
                              refine r_ineg (pc1 := 179) rfl rfl ?_
                              refine r_n (pc1 := 180) [.int (J 1), .int (J (wr (-x46)))] _ rfl rfl ?_
                              refine r_isub (pc1 := 181) rfl rfl ?_
                              exact Q57  (wr ((wr (-x46)) - 1))  (rgw _) w
                            · have w := w.2 c58
                              refine r_n (pc1 := 173) [.int (J x46)] _ rfl rfl ?_
                              refine r_goto (t := 181) rfl rfl ?_
                              exact Q57  x46  rx46 w
                        refine r_iz (t := 162) (pc1 := 145) rfl rfl rfl rx48 (fun c61 => ?_) (fun c61 => ?_)
                        · have w := w.1 c61
                          exact Q54     w
                        · have w := w.2 c61
                          refine r_aldn (pc1 := 146) rfl rfl rfl ?_
                          refine r_gfC (pc1 := 149) (q := 455) rfl rfl rfl t28 (lyk t28 rfl) rfl rfl (lyR t28 rfl rfl) ?_
                          refine r_n (pc1 := 150) [.int (J p0), rv 455] _ rfl rfl ?_
                          refine r_lal (pc1 := 151) rfl rfl t28 (lyk t28 rfl) rp0 c47.1 (lt_len (lyn t28 rfl) c47.2) ?_
                          refine r_n (pc1 := 153) [.long (G b41), .long (G (hL h28 455 p0.toNat))] _ rfl rfl ?_
                          refine r_land (pc1 := 154) rfl rfl ?_
                          refine r_n (pc1 := 155) [.long (G (0#64)), .long (G ((hL h28 455 p0.toNat) &&& b41))] _ rfl rfl ?_
                          refine r_lc (pc2 := 156) (t := 162) (pc1 := 159) rfl rfl rfl rfl rfl (fun c60 => ?_) (fun c60 => ?_)
                          · have w := w.1 c60
                            exact Q54     w
                          · have w := w.2 c60
                            refine r_goto (t := 185) rfl rfl ?_
                            exact Q52 _ x30  rx30 w
                      refine r_lc (pc2 := 130) (t := 137) (pc1 := 133) rfl rfl rfl rfl rfl (fun c62 => ?_) (fun c62 => ?_)
                      · have w := w.1 c62
                        refine r_n (pc1 := 138) [.int (J 0)] _ rfl rfl ?_
                        exact Q49  0  (rgk rfl) w
                      · have w := w.2 c62
                        refine r_n (pc1 := 134) [.int (J 1)] _ rfl rfl ?_
                        refine r_goto (t := 138) rfl rfl ?_
                        exact Q49  1  (rgk rfl) w
                    refine r_ic (t := 106) (pc1 := 102) rfl rfl rfl rx31 rc43 (fun c65 => ?_) (fun c65 => ?_)
                    · have w := w.1 c65
                      refine r_aldn (pc1 := 107) rfl rfl rfl ?_
                      refine r_ald (pc1 := 109) rfl rfl rfl ?_
                      refine r_n (pc1 := 111) [.int (J x31), rv a27, rv 437, .int (J (wr (1000000 * x18)))] _ rfl rfl ?_
                      obtain ⟨c63, w⟩ := w
                      refine r_ial (pc1 := 112) rfl rfl t28 c37 rx31 c63.1 c63.2 ?_
                      refine r_n (pc1 := 113) [.int (J 1), .int (J (hI h28 a27 x31.toNat)), rv 437, .int (J (wr (1000000 * x18)))] _ rfl rfl ?_
                      refine r_iv rfl rfl rfl rfl rfl rfl t28 (lyk t28 rfl) rfl (xe_of (xa_r (xa_i (xa_i xa_0))) rfl rfl) (r_d0 hd rfl) (a_X14_ver (hI h28 a27 x31.toNat) 1 (r_d1 hd rfl) (rgh _ _ _) (rgk rfl) w t28 (fun x64 rx64 w => ?_))
                      refine r_fI (pc1 := 116) rfl ?_
                      have w := w rx64
                      exact Q45  x64  rx64 w
                    · have w := w.2 c65
                      refine r_n (pc1 := 103) [.int (J 0), .int (J (wr (1000000 * x18)))] _ rfl rfl ?_
                      refine r_goto (t := 116) rfl rfl ?_
                      exact Q45  0  (rgk rfl) w
                  refine r_ic (t := 78) (pc1 := 70) rfl rfl rfl rx31 rc40 (fun c69 => ?_) (fun c69 => ?_)
                  · have w := w.1 c69
                    refine r_ald (pc1 := 80) rfl rfl rfl ?_
                    refine r_n (pc1 := 82) [.int (J x31), rv a27] _ rfl rfl ?_
                    obtain ⟨c66, w⟩ := w
                    refine r_ial (pc1 := 83) rfl rfl t28 c37 rx31 c66.1 c66.2 ?_
                    refine r_iq rfl rfl rfl rfl rfl rfl (xe_of (xa_i xa_0) rfl rfl) (r_d0 hd rfl) (a_X14_bit (hI h28 a27 x31.toNat) (r_d1 hd rfl) (rgh _ _ _) w t28 (fun b67 w => ?_))
                    refine r_fL (pc1 := 86) rfl ?_
                    exact Q42  b67   w
                  · have w := w.2 c69
                    refine r_n (pc1 := 72) [.int (J x18)] _ rfl rfl ?_
                    refine r_iq rfl rfl rfl rfl rfl rfl (xe_of (xa_i xa_0) rfl rfl) (r_d0 hd rfl) (a_X14_optionBit x18 (r_d1 hd rfl) rx18 w t28 (fun b68 w => ?_))
                    refine r_fL (pc1 := 75) rfl ?_
                    refine r_goto (t := 86) rfl rfl ?_
                    exact Q42  b68   w
            exact Q36 _ _ _ _ _ _ x17 0  rx17 (rgk rfl) (Nat.lt_succ_self _) w
    exact Q26 _ _ _ _ _ _ _ _ p1 0 h2 t2 s2 rp1 (rgk rfl) (Nat.lt_succ_self _) w
def w_X12_checkLock (p0 : Int) (K : Prop) (E : Nat → XH → Prop) (h : XH) : Prop :=
  (∃ J1 : Prop, (J1 → (E 1 (nT h))) ∧ ((p0 < 0 → J1) ∧ (¬ (p0 < 0) → (((p0 < 3 → (K)) ∧ (¬ (p0 < 3) → J1))))))
set_option maxHeartbeats 4000000 in
theorem a_X12_checkLock {sc : Nat × (Nat → Int32)} {goal : XO → XH → Prop} {fs : List XF} {h : XH} (p0 : Int) {K : Prop} {E : Nat → XH → Prop} (hd : fs.length + 0 ≤ 1000) (rp0 : rg p0) (w : w_X12_checkLock p0 K E h) (t0 : HT h) (k : K → XFin xP sc goal fs (.inl none) h) (kE : ∀ (x : Nat) (h1 : XH), HT h1 → HX h h1 → E x h1 → XFin xP sc goal fs (.inr x) h1) : RR sc goal fs 90 0 [some (.int (J p0))] [] h := by
  unfold w_X12_checkLock at w
  refine r_n (pc1 := 1) [.int (J p0)] _ rfl rfl ?_
  obtain ⟨J1, j1, w⟩ := w
  have Q1 : J1 → RR sc goal fs 90 9 [some (.int (J p0))] [] h := by
    intro z1
    have w := j1 z1
    exact r_thr rfl rfl rfl rfl rfl rfl (kE _ _ (HT_nT t0).1 (HX_trans (HX_refl h) (HT_nT t0).2) w)
  refine r_iz (t := 9) (pc1 := 4) rfl rfl rfl rp0 (fun c3 => ?_) (fun c3 => ?_)
  · have w := w.1 c3
    exact Q1     w
  · have w := w.2 c3
    refine r_n (pc1 := 5) [.int (J p0)] _ rfl rfl ?_
    refine r_n (pc1 := 6) [.int (J 3), .int (J p0)] _ rfl rfl ?_
    refine r_ic (t := 20) (pc1 := 9) rfl rfl rfl rp0 (rgk rfl) (fun c2 => ?_) (fun c2 => ?_)
    · have w := w.1 c2
      exact r_retV rfl rfl rfl (k  w)
    · have w := w.2 c2
      exact Q1     w
def w_X12_lock (p0 : Int) (K : Int → XH → Prop) (E : Nat → XH → Prop) (h : XH) : Prop :=
  (w_X12_checkLock p0 ((w_X12_remember (fun h1 => HT h1 → HX h h1 → (w_X11_atHand (fun a2 => (hk h1 a2 = 7 ∧ (0 ≤ p0 ∧ p0 < 3) ∧ ∀ h5 : XH, h5 = sL h1 39 p0.toNat (hL h1 a2 5) → HT h5 → HX h1 h5 → w_X12_packsIn (hL h5 39 p0.toNat) (fun x6 => rg x6 → (K x6 h5)) h5)) h1)) h)) E h)
set_option maxHeartbeats 4000000 in
theorem a_X12_lock {sc : Nat × (Nat → Int32)} {goal : XO → XH → Prop} {fs : List XF} {h : XH} (p0 : Int) {K : Int → XH → Prop} {E : Nat → XH → Prop} (hd : fs.length + 4 ≤ 1000) (rp0 : rg p0) (w : w_X12_lock p0 K E h) (t0 : HT h) (k : ∀ (r : Int) (h1 : XH), HT h1 → HX h h1 → rg r → K r h1 → XFin xP sc goal fs (.inl (some (.int (J r)))) h1) (kE : ∀ (x : Nat) (h1 : XH), HT h1 → HX h h1 → E x h1 → XFin xP sc goal fs (.inr x) h1) : RR sc goal fs 124 0 [some (rv 2), some (.int (J p0))] [] h := by
  unfold w_X12_lock at w
  refine r_n (pc1 := 1) [.int (J p0)] _ rfl rfl ?_
  refine r_iq rfl rfl rfl rfl rfl rfl (xe_of (xa_i xa_0) rfl rfl) (r_d0 hd rfl) (a_X12_checkLock p0 (r_d1 hd rfl) rp0 w t0 (fun w => ?_) (fun x y ty uy w => r_finx rfl rfl (kE x y ty (HX_trans (HX_refl h) uy) w)))
  refine r_fV (pc1 := 4) rfl ?_
  refine r_aldn (pc1 := 5) rfl rfl rfl ?_
  refine r_iv rfl rfl rfl rfl rfl rfl t0 (lyk t0 rfl) rfl (xe_of (xa_r xa_0) rfl rfl) (r_d0 hd rfl) (a_X12_remember  (r_d1 hd rfl)  w t0 (fun h1 t1 u1 w => ?_))
  refine r_fV (pc1 := 8) rfl ?_
  have s1 := HX_trans (HX_refl h) u1
  have w := w t1 u1
  refine r_aldn (pc1 := 9) rfl rfl rfl ?_
  refine r_gfC (pc1 := 12) (q := 8) rfl rfl rfl t1 (lyk t1 rfl) rfl rfl (lyR t1 rfl rfl) ?_
  refine r_gfC (pc1 := 15) (q := 39) rfl rfl rfl t1 (lyk t1 rfl) rfl rfl (lyR t1 rfl rfl) ?_
  refine r_n (pc1 := 16) [.int (J p0), rv 39] _ rfl rfl ?_
  refine r_aldn (pc1 := 17) rfl rfl rfl ?_
  refine r_gfC (pc1 := 20) (q := 8) rfl rfl rfl t1 (lyk t1 rfl) rfl rfl (lyR t1 rfl rfl) ?_
  refine r_iv rfl rfl rfl rfl rfl rfl t1 (lyk t1 rfl) rfl (xe_of (xa_r xa_0) rfl rfl) (r_d0 hd rfl) (a_X11_atHand  (r_d1 hd rfl)  w t1 (fun a2 w => ?_))
  refine r_fR (pc1 := 23) rfl ?_
  obtain ⟨c3, w⟩ := w
  refine r_gfL (pc1 := 26) rfl rfl rfl t1 c3 rfl rfl ?_
  obtain ⟨c4, w⟩ := w
  refine r_last (pc1 := 27) rfl rfl t1 (lyk t1 rfl) rp0 c4.1 (lt_len (lyn t1 rfl) c4.2) (fun h5 eh5 t5 u5 => ?_)
  have w := w h5 eh5 t5 u5
  have s5 := HX_trans s1 u5
  refine r_aldn (pc1 := 28) rfl rfl rfl ?_
  refine r_gfC (pc1 := 31) (q := 8) rfl rfl rfl t5 (lyk t5 rfl) rfl rfl (lyR t5 rfl rfl) ?_
  refine r_gfC (pc1 := 34) (q := 39) rfl rfl rfl t5 (lyk t5 rfl) rfl rfl (lyR t5 rfl rfl) ?_
  refine r_n (pc1 := 35) [.int (J p0), rv 39] _ rfl rfl ?_
  refine r_lal (pc1 := 36) rfl rfl t5 (lyk t5 rfl) rp0 c4.1 (lt_len (lyn t5 rfl) c4.2) ?_
  refine r_iq rfl rfl rfl rfl rfl rfl (xe_of (xa_l xa_0) rfl rfl) (r_d0 hd rfl) (a_X12_packsIn (hL h5 39 p0.toNat) (r_d1 hd rfl)  w t5 (fun x6 rx6 w => ?_))
  refine r_fI (pc1 := 39) rfl ?_
  have w := w rx6
  exact r_retI rfl rfl rfl (k _ _ t5 s5 rx6 w)
def w_L_lock (p1 : Int) (K : Int → XH → Prop) (h : XH) : Prop :=
  (w_X12_lock p1 (fun x1 h2 => HT h2 → HX h h2 → rg x1 → (∀ h5 : XH, h5 = sL h2 467 0 (i2l x1) → HT h5 → HX h2 h5 → (K 0 h5))) (fun y4 h3 => ((y4 = 1 ∧ K 1 h3))) h)
set_option maxHeartbeats 4000000 in
theorem a_L_lock {sc : Nat × (Nat → Int32)} {goal : XO → XH → Prop} {fs : List XF} {h : XH} (p1 : Int) {K : Int → XH → Prop} (hd : fs.length + 5 ≤ 1000) (rp1 : rg p1) (w : w_L_lock p1 K h) (t0 : HT h) (k : ∀ (r : Int) (h1 : XH), HT h1 → HX h h1 → rg r → K r h1 → XFin xP sc goal fs (.inl (some (.int (J r)))) h1) : RR sc goal fs 43 0 [some (rv 2), some (.int (J p1)), some (rv 467), none] [] h := by
  unfold w_L_lock at w
  refine r_aldn (pc1 := 1) rfl rfl rfl ?_
  refine r_n (pc1 := 2) [.int (J 0), rv 467] _ rfl rfl ?_
  refine r_aldn (pc1 := 3) rfl rfl rfl ?_
  refine r_n (pc1 := 4) [.int (J p1), rv 2, .int (J 0), rv 467] _ rfl rfl ?_
  refine r_iv rfl rfl rfl rfl rfl rfl t0 (lyk t0 rfl) rfl (xe_of (xa_r (xa_i xa_0)) rfl rfl) (r_d0 hd rfl) (a_X12_lock p1 (r_d1 hd rfl) rp1 w t0 (fun x1 h2 t2 u2 rx1 w => ?_) (fun y4 h3 ty uy w => ?_))
  · refine r_fI (pc1 := 7) rfl ?_
    have s2 := HX_trans (HX_refl h) u2
    have w := w t2 u2
    have w := w rx1
    refine r_i2l (pc1 := 8) rfl rfl ?_
    refine r_last (pc1 := 9) rfl rfl t2 (lyk t2 rfl) (rgk rfl) (by decide) (lt_len (lyn t2 rfl) (by decide)) (fun h5 eh5 t5 u5 => ?_)
    have w := w h5 eh5 t5 u5
    have s5 := HX_trans s2 u5
    refine r_goto (t := 15) rfl rfl ?_
    refine r_n (pc1 := 16) [.int (J 0)] _ rfl rfl ?_
    exact r_retI rfl rfl rfl (k _ _ t5 s5 (rgk rfl) w)
  · obtain ⟨rfl, w⟩ := w
    exact r_fink (z := 1) rfl (by decide) rfl rfl (k _ _ ty (HX_trans (HX_refl h) uy) (rgk rfl) w)
def w_X14_isLock (p0 : Int) (K : Int → Prop) (h : XH) : Prop :=
  (w_X14_within p0 0 2 (fun x1 => rg x1 → (x1 = 0 ∨ x1 = 1) → (K x1)) h)
set_option maxHeartbeats 4000000 in
theorem a_X14_isLock {sc : Nat × (Nat → Int32)} {goal : XO → XH → Prop} {fs : List XF} {h : XH} (p0 : Int) {K : Int → Prop} (hd : fs.length + 1 ≤ 1000) (rp0 : rg p0) (w : w_X14_isLock p0 K h) (t0 : HT h) (k : ∀ (r : Int), rg r → (r = 0 ∨ r = 1) → K r → XFin xP sc goal fs (.inl (some (.int (J r)))) h) : RR sc goal fs 231 0 [some (.int (J p0))] [] h := by
  unfold w_X14_isLock at w
  refine r_n (pc1 := 1) [.int (J p0)] _ rfl rfl ?_
  refine r_n (pc1 := 2) [.int (J 0), .int (J p0)] _ rfl rfl ?_
  refine r_n (pc1 := 3) [.int (J 2), .int (J 0), .int (J p0)] _ rfl rfl ?_
  refine r_iq rfl rfl rfl rfl rfl rfl (xe_of (xa_i (xa_i (xa_i xa_0))) rfl rfl) (r_d0 hd rfl) (a_X14_within p0 0 2 (r_d1 hd rfl) rp0 (rgk rfl) (rgk rfl) w t0 (fun x1 rx1 vx1 w => ?_))
  refine r_fI (pc1 := 6) rfl ?_
  have w := w rx1 vx1
  exact r_retB rfl rfl rfl vx1 (k _ rx1 vx1 w)
def w_X14_lock (p0 : Int) (K : Int → XH → Prop) (h : XH) : Prop :=
  (∀ h1 : XH, h1 = sI h 437 5 0 → HT h1 → HX h h1 → w_X14_isLock p0 (fun x2 => rg x2 → (x2 = 0 ∨ x2 = 1) → (w_X14_refused x2 1 (fun x3 h4 => HT h4 → HX h1 h4 → rg x3 → (x3 = 0 ∨ x3 = 1) → (((x3 = 0 → (w_X14_record (fun h5 => HT h5 → HX h4 h5 → (w_X14_goalSet (fun a6 h7 => HT h7 → HX h5 h7 → (hk h7 a6 = 100 ∧ (¬ a6 = 438 ∧ (0 : Int) ≤ 0 ∧ (0 : Int) ≤ wr (1678 + (wr (12 * p0))) ∧ (0 : Int) ≤ 12 ∧ ((0 + 12 : Int)) ≤ (hn h7 a6 : Int) ∧ (((wr (1678 + (wr (12 * p0)))) + 12 : Int)) ≤ 1957) ∧ ∀ h10 : XH, h10 = cA h7 a6 0 438 (wr (1678 + (wr (12 * p0)))).toNat 12 → HT h10 → HX h7 h10 → w_X14_manyIn a6 (fun x11 => rg x11 → (K x11 h10)) h10)) h5)) h4)) ∧ (¬ (x3 = 0) → (K 0 h4))))) h1)) h1)
set_option maxHeartbeats 4000000 in
theorem a_X14_lock {sc : Nat × (Nat → Int32)} {goal : XO → XH → Prop} {fs : List XF} {h : XH} (p0 : Int) {K : Int → XH → Prop} (hd : fs.length + 2 ≤ 1000) (rp0 : rg p0) (w : w_X14_lock p0 K h) (t0 : HT h) (k : ∀ (r : Int) (h1 : XH), HT h1 → HX h h1 → rg r → K r h1 → XFin xP sc goal fs (.inl (some (.int (J r)))) h1) : RR sc goal fs 248 0 [some (rv 437), some (.int (J p0)), none] [] h := by
  unfold w_X14_lock at w
  refine r_aldn (pc1 := 1) rfl rfl rfl ?_
  refine r_n (pc1 := 2) [.int (J 0), rv 437] _ rfl rfl ?_
  refine r_pfI (pc1 := 5) rfl rfl rfl t0 (lyk t0 rfl) rfl rfl rfl (fun h1 eh1 t1 u1 => ?_)
  have w := w h1 eh1 t1 u1
  have s1 := HX_trans (HX_refl h) u1
  refine r_aldn (pc1 := 6) rfl rfl rfl ?_
  refine r_n (pc1 := 7) [.int (J p0), rv 437] _ rfl rfl ?_
  refine r_iq rfl rfl rfl rfl rfl rfl (xe_of (xa_i xa_0) rfl rfl) (r_d0 hd rfl) (a_X14_isLock p0 (r_d1 hd rfl) rp0 w t1 (fun x2 rx2 vx2 w => ?_))
  refine r_fI (pc1 := 10) rfl ?_
  have w := w rx2 vx2
  refine r_n (pc1 := 11) [.int (J 1), .int (J x2), rv 437] _ rfl rfl ?_
  refine r_iv rfl rfl rfl rfl rfl rfl t1 (lyk t1 rfl) rfl (xe_of (xa_r (xa_i (xa_i xa_0))) rfl rfl) (r_d0 hd rfl) (a_X14_refused x2 1 (r_d1 hd rfl) rx2 (rgk rfl) w t1 (fun x3 h4 t4 u4 rx3 vx3 w => ?_))
  refine r_fI (pc1 := 14) rfl ?_
  have s4 := HX_trans s1 u4
  have w := w t4 u4
  have w := w rx3 vx3
  refine r_iz (t := 19) (pc1 := 17) rfl rfl rfl rx3 (fun c12 => ?_) (fun c12 => ?_)
  · have w := w.1 c12
    refine r_aldn (pc1 := 20) rfl rfl rfl ?_
    refine r_iv rfl rfl rfl rfl rfl rfl t4 (lyk t4 rfl) rfl (xe_of (xa_r xa_0) rfl rfl) (r_d0 hd rfl) (a_X14_record  (r_d1 hd rfl)  w t4 (fun h5 t5 u5 w => ?_))
    refine r_fV (pc1 := 23) rfl ?_
    have s5 := HX_trans s4 u5
    have w := w t5 u5
    refine r_aldn (pc1 := 24) rfl rfl rfl ?_
    refine r_iv rfl rfl rfl rfl rfl rfl t5 (lyk t5 rfl) rfl (xe_of (xa_r xa_0) rfl rfl) (r_d0 hd rfl) (a_X14_goalSet  (r_d1 hd rfl)  w t5 (fun a6 h7 t7 u7 w => ?_))
    refine r_fR (pc1 := 27) rfl ?_
    have s7 := HX_trans s5 u7
    have w := w t7 u7
    refine r_astn (pc1 := 28) (ls1 := [some (rv 437), some (.int (J p0)), some (rv a6)]) rfl rfl rfl rfl ?_
    refine r_aldn (pc1 := 29) rfl rfl rfl ?_
    refine r_n (pc1 := 30) [.int (J 0), rv a6] _ rfl rfl ?_
    refine r_aldn (pc1 := 31) rfl rfl rfl ?_
    refine r_gfC (pc1 := 34) (q := 438) rfl rfl rfl t7 (lyk t7 rfl) rfl rfl (lyR t7 rfl rfl) ?_
    refine r_n (pc1 := 37) [.int (J 1678), rv 438, .int (J 0), rv a6] _ rfl rfl ?_
    refine r_n (pc1 := 39) [.int (J 12), .int (J 1678), rv 438, .int (J 0), rv a6] _ rfl rfl ?_
    refine r_n (pc1 := 40) [.int (J p0), .int (J 12), .int (J 1678), rv 438, .int (J 0), rv a6] _ rfl rfl ?_
    refine r_imul (pc1 := 41) rfl rfl ?_
    refine r_iadd (pc1 := 42) rfl rfl ?_
    refine r_n (pc1 := 44) [.int (J 12), .int (J (wr (1678 + (wr (12 * p0))))), rv 438, .int (J 0), rv a6] _ rfl rfl ?_
    obtain ⟨c8, w⟩ := w
    obtain ⟨c9, w⟩ := w
    refine r_cp (pc1 := 47) (u := 0) rfl rfl rfl rfl t7 c8 (lyk t7 rfl) (by decide) (rgk rfl) (rgw _) (rgk rfl) rfl (lyn t7 rfl) c9 (fun h10 eh10 t10 u10 => ?_)
    have w := w h10 eh10 t10 u10
    have s10 := HX_trans s7 u10
    refine r_aldn (pc1 := 48) rfl rfl rfl ?_
    refine r_iq rfl rfl rfl rfl rfl rfl (xe_of (xa_r xa_0) rfl rfl) (r_d0 hd rfl) (a_X14_manyIn a6 (r_d1 hd rfl)  w t10 (fun x11 rx11 w => ?_))
    refine r_fI (pc1 := 51) rfl ?_
    have w := w rx11
    exact r_retI rfl rfl rfl (k _ _ t10 s10 rx11 w)
  · have w := w.2 c12
    refine r_n (pc1 := 18) [.int (J 0)] _ rfl rfl ?_
    exact r_retI rfl rfl rfl (k _ _ t4 s4 (rgk rfl) w)
def w_X12_lockDiffers (p0 : Int) (p1 : Int) (K : Int → Prop) (E : Nat → XH → Prop) (h : XH) : Prop :=
  (w_X12_checkLock p0 ((w_X12_checkLock p1 (((0 ≤ p0 ∧ p0 < 3) ∧ (0 ≤ p1 ∧ p1 < 3) ∧ w_X12_changesBetween (hL h 39 p0.toNat) (hL h 39 p1.toNat) (fun x3 => rg x3 → (K x3)) h)) E h)) E h)
set_option maxHeartbeats 4000000 in
theorem a_X12_lockDiffers {sc : Nat × (Nat → Int32)} {goal : XO → XH → Prop} {fs : List XF} {h : XH} (p0 : Int) (p1 : Int) {K : Int → Prop} {E : Nat → XH → Prop} (hd : fs.length + 2 ≤ 1000) (rp0 : rg p0) (rp1 : rg p1) (w : w_X12_lockDiffers p0 p1 K E h) (t0 : HT h) (k : ∀ (r : Int), rg r → K r → XFin xP sc goal fs (.inl (some (.int (J r)))) h) (kE : ∀ (x : Nat) (h1 : XH), HT h1 → HX h h1 → E x h1 → XFin xP sc goal fs (.inr x) h1) : RR sc goal fs 125 0 [some (rv 2), some (.int (J p0)), some (.int (J p1))] [] h := by
  unfold w_X12_lockDiffers at w
  refine r_n (pc1 := 1) [.int (J p0)] _ rfl rfl ?_
  refine r_iq rfl rfl rfl rfl rfl rfl (xe_of (xa_i xa_0) rfl rfl) (r_d0 hd rfl) (a_X12_checkLock p0 (r_d1 hd rfl) rp0 w t0 (fun w => ?_) (fun x y ty uy w => r_finx rfl rfl (kE x y ty (HX_trans (HX_refl h) uy) w)))
  refine r_fV (pc1 := 4) rfl ?_
  refine r_n (pc1 := 5) [.int (J p1)] _ rfl rfl ?_
  refine r_iq rfl rfl rfl rfl rfl rfl (xe_of (xa_i xa_0) rfl rfl) (r_d0 hd rfl) (a_X12_checkLock p1 (r_d1 hd rfl) rp1 w t0 (fun w => ?_) (fun x y ty uy w => r_finx rfl rfl (kE x y ty (HX_trans (HX_refl h) uy) w)))
  refine r_fV (pc1 := 8) rfl ?_
  refine r_aldn (pc1 := 9) rfl rfl rfl ?_
  refine r_aldn (pc1 := 10) rfl rfl rfl ?_
  refine r_gfC (pc1 := 13) (q := 8) rfl rfl rfl t0 (lyk t0 rfl) rfl rfl (lyR t0 rfl rfl) ?_
  refine r_gfC (pc1 := 16) (q := 39) rfl rfl rfl t0 (lyk t0 rfl) rfl rfl (lyR t0 rfl rfl) ?_
  refine r_n (pc1 := 17) [.int (J p0), rv 39, rv 2] _ rfl rfl ?_
  obtain ⟨c1, w⟩ := w
  refine r_lal (pc1 := 18) rfl rfl t0 (lyk t0 rfl) rp0 c1.1 (lt_len (lyn t0 rfl) c1.2) ?_
  refine r_aldn (pc1 := 19) rfl rfl rfl ?_
  refine r_gfC (pc1 := 22) (q := 8) rfl rfl rfl t0 (lyk t0 rfl) rfl rfl (lyR t0 rfl rfl) ?_
  refine r_gfC (pc1 := 25) (q := 39) rfl rfl rfl t0 (lyk t0 rfl) rfl rfl (lyR t0 rfl rfl) ?_
  refine r_n (pc1 := 26) [.int (J p1), rv 39, .long (G (hL h 39 p0.toNat)), rv 2] _ rfl rfl ?_
  obtain ⟨c2, w⟩ := w
  refine r_lal (pc1 := 27) rfl rfl t0 (lyk t0 rfl) rp1 c2.1 (lt_len (lyn t0 rfl) c2.2) ?_
  refine r_iv rfl rfl rfl rfl rfl rfl t0 (lyk t0 rfl) rfl (xe_of (xa_r (xa_l (xa_l xa_0))) rfl rfl) (r_d0 hd rfl) (a_X12_changesBetween (hL h 39 p0.toNat) (hL h 39 p1.toNat) (r_d1 hd rfl)  w t0 (fun x3 rx3 w => ?_))
  refine r_fI (pc1 := 30) rfl ?_
  have w := w rx3
  exact r_retI rfl rfl rfl (k _ rx3 w)
def w_L_lockDiffers (p1 : Int) (p2 : Int) (K : Int → XH → Prop) (h : XH) : Prop :=
  (w_X12_lockDiffers p1 p2 (fun x1 => rg x1 → (∀ h4 : XH, h4 = sL h 467 0 (i2l x1) → HT h4 → HX h h4 → (K 0 h4))) (fun y3 h2 => ((y3 = 1 ∧ K 1 h2))) h)
set_option maxHeartbeats 4000000 in
theorem a_L_lockDiffers {sc : Nat × (Nat → Int32)} {goal : XO → XH → Prop} {fs : List XF} {h : XH} (p1 : Int) (p2 : Int) {K : Int → XH → Prop} (hd : fs.length + 3 ≤ 1000) (rp1 : rg p1) (rp2 : rg p2) (w : w_L_lockDiffers p1 p2 K h) (t0 : HT h) (k : ∀ (r : Int) (h1 : XH), HT h1 → HX h h1 → rg r → K r h1 → XFin xP sc goal fs (.inl (some (.int (J r)))) h1) : RR sc goal fs 44 0 [some (rv 2), some (.int (J p1)), some (.int (J p2)), some (rv 467), none] [] h := by
  unfold w_L_lockDiffers at w
  refine r_aldn (pc1 := 1) rfl rfl rfl ?_
  refine r_n (pc1 := 2) [.int (J 0), rv 467] _ rfl rfl ?_
  refine r_aldn (pc1 := 3) rfl rfl rfl ?_
  refine r_n (pc1 := 4) [.int (J p1), rv 2, .int (J 0), rv 467] _ rfl rfl ?_
  refine r_n (pc1 := 5) [.int (J p2), .int (J p1), rv 2, .int (J 0), rv 467] _ rfl rfl ?_
  refine r_iv rfl rfl rfl rfl rfl rfl t0 (lyk t0 rfl) rfl (xe_of (xa_r (xa_i (xa_i xa_0))) rfl rfl) (r_d0 hd rfl) (a_X12_lockDiffers p1 p2 (r_d1 hd rfl) rp1 rp2 w t0 (fun x1 rx1 w => ?_) (fun y3 h2 ty uy w => ?_))
  · refine r_fI (pc1 := 8) rfl ?_
    have w := w rx1
    refine r_i2l (pc1 := 9) rfl rfl ?_
    refine r_last (pc1 := 10) rfl rfl t0 (lyk t0 rfl) (rgk rfl) (by decide) (lt_len (lyn t0 rfl) (by decide)) (fun h4 eh4 t4 u4 => ?_)
    have w := w h4 eh4 t4 u4
    have s4 := HX_trans (HX_refl h) u4
    refine r_goto (t := 17) rfl rfl ?_
    refine r_n (pc1 := 18) [.int (J 0)] _ rfl rfl ?_
    exact r_retI rfl rfl rfl (k _ _ t4 s4 (rgk rfl) w)
  · obtain ⟨rfl, w⟩ := w
    exact r_fink (z := 1) rfl (by decide) rfl rfl (k _ _ ty (HX_trans (HX_refl h) uy) (rgk rfl) w)
def w_X14_lockDiffers (p0 : Int) (p1 : Int) (K : Int → XH → Prop) (h : XH) : Prop :=
  (∀ h1 : XH, h1 = sI h 437 5 0 → HT h1 → HX h h1 → w_X14_isLock p0 (fun x2 => rg x2 → (x2 = 0 ∨ x2 = 1) → (∃ J4 : Int → Prop, (∀ (x3 : Int), rg x3 → J4 x3 → (w_X14_refused x3 1 (fun x5 h6 => HT h6 → HX h1 h6 → rg x5 → (x5 = 0 ∨ x5 = 1) → (∃ J9 : Int → XH → Prop, (∀ (x7 : Int) (h8 : XH), HT h8 → HX h h8 → rg x7 → J9 x7 h8 → (K x7 h8)) ∧ ((x5 = 0 → (w_X14_setAt (wr (1678 + (wr (12 * p0)))) (fun a10 h11 => HT h11 → HX h6 h11 → (w_X14_setAt (wr (1678 + (wr (12 * p1)))) (fun a12 h13 => HT h13 → HX h11 h13 → (w_X14_differences a10 a12 (fun x14 => rg x14 → J9 x14 h13) h13)) h11)) h6)) ∧ (¬ (x5 = 0) → (J9 0 h6))))) h1)) ∧ ∃ J16 : Prop, (J16 → (J4 0)) ∧ ((x2 = 0 → J16) ∧ (¬ (x2 = 0) → (w_X14_isLock p1 (fun x17 => rg x17 → (x17 = 0 ∨ x17 = 1) → (((x17 = 0 → J16) ∧ (¬ (x17 = 0) → (J4 1))))) h1))))) h1)
set_option maxHeartbeats 4000000 in
theorem a_X14_lockDiffers {sc : Nat × (Nat → Int32)} {goal : XO → XH → Prop} {fs : List XF} {h : XH} (p0 : Int) (p1 : Int) {K : Int → XH → Prop} (hd : fs.length + 2 ≤ 1000) (rp0 : rg p0) (rp1 : rg p1) (w : w_X14_lockDiffers p0 p1 K h) (t0 : HT h) (k : ∀ (r : Int) (h1 : XH), HT h1 → HX h h1 → rg r → K r h1 → XFin xP sc goal fs (.inl (some (.int (J r)))) h1) : RR sc goal fs 249 0 [some (rv 437), some (.int (J p0)), some (.int (J p1))] [] h := by
  unfold w_X14_lockDiffers at w
  refine r_aldn (pc1 := 1) rfl rfl rfl ?_
  refine r_n (pc1 := 2) [.int (J 0), rv 437] _ rfl rfl ?_
  refine r_pfI (pc1 := 5) rfl rfl rfl t0 (lyk t0 rfl) rfl rfl rfl (fun h1 eh1 t1 u1 => ?_)
  have w := w h1 eh1 t1 u1
  have s1 := HX_trans (HX_refl h) u1
  refine r_aldn (pc1 := 6) rfl rfl rfl ?_
  refine r_n (pc1 := 7) [.int (J p0), rv 437] _ rfl rfl ?_
  refine r_iq rfl rfl rfl rfl rfl rfl (xe_of (xa_i xa_0) rfl rfl) (r_d0 hd rfl) (a_X14_isLock p0 (r_d1 hd rfl) rp0 w t1 (fun x2 rx2 vx2 w => ?_))
  refine r_fI (pc1 := 10) rfl ?_
  have w := w rx2 vx2
  obtain ⟨J4, j4, w⟩ := w
  have Q4 : ∀ (x3 : Int), rg x3 → J4 x3 → RR sc goal fs 249 25 [some (rv 437), some (.int (J p0)), some (.int (J p1))] [.int (J x3), rv 437] h1 := by
    intro x3 rx3 z4
    have w := j4 x3 rx3 z4
    refine r_n (pc1 := 26) [.int (J 1), .int (J x3), rv 437] _ rfl rfl ?_
    refine r_iv rfl rfl rfl rfl rfl rfl t1 (lyk t1 rfl) rfl (xe_of (xa_r (xa_i (xa_i xa_0))) rfl rfl) (r_d0 hd rfl) (a_X14_refused x3 1 (r_d1 hd rfl) rx3 (rgk rfl) w t1 (fun x5 h6 t6 u6 rx5 vx5 w => ?_))
    refine r_fI (pc1 := 29) rfl ?_
    have s6 := HX_trans s1 u6
    have w := w t6 u6
    have w := w rx5 vx5
    obtain ⟨J9, j9, w⟩ := w
    have Q9 : ∀ (x7 : Int) (h8 : XH), HT h8 → HX h h8 → rg x7 → J9 x7 h8 → RR sc goal fs 249 63 [some (rv 437), some (.int (J p0)), some (.int (J p1))] [.int (J x7)] h8 := by
      intro x7 h8 t8 s8 rx7 z9
      have w := j9 x7 h8 t8 s8 rx7 z9
      exact r_retI rfl rfl rfl (k _ _ t8 s8 rx7 w)
    refine r_iz (t := 36) (pc1 := 32) rfl rfl rfl rx5 (fun c15 => ?_) (fun c15 => ?_)
    · have w := w.1 c15
      refine r_aldn (pc1 := 37) rfl rfl rfl ?_
      refine r_n (pc1 := 40) [.int (J 1678), rv 437] _ rfl rfl ?_
      refine r_n (pc1 := 42) [.int (J 12), .int (J 1678), rv 437] _ rfl rfl ?_
      refine r_n (pc1 := 43) [.int (J p0), .int (J 12), .int (J 1678), rv 437] _ rfl rfl ?_
      refine r_imul (pc1 := 44) rfl rfl ?_
      refine r_iadd (pc1 := 45) rfl rfl ?_
      refine r_iv rfl rfl rfl rfl rfl rfl t6 (lyk t6 rfl) rfl (xe_of (xa_r (xa_i xa_0)) rfl rfl) (r_d0 hd rfl) (a_X14_setAt (wr (1678 + (wr (12 * p0)))) (r_d1 hd rfl) (rgw _) w t6 (fun a10 h11 t11 u11 w => ?_))
      refine r_fR (pc1 := 48) rfl ?_
      have s11 := HX_trans s6 u11
      have w := w t11 u11
      refine r_aldn (pc1 := 49) rfl rfl rfl ?_
      refine r_n (pc1 := 52) [.int (J 1678), rv 437, rv a10] _ rfl rfl ?_
      refine r_n (pc1 := 54) [.int (J 12), .int (J 1678), rv 437, rv a10] _ rfl rfl ?_
      refine r_n (pc1 := 55) [.int (J p1), .int (J 12), .int (J 1678), rv 437, rv a10] _ rfl rfl ?_
      refine r_imul (pc1 := 56) rfl rfl ?_
      refine r_iadd (pc1 := 57) rfl rfl ?_
      refine r_iv rfl rfl rfl rfl rfl rfl t11 (lyk t11 rfl) rfl (xe_of (xa_r (xa_i xa_0)) rfl rfl) (r_d0 hd rfl) (a_X14_setAt (wr (1678 + (wr (12 * p1)))) (r_d1 hd rfl) (rgw _) w t11 (fun a12 h13 t13 u13 w => ?_))
      refine r_fR (pc1 := 60) rfl ?_
      have s13 := HX_trans s11 u13
      have w := w t13 u13
      refine r_iq rfl rfl rfl rfl rfl rfl (xe_of (xa_r (xa_r xa_0)) rfl rfl) (r_d0 hd rfl) (a_X14_differences a10 a12 (r_d1 hd rfl)  w t13 (fun x14 rx14 w => ?_))
      refine r_fI (pc1 := 63) rfl ?_
      have w := w rx14
      exact Q9  x14 h13 t13 s13 rx14 w
    · have w := w.2 c15
      refine r_n (pc1 := 33) [.int (J 0)] _ rfl rfl ?_
      refine r_goto (t := 63) rfl rfl ?_
      exact Q9  0 h6 t6 s6 (rgk rfl) w
  obtain ⟨J16, j16, w⟩ := w
  have Q16 : J16 → RR sc goal fs 249 24 [some (rv 437), some (.int (J p0)), some (.int (J p1))] [rv 437] h1 := by
    intro z16
    have w := j16 z16
    refine r_n (pc1 := 25) [.int (J 0), rv 437] _ rfl rfl ?_
    exact Q4  0  (rgk rfl) w
  refine r_iz (t := 24) (pc1 := 13) rfl rfl rfl rx2 (fun c19 => ?_) (fun c19 => ?_)
  · have w := w.1 c19
    exact Q16     w
  · have w := w.2 c19
    refine r_n (pc1 := 14) [.int (J p1), rv 437] _ rfl rfl ?_
    refine r_iq rfl rfl rfl rfl rfl rfl (xe_of (xa_i xa_0) rfl rfl) (r_d0 hd rfl) (a_X14_isLock p1 (r_d1 hd rfl) rp1 w t1 (fun x17 rx17 vx17 w => ?_))
    refine r_fI (pc1 := 17) rfl ?_
    have w := w rx17 vx17
    refine r_iz (t := 24) (pc1 := 20) rfl rfl rfl rx17 (fun c18 => ?_) (fun c18 => ?_)
    · have w := w.1 c18
      exact Q16     w
    · have w := w.2 c18
      refine r_n (pc1 := 21) [.int (J 1), rv 437] _ rfl rfl ?_
      refine r_goto (t := 25) rfl rfl ?_
      exact Q4  1  (rgk rfl) w
def w_X8_newerOf (p0 : Int) (p1 : Int) (K : Int → Prop) (h : XH) : Prop :=
  (∃ J1 : Prop, (J1 → (∃ J3 : Int → Prop, (∀ (x2 : Int), rg x2 → J3 x2 → (K x2)) ∧ ((¬ p0 = (-1) → (J3 p0)) ∧ (¬ (¬ p0 = (-1)) → (J3 p1))))) ∧ ((p0 = (-1) → J1) ∧ (¬ (p0 = (-1)) → (((¬ p1 = (-1) → ((0 ≤ p0 ∧ p0 < 40) ∧ (0 ≤ p1 ∧ p1 < 40) ∧ ∃ J8 : Int → Prop, (∀ (x7 : Int), rg x7 → J8 x7 → (K x7)) ∧ ((hI h 14 p0.toNat < hI h 14 p1.toNat → (J8 p1)) ∧ (¬ (hI h 14 p0.toNat < hI h 14 p1.toNat) → (J8 p0))))) ∧ (¬ (¬ p1 = (-1)) → J1))))))
set_option maxHeartbeats 4000000 in
theorem a_X8_newerOf {sc : Nat × (Nat → Int32)} {goal : XO → XH → Prop} {fs : List XF} {h : XH} (p0 : Int) (p1 : Int) {K : Int → Prop} (hd : fs.length + 0 ≤ 1000) (rp0 : rg p0) (rp1 : rg p1) (w : w_X8_newerOf p0 p1 K h) (t0 : HT h) (k : ∀ (r : Int), rg r → K r → XFin xP sc goal fs (.inl (some (.int (J r)))) h) : RR sc goal fs 462 0 [some (rv 9), some (.int (J p0)), some (.int (J p1))] [] h := by
  unfold w_X8_newerOf at w
  refine r_n (pc1 := 1) [.int (J p0)] _ rfl rfl ?_
  refine r_n (pc1 := 2) [.int (J (-1)), .int (J p0)] _ rfl rfl ?_
  obtain ⟨J1, j1, w⟩ := w
  have Q1 : J1 → RR sc goal fs 462 10 [some (rv 9), some (.int (J p0)), some (.int (J p1))] [] h := by
    intro z1
    have w := j1 z1
    refine r_n (pc1 := 11) [.int (J p0)] _ rfl rfl ?_
    refine r_n (pc1 := 12) [.int (J (-1)), .int (J p0)] _ rfl rfl ?_
    obtain ⟨J3, j3, w⟩ := w
    have Q3 : ∀ (x2 : Int), rg x2 → J3 x2 → RR sc goal fs 462 20 [some (rv 9), some (.int (J p0)), some (.int (J p1))] [.int (J x2)] h := by
      intro x2 rx2 z3
      have w := j3 x2 rx2 z3
      exact r_retI rfl rfl rfl (k _ rx2 w)
    refine r_ic (t := 19) (pc1 := 15) rfl rfl rfl rp0 (rgk rfl) (fun c4 => ?_) (fun c4 => ?_)
    · have w := w.1 c4
      refine r_n (pc1 := 20) [.int (J p0)] _ rfl rfl ?_
      exact Q3  p0  rp0 w
    · have w := w.2 c4
      refine r_n (pc1 := 16) [.int (J p1)] _ rfl rfl ?_
      refine r_goto (t := 20) rfl rfl ?_
      exact Q3  p1  rp1 w
  refine r_ic (t := 10) (pc1 := 5) rfl rfl rfl rp0 (rgk rfl) (fun c11 => ?_) (fun c11 => ?_)
  · have w := w.1 c11
    exact Q1     w
  · have w := w.2 c11
    refine r_n (pc1 := 6) [.int (J p1)] _ rfl rfl ?_
    refine r_n (pc1 := 7) [.int (J (-1)), .int (J p1)] _ rfl rfl ?_
    refine r_ic (t := 21) (pc1 := 10) rfl rfl rfl rp1 (rgk rfl) (fun c10 => ?_) (fun c10 => ?_)
    · have w := w.1 c10
      refine r_aldn (pc1 := 22) rfl rfl rfl ?_
      refine r_gfC (pc1 := 25) (q := 14) rfl rfl rfl t0 (lyk t0 rfl) rfl rfl (lyR t0 rfl rfl) ?_
      refine r_n (pc1 := 26) [.int (J p0), rv 14] _ rfl rfl ?_
      obtain ⟨c5, w⟩ := w
      refine r_ial (pc1 := 27) rfl rfl t0 (lyk t0 rfl) rp0 c5.1 (lt_len (lyn t0 rfl) c5.2) ?_
      refine r_aldn (pc1 := 28) rfl rfl rfl ?_
      refine r_gfC (pc1 := 31) (q := 14) rfl rfl rfl t0 (lyk t0 rfl) rfl rfl (lyR t0 rfl rfl) ?_
      refine r_n (pc1 := 32) [.int (J p1), rv 14, .int (J (hI h 14 p0.toNat))] _ rfl rfl ?_
      obtain ⟨c6, w⟩ := w
      refine r_ial (pc1 := 33) rfl rfl t0 (lyk t0 rfl) rp1 c6.1 (lt_len (lyn t0 rfl) c6.2) ?_
      obtain ⟨J8, j8, w⟩ := w
      have Q8 : ∀ (x7 : Int), rg x7 → J8 x7 → RR sc goal fs 462 41 [some (rv 9), some (.int (J p0)), some (.int (J p1))] [.int (J x7)] h := by
        intro x7 rx7 z8
        have w := j8 x7 rx7 z8
        exact r_retI rfl rfl rfl (k _ rx7 w)
      refine r_ic (t := 40) (pc1 := 36) rfl rfl rfl (rgh _ _ _) (rgh _ _ _) (fun c9 => ?_) (fun c9 => ?_)
      · have w := w.1 c9
        refine r_n (pc1 := 41) [.int (J p1)] _ rfl rfl ?_
        exact Q8  p1  rp1 w
      · have w := w.2 c9
        refine r_n (pc1 := 37) [.int (J p0)] _ rfl rfl ?_
        refine r_goto (t := 41) rfl rfl ?_
        exact Q8  p0  rp0 w
    · have w := w.2 c10
      exact Q1     w
def w_X12_merged (p0 : BitVec 64) (p1 : BitVec 64) (K : BitVec 64 → Prop) (h : XH) : Prop :=
  ((∃ (I6 : BitVec 64 → Int → Prop) (m6 : BitVec 64 → Int → Nat), I6 (0#64) 0 ∧ ∀ (b1 : BitVec 64) (x2 : Int), rg x2 → I6 b1 x2 → (((hI h 9 0 ≤ x2 → (K b1)) ∧ (¬ (hI h 9 0 ≤ x2) → (w_X8_idIn p0 x2 (fun x7 => rg x7 → (w_X8_idIn p1 x2 (fun x8 => rg x8 → (w_X8_newerOf x7 x8 (fun x9 => rg x9 → (∃ J11 : BitVec 64 → Prop, (∀ (b10 : BitVec 64), J11 b10 → (∀ x12 : Int, x12 = wr (x2 + 1) → rg x12 → (I6 b10 x12 ∧ m6 b10 x12 < m6 b1 x2))) ∧ ((x9 = (-1) → J11 b1) ∧ (¬ (x9 = (-1)) → (∀ b13 : BitVec 64, b13 = b1 ||| (lshl (1#64) x9) → ∃ J15 : BitVec 64 → Prop, (∀ (b14 : BitVec 64), J15 b14 → (∀ b16 : BitVec 64, b16 = b13 ||| b14 → ∃ J18 : BitVec 64 → Prop, (∀ (b17 : BitVec 64), J18 b17 → (∀ b19 : BitVec 64, b19 = b16 ||| b17 → J11 b19)) ∧ ((¬ x8 = x9 → (J18 (0#64))) ∧ (¬ (¬ x8 = x9) → (w_X12_switchOf x2 (fun b20 => (J18 (p1 &&& b20))) h))))) ∧ ((¬ x7 = x9 → (J15 (0#64))) ∧ (¬ (¬ x7 = x9) → (w_X12_switchOf x2 (fun b22 => (J15 (p0 &&& b22))) h)))))))) h)) h)) h))))))
set_option maxHeartbeats 4000000 in
theorem a_X12_merged {sc : Nat × (Nat → Int32)} {goal : XO → XH → Prop} {fs : List XF} {h : XH} (p0 : BitVec 64) (p1 : BitVec 64) {K : BitVec 64 → Prop} (hd : fs.length + 2 ≤ 1000) (w : w_X12_merged p0 p1 K h) (t0 : HT h) (k : ∀ (r : BitVec 64), K r → XFin xP sc goal fs (.inl (some (.long (G r)))) h) : RR sc goal fs 128 0 [some (rv 2), some (.long (G p0)), none, some (.long (G p1)), none, none, none, none, none, none, none] [] h := by
  unfold w_X12_merged at w
  refine r_n (pc1 := 1) [.long (G (0#64))] _ rfl rfl ?_
  refine r_lst (pc1 := 3) (ls1 := [some (rv 2), some (.long (G p0)), none, some (.long (G p1)), none, some (.long (G (0#64))), none, none, none, none, none]) rfl rfl rfl rfl ?_
  refine r_n (pc1 := 4) [.int (J 0)] _ rfl rfl ?_
  refine r_ist (pc1 := 6) (ls1 := [some (rv 2), some (.long (G p0)), none, some (.long (G p1)), none, some (.long (G (0#64))), none, some (.int (J 0)), none, none, none]) rfl rfl rfl rfl ?_
  obtain ⟨I6, m6, w, y6⟩ := w
  have Q6 : ∀ (n : Nat) (d3 : Option Value) (d4 : Option Value) (d5 : Option Value) (b1 : BitVec 64) (x2 : Int), rg x2 → m6 b1 x2 < n → I6 b1 x2 → RR sc goal fs 128 6 [some (rv 2), some (.long (G p0)), none, some (.long (G p1)), none, some (.long (G b1)), none, some (.int (J x2)), d3, d4, d5] [] h := by
    intro n
    induction n with
    | zero => intro d3 d4 d5 b1 x2 rx2 q6 _; exact absurd q6 (Nat.not_lt_zero _)
    | succ n ih6 =>
      intro d3 d4 d5 b1 x2 rx2 q6 z6
      have w := y6 b1 x2 rx2 z6
      refine r_n (pc1 := 8) [.int (J x2)] _ rfl rfl ?_
      refine r_aldn (pc1 := 9) rfl rfl rfl ?_
      refine r_gfC (pc1 := 12) (q := 8) rfl rfl rfl t0 (lyk t0 rfl) rfl rfl (lyR t0 rfl rfl) ?_
      refine r_gfC (pc1 := 15) (q := 9) rfl rfl rfl t0 (lyk t0 rfl) rfl rfl (lyR t0 rfl rfl) ?_
      refine r_gfI (pc1 := 18) rfl rfl rfl t0 (lyk t0 rfl) rfl rfl ?_
      refine r_ic (t := 134) (pc1 := 21) rfl rfl rfl rx2 (rgh _ _ _) (fun c25 => ?_) (fun c25 => ?_)
      · have w := w.1 c25
        refine r_n (pc1 := 136) [.long (G b1)] _ rfl rfl ?_
        exact r_retL rfl rfl rfl (k _ w)
      · have w := w.2 c25
        refine r_aldn (pc1 := 22) rfl rfl rfl ?_
        refine r_gfC (pc1 := 25) (q := 8) rfl rfl rfl t0 (lyk t0 rfl) rfl rfl (lyR t0 rfl rfl) ?_
        refine r_gfC (pc1 := 28) (q := 9) rfl rfl rfl t0 (lyk t0 rfl) rfl rfl (lyR t0 rfl rfl) ?_
        refine r_n (pc1 := 29) [.long (G p0), rv 9] _ rfl rfl ?_
        refine r_n (pc1 := 31) [.int (J x2), .long (G p0), rv 9] _ rfl rfl ?_
        refine r_iv rfl rfl rfl rfl rfl rfl t0 (lyk t0 rfl) rfl (xe_of (xa_r (xa_l (xa_i xa_0))) rfl rfl) (r_d0 hd rfl) (a_X8_idIn p0 x2 (r_d1 hd rfl) rx2 w t0 (fun x7 rx7 w => ?_))
        refine r_fI (pc1 := 34) rfl ?_
        have w := w rx7
        refine r_ist (pc1 := 36) (ls1 := [some (rv 2), some (.long (G p0)), none, some (.long (G p1)), none, some (.long (G b1)), none, some (.int (J x2)), some (.int (J x7)), d4, d5]) rfl rfl rfl rfl ?_
        refine r_aldn (pc1 := 37) rfl rfl rfl ?_
        refine r_gfC (pc1 := 40) (q := 8) rfl rfl rfl t0 (lyk t0 rfl) rfl rfl (lyR t0 rfl rfl) ?_
        refine r_gfC (pc1 := 43) (q := 9) rfl rfl rfl t0 (lyk t0 rfl) rfl rfl (lyR t0 rfl rfl) ?_
        refine r_n (pc1 := 44) [.long (G p1), rv 9] _ rfl rfl ?_
        refine r_n (pc1 := 46) [.int (J x2), .long (G p1), rv 9] _ rfl rfl ?_
        refine r_iv rfl rfl rfl rfl rfl rfl t0 (lyk t0 rfl) rfl (xe_of (xa_r (xa_l (xa_i xa_0))) rfl rfl) (r_d0 hd rfl) (a_X8_idIn p1 x2 (r_d1 hd rfl) rx2 w t0 (fun x8 rx8 w => ?_))
        refine r_fI (pc1 := 49) rfl ?_
        have w := w rx8
        refine r_ist (pc1 := 51) (ls1 := [some (rv 2), some (.long (G p0)), none, some (.long (G p1)), none, some (.long (G b1)), none, some (.int (J x2)), some (.int (J x7)), some (.int (J x8)), d5]) rfl rfl rfl rfl ?_
        refine r_aldn (pc1 := 52) rfl rfl rfl ?_
        refine r_gfC (pc1 := 55) (q := 8) rfl rfl rfl t0 (lyk t0 rfl) rfl rfl (lyR t0 rfl rfl) ?_
        refine r_gfC (pc1 := 58) (q := 9) rfl rfl rfl t0 (lyk t0 rfl) rfl rfl (lyR t0 rfl rfl) ?_
        refine r_n (pc1 := 60) [.int (J x7), rv 9] _ rfl rfl ?_
        refine r_n (pc1 := 62) [.int (J x8), .int (J x7), rv 9] _ rfl rfl ?_
        refine r_iv rfl rfl rfl rfl rfl rfl t0 (lyk t0 rfl) rfl (xe_of (xa_r (xa_i (xa_i xa_0))) rfl rfl) (r_d0 hd rfl) (a_X8_newerOf x7 x8 (r_d1 hd rfl) rx7 rx8 w t0 (fun x9 rx9 w => ?_))
        refine r_fI (pc1 := 65) rfl ?_
        have w := w rx9
        refine r_ist (pc1 := 67) (ls1 := [some (rv 2), some (.long (G p0)), none, some (.long (G p1)), none, some (.long (G b1)), none, some (.int (J x2)), some (.int (J x7)), some (.int (J x8)), some (.int (J x9))]) rfl rfl rfl rfl ?_
        refine r_n (pc1 := 69) [.int (J x9)] _ rfl rfl ?_
        refine r_n (pc1 := 70) [.int (J (-1)), .int (J x9)] _ rfl rfl ?_
        obtain ⟨J11, j11, w⟩ := w
        have Q11 : ∀ (b10 : BitVec 64), J11 b10 → RR sc goal fs 128 128 [some (rv 2), some (.long (G p0)), none, some (.long (G p1)), none, some (.long (G b10)), none, some (.int (J x2)), some (.int (J x7)), some (.int (J x8)), some (.int (J x9))] [] h := by
          intro b10 z11
          have w := j11 b10 z11
          refine r_inc (pc1 := 131) (g := fun zz => [some (rv 2), some (.long (G p0)), none, some (.long (G p1)), none, some (.long (G b10)), none, some (.int (J zz)), some (.int (J x7)), some (.int (J x8)), some (.int (J x9))]) rfl rfl rfl rfl (fun _ => rfl) (fun x12 ex12 rx12 => ?_)
          have w := w x12 ex12 rx12
          refine r_goto (t := 6) rfl rfl ?_
          exact ih6 _ _ _ b10 x12  rx12 (Nat.lt_of_lt_of_le w.2 (Nat.le_of_lt_succ q6)) w.1
        refine r_ic (t := 128) (pc1 := 73) rfl rfl rfl rx9 (rgk rfl) (fun c24 => ?_) (fun c24 => ?_)
        · have w := w.1 c24
          exact Q11  b1   w
        · have w := w.2 c24
          refine r_n (pc1 := 75) [.long (G b1)] _ rfl rfl ?_
          refine r_n (pc1 := 76) [.long (G (1#64)), .long (G b1)] _ rfl rfl ?_
          refine r_n (pc1 := 78) [.int (J x9), .long (G (1#64)), .long (G b1)] _ rfl rfl ?_
          refine r_lshl (pc1 := 79) rfl rfl ?_
          refine r_lor (pc1 := 80) rfl rfl ?_
          refine r_vL (fun b13 eb13 => ?_)
          have w := w b13 eb13
          refine r_lst (pc1 := 82) (ls1 := [some (rv 2), some (.long (G p0)), none, some (.long (G p1)), none, some (.long (G b13)), none, some (.int (J x2)), some (.int (J x7)), some (.int (J x8)), some (.int (J x9))]) rfl rfl rfl rfl ?_
          refine r_n (pc1 := 84) [.long (G b13)] _ rfl rfl ?_
          refine r_n (pc1 := 86) [.int (J x7), .long (G b13)] _ rfl rfl ?_
          refine r_n (pc1 := 88) [.int (J x9), .int (J x7), .long (G b13)] _ rfl rfl ?_
          obtain ⟨J15, j15, w⟩ := w
          have Q15 : ∀ (b14 : BitVec 64), J15 b14 → RR sc goal fs 128 102 [some (rv 2), some (.long (G p0)), none, some (.long (G p1)), none, some (.long (G b13)), none, some (.int (J x2)), some (.int (J x7)), some (.int (J x8)), some (.int (J x9))] [.long (G b14), .long (G b13)] h := by
            intro b14 z15
            have w := j15 b14 z15
            refine r_lor (pc1 := 103) rfl rfl ?_
            refine r_vL (fun b16 eb16 => ?_)
            have w := w b16 eb16
            refine r_lst (pc1 := 105) (ls1 := [some (rv 2), some (.long (G p0)), none, some (.long (G p1)), none, some (.long (G b16)), none, some (.int (J x2)), some (.int (J x7)), some (.int (J x8)), some (.int (J x9))]) rfl rfl rfl rfl ?_
            refine r_n (pc1 := 107) [.long (G b16)] _ rfl rfl ?_
            refine r_n (pc1 := 109) [.int (J x8), .long (G b16)] _ rfl rfl ?_
            refine r_n (pc1 := 111) [.int (J x9), .int (J x8), .long (G b16)] _ rfl rfl ?_
            obtain ⟨J18, j18, w⟩ := w
            have Q18 : ∀ (b17 : BitVec 64), J18 b17 → RR sc goal fs 128 125 [some (rv 2), some (.long (G p0)), none, some (.long (G p1)), none, some (.long (G b16)), none, some (.int (J x2)), some (.int (J x7)), some (.int (J x8)), some (.int (J x9))] [.long (G b17), .long (G b16)] h := by
              intro b17 z18
              have w := j18 b17 z18
              refine r_lor (pc1 := 126) rfl rfl ?_
              refine r_vL (fun b19 eb19 => ?_)
              have w := w b19 eb19
              refine r_lst (pc1 := 128) (ls1 := [some (rv 2), some (.long (G p0)), none, some (.long (G p1)), none, some (.long (G b19)), none, some (.int (J x2)), some (.int (J x7)), some (.int (J x8)), some (.int (J x9))]) rfl rfl rfl rfl ?_
              exact Q11  b19   w
            refine r_ic (t := 124) (pc1 := 114) rfl rfl rfl rx8 rx9 (fun c21 => ?_) (fun c21 => ?_)
            · have w := w.1 c21
              refine r_n (pc1 := 125) [.long (G (0#64)), .long (G b16)] _ rfl rfl ?_
              exact Q18  (0#64)   w
            · have w := w.2 c21
              refine r_n (pc1 := 115) [.long (G p1), .long (G b16)] _ rfl rfl ?_
              refine r_n (pc1 := 117) [.int (J x2), .long (G p1), .long (G b16)] _ rfl rfl ?_
              refine r_iq rfl rfl rfl rfl rfl rfl (xe_of (xa_i xa_0) rfl rfl) (r_d0 hd rfl) (a_X12_switchOf x2 (r_d1 hd rfl) rx2 w t0 (fun b20 w => ?_))
              refine r_fL (pc1 := 120) rfl ?_
              refine r_land (pc1 := 121) rfl rfl ?_
              refine r_goto (t := 125) rfl rfl ?_
              exact Q18  (p1 &&& b20)   w
          refine r_ic (t := 101) (pc1 := 91) rfl rfl rfl rx7 rx9 (fun c23 => ?_) (fun c23 => ?_)
          · have w := w.1 c23
            refine r_n (pc1 := 102) [.long (G (0#64)), .long (G b13)] _ rfl rfl ?_
            exact Q15  (0#64)   w
          · have w := w.2 c23
            refine r_n (pc1 := 92) [.long (G p0), .long (G b13)] _ rfl rfl ?_
            refine r_n (pc1 := 94) [.int (J x2), .long (G p0), .long (G b13)] _ rfl rfl ?_
            refine r_iq rfl rfl rfl rfl rfl rfl (xe_of (xa_i xa_0) rfl rfl) (r_d0 hd rfl) (a_X12_switchOf x2 (r_d1 hd rfl) rx2 w t0 (fun b22 w => ?_))
            refine r_fL (pc1 := 97) rfl ?_
            refine r_land (pc1 := 98) rfl rfl ?_
            refine r_goto (t := 102) rfl rfl ?_
            exact Q15  (p0 &&& b22)   w
  exact Q6 _ _ _ _ (0#64) 0  (rgk rfl) (Nat.lt_succ_self _) w
def w_X12_takeGoal (p0 : BitVec 64) (K : Int → XH → Prop) (h : XH) : Prop :=
  (w_X11_atHand (fun a1 => (hk h a1 = 7 ∧ ∀ h3 : XH, h3 = sL h a1 5 p0 → HT h3 → HX h h3 → w_X12_knowMet (fun h4 => HT h4 → HX h3 h4 → (w_X3_isFitting p0 (fun x5 => rg x5 → (x5 = 0 ∨ x5 = 1) → (∃ J7 : Int → Prop, (∀ (x6 : Int), rg x6 → J7 x6 → (K x6 h4)) ∧ ((x5 = 0 → (J7 0)) ∧ (¬ (x5 = 0) → (J7 1))))) h4)) h3)) h)
set_option maxHeartbeats 4000000 in
theorem a_X12_takeGoal {sc : Nat × (Nat → Int32)} {goal : XO → XH → Prop} {fs : List XF} {h : XH} (p0 : BitVec 64) {K : Int → XH → Prop} (hd : fs.length + 6 ≤ 1000) (w : w_X12_takeGoal p0 K h) (t0 : HT h) (k : ∀ (r : Int) (h1 : XH), HT h1 → HX h h1 → rg r → K r h1 → XFin xP sc goal fs (.inl (some (.int (J r)))) h1) : RR sc goal fs 154 0 [some (rv 2), some (.long (G p0)), none] [] h := by
  unfold w_X12_takeGoal at w
  refine r_aldn (pc1 := 1) rfl rfl rfl ?_
  refine r_gfC (pc1 := 4) (q := 8) rfl rfl rfl t0 (lyk t0 rfl) rfl rfl (lyR t0 rfl rfl) ?_
  refine r_iv rfl rfl rfl rfl rfl rfl t0 (lyk t0 rfl) rfl (xe_of (xa_r xa_0) rfl rfl) (r_d0 hd rfl) (a_X11_atHand  (r_d1 hd rfl)  w t0 (fun a1 w => ?_))
  refine r_fR (pc1 := 7) rfl ?_
  refine r_n (pc1 := 8) [.long (G p0), rv a1] _ rfl rfl ?_
  obtain ⟨c2, w⟩ := w
  refine r_pfL (pc1 := 11) rfl rfl rfl t0 c2 rfl rfl rfl (fun h3 eh3 t3 u3 => ?_)
  have w := w h3 eh3 t3 u3
  have s3 := HX_trans (HX_refl h) u3
  refine r_aldn (pc1 := 12) rfl rfl rfl ?_
  refine r_iv rfl rfl rfl rfl rfl rfl t3 (lyk t3 rfl) rfl (xe_of (xa_r xa_0) rfl rfl) (r_d0 hd rfl) (a_X12_knowMet  (r_d1 hd rfl)  w t3 (fun h4 t4 u4 w => ?_))
  refine r_fV (pc1 := 15) rfl ?_
  have s4 := HX_trans s3 u4
  have w := w t4 u4
  refine r_aldn (pc1 := 16) rfl rfl rfl ?_
  refine r_gfC (pc1 := 19) (q := 44) rfl rfl rfl t4 (lyk t4 rfl) rfl rfl (lyR t4 rfl rfl) ?_
  refine r_n (pc1 := 20) [.long (G p0), rv 44] _ rfl rfl ?_
  refine r_iv rfl rfl rfl rfl rfl rfl t4 (lyk t4 rfl) rfl (xe_of (xa_r (xa_l xa_0)) rfl rfl) (r_d0 hd rfl) (a_X3_isFitting p0 (r_d1 hd rfl)  w t4 (fun x5 rx5 vx5 w => ?_))
  refine r_fI (pc1 := 23) rfl ?_
  have w := w rx5 vx5
  obtain ⟨J7, j7, w⟩ := w
  have Q7 : ∀ (x6 : Int), rg x6 → J7 x6 → RR sc goal fs 154 31 [some (rv 2), some (.long (G p0)), none] [.int (J x6)] h4 := by
    intro x6 rx6 z7
    have w := j7 x6 rx6 z7
    exact r_retI rfl rfl rfl (k _ _ t4 s4 rx6 w)
  refine r_iz (t := 30) (pc1 := 26) rfl rfl rfl rx5 (fun c8 => ?_) (fun c8 => ?_)
  · have w := w.1 c8
    refine r_n (pc1 := 31) [.int (J 0)] _ rfl rfl ?_
    exact Q7  0  (rgk rfl) w
  · have w := w.2 c8
    refine r_n (pc1 := 27) [.int (J 1)] _ rfl rfl ?_
    refine r_goto (t := 31) rfl rfl ?_
    exact Q7  1  (rgk rfl) w
