/-! printed by dec.py: what each method wants, and that the machine keeps it -/ 
def w_X14_carryOut (p0 : Int) (p1 : Nat) (p2 : Nat) (p3 : Nat) (K : Int → XH → Prop) (h : XH) : Prop :=
  ((0 ≤ p0 ∧ p0 < 12) ∧ ∀ x2 : Int, x2 = hI h 466 p0.toNat → rg x2 → (∃ (I6 : Int → XH → Prop) (m6 : Int → XH → Nat), I6 0 h ∧ ∀ (x3 : Int) (h5 : XH), HT h5 → HX h h5 → rg x3 → I6 x3 h5 → (((12 ≤ x3 → (hk h5 p3 = 100 ∧ (hn h5 p3 : Int) < 2147483648 ∧ ∀ x9 : Int, x9 = (hn h5 p3 : Int) → rg x9 → (∃ (I15 : Int → XH → Prop) (m15 : Int → XH → Nat), I15 0 h5 ∧ ∀ (x10 : Int) (h14 : XH), HT h14 → HX h h14 → rg x10 → I15 x10 h14 → (((x9 ≤ x10 → (w_X14_sizeOf p1 (fun x16 => rg x16 → (w_X14_rootAt 22 (fun x17 => rg x17 → (((x16 ≤ x17 → (hk h14 p3 = 100 ∧ (hn h14 p3 : Int) < 2147483648 ∧ ∀ x20 : Int, x20 = (hn h14 p3 : Int) → rg x20 → (∃ (I23 : Int → Prop) (m23 : Int → Nat), I23 0 ∧ ∀ (x21 : Int), rg x21 → I23 x21 → (((x20 ≤ x21 → (K p0 h14)) ∧ (¬ (x20 ≤ x21) → ((0 ≤ x21 ∧ x21 < (hn h14 p3 : Int)) ∧ ∀ x25 : Int, x25 = hI h14 p3 x21.toNat → rg x25 → ∃ J26 : Prop, (J26 → (∀ x27 : Int, x27 = wr (x21 + 1) → rg x27 → (I23 x27 ∧ m23 x27 < m23 x21))) ∧ ((¬ iand (ishr x2 x25) 1 = 1 → J26) ∧ (¬ (¬ iand (ishr x2 x25) 1 = 1) → (w_X14_slotIn p2 x25 (fun x28 => rg x28 → (w_X14_ver x28 5 (fun x29 => rg x29 → (((¬ x29 = 1 → J26) ∧ (¬ (¬ x29 = 1) → (w_X14_goesWrong 4 x25 p0 (fun x30 h31 => HT h31 → HX h14 h31 → rg x30 → (K x30 h31)) h14))))) h14)) h14)))))))))) ∧ (¬ (x16 ≤ x17) → (w_J6_numberOfLeadingZeros_0f7a4 x2 (fun x35 => rg x35 → (w_X14_goesWrong 3 (wr (31 - x35)) p0 (fun x36 h37 => HT h37 → HX h14 h37 → rg x36 → (K x36 h37)) h14)) h14))))) h14)) h14)) ∧ (¬ (x9 ≤ x10) → (hk h14 p3 = 100 ∧ (0 ≤ x10 ∧ x10 < (hn h14 p3 : Int)) ∧ ∀ x41 : Int, x41 = hI h14 p3 x10.toNat → rg x41 → ∃ J46 : XH → Prop, (∀ (h45 : XH), HT h45 → HX h h45 → J46 h45 → (∀ x47 : Int, x47 = wr (x10 + 1) → rg x47 → (I15 x47 h45 ∧ m15 x47 h45 < m15 x10 h14))) ∧ ((¬ iand (ishr x2 x41) 1 = 0 → (w_X14_slotIn p2 x41 (fun x48 => rg x48 → (w_X14_ver x48 2 (fun x49 => rg x49 → ((∃ (I51 : Int → Prop) (m51 : Int → Nat), I51 0 ∧ ∀ (x50 : Int), rg x50 → I51 x50 → (((12 ≤ x50 → (hk h14 p2 = 100 ∧ (0 ≤ x41 ∧ x41 < (hn h14 p2 : Int)) ∧ hk h14 p1 = 100 ∧ (0 ≤ x41 ∧ x41 < (hn h14 p1 : Int)) ∧ ∀ h56 : XH, h56 = sI h14 p1 x41.toNat (hI h14 p2 x41.toNat) → HT h56 → HX h14 h56 → J46 h56)) ∧ (¬ (12 ≤ x50) → (hk h14 p1 = 100 ∧ (0 ≤ x50 ∧ x50 < (hn h14 p1 : Int)) ∧ ∃ J59 : Prop, (J59 → (∀ x60 : Int, x60 = wr (x50 + 1) → rg x60 → (I51 x60 ∧ m51 x60 < m51 x50))) ∧ ((hI h14 p1 x50.toNat = (-1) → J59) ∧ (¬ (hI h14 p1 x50.toNat = (-1)) → (w_X14_slotIn p1 x50 (fun x61 => rg x61 → (w_X14_ver x61 2 (fun x62 => rg x62 → (((iand x62 x49 = 0 → J59) ∧ (¬ (iand x62 x49 = 0) → (w_X14_goesWrong 2 x41 p0 (fun x63 h64 => HT h64 → HX h14 h64 → rg x63 → (K x63 h64)) h14))))) h14)) h14)))))))))) h14)) h14)) ∧ (¬ (¬ iand (ishr x2 x41) 1 = 0) → (J46 h14)))))))))) ∧ (¬ (12 ≤ x3) → (∃ J71 : Int → Prop, (∀ (x70 : Int), rg x70 → J71 x70 → (∃ J73 : XH → Prop, (∀ (h72 : XH), HT h72 → HX h h72 → J73 h72 → (∀ x74 : Int, x74 = wr (x3 + 1) → rg x74 → (I6 x74 h72 ∧ m6 x74 h72 < m6 x3 h5))) ∧ ∃ J75 : Prop, (J75 → (((x70 = 0 → J73 h5) ∧ (¬ (x70 = 0) → (hk h5 p2 = 100 ∧ (0 ≤ x3 ∧ x3 < (hn h5 p2 : Int)) ∧ hk h5 p1 = 100 ∧ (0 ≤ x3 ∧ x3 < (hn h5 p1 : Int)) ∧ ∀ h80 : XH, h80 = sI h5 p1 x3.toNat (hI h5 p2 x3.toNat) → HT h80 → HX h5 h80 → J73 h80))))) ∧ ((x70 = 0 → J75) ∧ (¬ (x70 = 0) → (w_X14_codeIn p1 x3 (fun x82 => rg x82 → (w_X14_codeIn p2 x3 (fun x83 => rg x83 → (((x82 = x83 → J75) ∧ (¬ (x82 = x83) → (hk h5 p1 = 100 ∧ (0 ≤ x3 ∧ x3 < (hn h5 p1 : Int)) ∧ ∀ h86 : XH, h86 = sI h5 p1 x3.toNat (-1) → HT h86 → HX h5 h86 → J73 h86))))) h5)) h5))))) ∧ ((¬ iand (ishr x2 x3) 1 = 1 → (J71 0)) ∧ (¬ (¬ iand (ishr x2 x3) 1 = 1) → (J71 1)))))))))
set_option maxHeartbeats 4000000 in
theorem a_X14_carryOut {sc : Nat × (Nat → Int32)} {goal : XO → XH → Prop} {fs : List XF} {h : XH} (p0 : Int) (p1 : Nat) (p2 : Nat) (p3 : Nat) {K : Int → XH → Prop} (hd : fs.length + 4 ≤ 1000) (rp0 : rg p0) (w : w_X14_carryOut p0 p1 p2 p3 K h) (t0 : HT h) (k : ∀ (r : Int) (h1 : XH), HT h1 → HX h h1 → rg r → K r h1 → XFin xP sc goal fs (.inl (some (.int (J r)))) h1) : RR sc goal fs 180 0 [some (rv 437), some (.int (J p0)), some (rv p1), some (rv p2), some (rv p3), none, none, none, none, none, none, none] [] h := by
  unfold w_X14_carryOut at w
  refine r_aldn (pc1 := 1) rfl rfl rfl ?_
  refine r_gfC (pc1 := 4) (q := 466) rfl rfl rfl t0 (lyk t0 rfl) rfl rfl (lyR t0 rfl rfl) ?_
  refine r_n (pc1 := 5) [.int (J p0), rv 466] _ rfl rfl ?_
  obtain ⟨c1, w⟩ := w
  refine r_ial (pc1 := 6) rfl rfl t0 (lyk t0 rfl) rp0 c1.1 (lt_len (lyn t0 rfl) c1.2) ?_
  refine r_vI (rgh _ _ _) (fun x2 ex2 rx2 => ?_)
  have w := w x2 ex2 rx2
  refine r_ist (pc1 := 8) (ls1 := [some (rv 437), some (.int (J p0)), some (rv p1), some (rv p2), some (rv p3), some (.int (J x2)), none, none, none, none, none, none]) rfl rfl rfl (xput1_rv rfl rfl) ?_
  refine r_n (pc1 := 9) [.int (J 0)] _ rfl rfl ?_
  refine r_ist (pc1 := 11) (ls1 := [some (rv 437), some (.int (J p0)), some (rv p1), some (rv p2), some (rv p3), some (.int (J x2)), some (.int (J 0)), none, none, none, none, none]) rfl rfl rfl rfl ?_
  obtain ⟨I6, m6, w, y6⟩ := w
  have Q6 : ∀ (n : Nat) (d4 : Option Value) (x3 : Int) (h5 : XH), HT h5 → HX h h5 → rg x3 → m6 x3 h5 < n → I6 x3 h5 → RR sc goal fs 180 11 [some (rv 437), some (.int (J p0)), some (rv p1), some (rv p2), some (rv p3), some (.int (J x2)), some (.int (J x3)), d4, none, none, none, none] [] h5 := by
    intro n
    induction n with
    | zero => intro d4 x3 h5 t5 s5 rx3 q6 _; exact absurd q6 (Nat.not_lt_zero _)
    | succ n ih6 =>
      intro d4 x3 h5 t5 s5 rx3 q6 z6
      have w := y6 x3 h5 t5 s5 rx3 z6
      refine r_n (pc1 := 13) [.int (J x3)] _ rfl rfl ?_
      refine r_n (pc1 := 15) [.int (J 12), .int (J x3)] _ rfl rfl ?_
      refine r_ic (t := 83) (pc1 := 18) rfl rfl rfl rx3 (rgk rfl) (fun c90 => ?_) (fun c90 => ?_)
      · have w := w.1 c90
        refine r_ald (pc1 := 85) rfl rfl rfl ?_
        refine r_ast (pc1 := 87) (ls1 := [some (rv 437), some (.int (J p0)), some (rv p1), some (rv p2), some (rv p3), some (.int (J x2)), some (rv p3), d4, none, none, none, none]) rfl rfl rfl rfl ?_
        refine r_ald (pc1 := 89) rfl rfl rfl ?_
        obtain ⟨c7, w⟩ := w
        obtain ⟨c8, w⟩ := w
        refine r_len (pc1 := 90) (u := 0) rfl rfl t5 c7 (by decide) (fun rc8 => ?_) c8
        refine r_vI rc8 (fun x9 ex9 rx9 => ?_)
        have w := w x9 ex9 rx9
        refine r_ist (pc1 := 92) (ls1 := [some (rv 437), some (.int (J p0)), some (rv p1), some (rv p2), some (rv p3), some (.int (J x2)), some (rv p3), some (.int (J x9)), none, none, none, none]) rfl rfl rfl (xput1_rv rfl rfl) ?_
        refine r_n (pc1 := 93) [.int (J 0)] _ rfl rfl ?_
        refine r_ist (pc1 := 95) (ls1 := [some (rv 437), some (.int (J p0)), some (rv p1), some (rv p2), some (rv p3), some (.int (J x2)), some (rv p3), some (.int (J x9)), some (.int (J 0)), none, none, none]) rfl rfl rfl rfl ?_
        obtain ⟨I15, m15, w, y15⟩ := w
        have Q15 : ∀ (n : Nat) (d11 : Option Value) (d12 : Option Value) (d13 : Option Value) (x10 : Int) (h14 : XH), HT h14 → HX h h14 → rg x10 → m15 x10 h14 < n → I15 x10 h14 → RR sc goal fs 180 95 [some (rv 437), some (.int (J p0)), some (rv p1), some (rv p2), some (rv p3), some (.int (J x2)), some (rv p3), some (.int (J x9)), some (.int (J x10)), d11, d12, d13] [] h14 := by
          intro n
          induction n with
          | zero => intro d11 d12 d13 x10 h14 t14 s14 rx10 q15 _; exact absurd q15 (Nat.not_lt_zero _)
          | succ n ih15 =>
            intro d11 d12 d13 x10 h14 t14 s14 rx10 q15 z15
            have w := y15 x10 h14 t14 s14 rx10 z15
            refine r_n (pc1 := 97) [.int (J x10)] _ rfl rfl ?_
            refine r_n (pc1 := 99) [.int (J x9), .int (J x10)] _ rfl rfl ?_
            refine r_ic (t := 201) (pc1 := 102) rfl rfl rfl rx10 rx9 (fun c69 => ?_) (fun c69 => ?_)
            · have w := w.1 c69
              refine r_aldn (pc1 := 202) rfl rfl rfl ?_
              refine r_aldn (pc1 := 203) rfl rfl rfl ?_
              refine r_iv rfl rfl rfl rfl rfl rfl t14 (lyk t14 rfl) rfl (xe_of (xa_r (xa_r xa_0)) rfl rfl) (r_d0 hd rfl) (a_X14_sizeOf p1 (r_d1 hd rfl)  w t14 (fun x16 rx16 w => ?_))
              refine r_fI (pc1 := 206) rfl ?_
              have w := w rx16
              refine r_aldn (pc1 := 207) rfl rfl rfl ?_
              refine r_n (pc1 := 209) [.int (J 22), rv 437, .int (J x16)] _ rfl rfl ?_
              refine r_iv rfl rfl rfl rfl rfl rfl t14 (lyk t14 rfl) rfl (xe_of (xa_r (xa_i xa_0)) rfl rfl) (r_d0 hd rfl) (a_X14_rootAt 22 (r_d1 hd rfl) (rgk rfl) w t14 (fun x17 rx17 w => ?_))
              refine r_fI (pc1 := 212) rfl ?_
              have w := w rx17
              refine r_ic (t := 230) (pc1 := 215) rfl rfl rfl rx16 rx17 (fun c38 => ?_) (fun c38 => ?_)
              · have w := w.1 c38
                refine r_ald (pc1 := 232) rfl rfl rfl ?_
                refine r_ast (pc1 := 234) (ls1 := [some (rv 437), some (.int (J p0)), some (rv p1), some (rv p2), some (rv p3), some (.int (J x2)), some (rv p3), some (.int (J x9)), some (.int (J x10)), d11, d12, d13]) rfl rfl rfl rfl ?_
                refine r_ald (pc1 := 236) rfl rfl rfl ?_
                obtain ⟨c18, w⟩ := w
                obtain ⟨c19, w⟩ := w
                refine r_len (pc1 := 237) (u := 0) rfl rfl t14 c18 (by decide) (fun rc19 => ?_) c19
                refine r_vI rc19 (fun x20 ex20 rx20 => ?_)
                have w := w x20 ex20 rx20
                refine r_ist (pc1 := 239) (ls1 := [some (rv 437), some (.int (J p0)), some (rv p1), some (rv p2), some (rv p3), some (.int (J x2)), some (rv p3), some (.int (J x20)), some (.int (J x10)), d11, d12, d13]) rfl rfl rfl (xput1_rv rfl rfl) ?_
                refine r_n (pc1 := 240) [.int (J 0)] _ rfl rfl ?_
                refine r_ist (pc1 := 242) (ls1 := [some (rv 437), some (.int (J p0)), some (rv p1), some (rv p2), some (rv p3), some (.int (J x2)), some (rv p3), some (.int (J x20)), some (.int (J 0)), d11, d12, d13]) rfl rfl rfl rfl ?_
                obtain ⟨I23, m23, w, y23⟩ := w
                have Q23 : ∀ (n : Nat) (d22 : Option Value) (x21 : Int), rg x21 → m23 x21 < n → I23 x21 → RR sc goal fs 180 242 [some (rv 437), some (.int (J p0)), some (rv p1), some (rv p2), some (rv p3), some (.int (J x2)), some (rv p3), some (.int (J x20)), some (.int (J x21)), d22, d12, d13] [] h14 := by
                  intro n
                  induction n with
                  | zero => intro d22 x21 rx21 q23 _; exact absurd q23 (Nat.not_lt_zero _)
                  | succ n ih23 =>
                    intro d22 x21 rx21 q23 z23
                    have w := y23 x21 rx21 z23
                    refine r_n (pc1 := 244) [.int (J x21)] _ rfl rfl ?_
                    refine r_n (pc1 := 246) [.int (J x20), .int (J x21)] _ rfl rfl ?_
                    refine r_ic (t := 298) (pc1 := 249) rfl rfl rfl rx21 rx20 (fun c34 => ?_) (fun c34 => ?_)
                    · have w := w.1 c34
                      refine r_n (pc1 := 299) [.int (J p0)] _ rfl rfl ?_
                      exact r_retI rfl rfl rfl (k _ _ t14 s14 rp0 w)
                    · have w := w.2 c34
                      refine r_ald (pc1 := 251) rfl rfl rfl ?_
                      refine r_n (pc1 := 253) [.int (J x21), rv p3] _ rfl rfl ?_
                      obtain ⟨c24, w⟩ := w
                      refine r_ial (pc1 := 254) rfl rfl t14 c18 rx21 c24.1 c24.2 ?_
                      refine r_vI (rgh _ _ _) (fun x25 ex25 rx25 => ?_)
                      have w := w x25 ex25 rx25
                      refine r_ist (pc1 := 256) (ls1 := [some (rv 437), some (.int (J p0)), some (rv p1), some (rv p2), some (rv p3), some (.int (J x2)), some (rv p3), some (.int (J x20)), some (.int (J x21)), some (.int (J x25)), d12, d13]) rfl rfl rfl rfl ?_
                      refine r_n (pc1 := 258) [.int (J x2)] _ rfl rfl ?_
                      refine r_n (pc1 := 260) [.int (J x25), .int (J x2)] _ rfl rfl ?_
                      refine r_ishr (pc1 := 261) rfl rfl ?_
                      refine r_n (pc1 := 262) [.int (J 1), .int (J (ishr x2 x25))] _ rfl rfl ?_
                      refine r_iand (pc1 := 263) rfl rfl ?_
                      refine r_n (pc1 := 264) [.int (J 1), .int (J (iand (ishr x2 x25) 1))] _ rfl rfl ?_
                      obtain ⟨J26, j26, w⟩ := w
                      have Q26 : J26 → RR sc goal fs 180 292 [some (rv 437), some (.int (J p0)), some (rv p1), some (rv p2), some (rv p3), some (.int (J x2)), some (rv p3), some (.int (J x20)), some (.int (J x21)), some (.int (J x25)), d12, d13] [] h14 := by
                        intro z26
                        have w := j26 z26
                        refine r_inc (pc1 := 295) (g := fun zz => [some (rv 437), some (.int (J p0)), some (rv p1), some (rv p2), some (rv p3), some (.int (J x2)), some (rv p3), some (.int (J x20)), some (.int (J zz)), some (.int (J x25)), d12, d13]) rfl rfl rfl rfl (fun _ => rfl) (fun x27 ex27 rx27 => ?_)
                        have w := w x27 ex27 rx27
                        refine r_goto (t := 242) rfl rfl ?_
                        exact ih23 _ x27  rx27 (Nat.lt_of_lt_of_le w.2 (Nat.le_of_lt_succ q23)) w.1
                      refine r_ic (t := 292) (pc1 := 267) rfl rfl rfl (rgt _) (rgk rfl) (fun c33 => ?_) (fun c33 => ?_)
                      · have w := w.1 c33
                        exact Q26     w
                      · have w := w.2 c33
                        refine r_aldn (pc1 := 268) rfl rfl rfl ?_
                        refine r_aldn (pc1 := 269) rfl rfl rfl ?_
                        refine r_aldn (pc1 := 270) rfl rfl rfl ?_
                        refine r_n (pc1 := 272) [.int (J x25), rv p2, rv 437, rv 437] _ rfl rfl ?_
                        refine r_iv rfl rfl rfl rfl rfl rfl t14 (lyk t14 rfl) rfl (xe_of (xa_r (xa_r (xa_i xa_0))) rfl rfl) (r_d0 hd rfl) (a_X14_slotIn p2 x25 (r_d1 hd rfl) rx25 w t14 (fun x28 rx28 w => ?_))
                        refine r_fI (pc1 := 275) rfl ?_
                        have w := w rx28
                        refine r_n (pc1 := 276) [.int (J 5), .int (J x28), rv 437] _ rfl rfl ?_
                        refine r_iv rfl rfl rfl rfl rfl rfl t14 (lyk t14 rfl) rfl (xe_of (xa_r (xa_i (xa_i xa_0))) rfl rfl) (r_d0 hd rfl) (a_X14_ver x28 5 (r_d1 hd rfl) rx28 (rgk rfl) w t14 (fun x29 rx29 w => ?_))
                        refine r_fI (pc1 := 279) rfl ?_
                        have w := w rx29
                        refine r_n (pc1 := 280) [.int (J 1), .int (J x29)] _ rfl rfl ?_
                        refine r_ic (t := 292) (pc1 := 283) rfl rfl rfl rx29 (rgk rfl) (fun c32 => ?_) (fun c32 => ?_)
                        · have w := w.1 c32
                          exact Q26     w
                        · have w := w.2 c32
                          refine r_aldn (pc1 := 284) rfl rfl rfl ?_
                          refine r_n (pc1 := 285) [.int (J 4), rv 437] _ rfl rfl ?_
                          refine r_n (pc1 := 287) [.int (J x25), .int (J 4), rv 437] _ rfl rfl ?_
                          refine r_n (pc1 := 288) [.int (J p0), .int (J x25), .int (J 4), rv 437] _ rfl rfl ?_
                          refine r_iv rfl rfl rfl rfl rfl rfl t14 (lyk t14 rfl) rfl (xe_of (xa_r (xa_i (xa_i (xa_i xa_0)))) rfl rfl) (r_d0 hd rfl) (a_X14_goesWrong 4 x25 p0 (r_d1 hd rfl) (rgk rfl) rx25 rp0 w t14 (fun x30 h31 t31 u31 rx30 w => ?_))
                          refine r_fI (pc1 := 291) rfl ?_
                          have s31 := HX_trans s14 u31
                          have w := w t31 u31
                          have w := w rx30
                          exact r_retI rfl rfl rfl (k _ _ t31 s31 rx30 w)
                exact Q23 _ _ 0  (rgk rfl) (Nat.lt_succ_self _) w
              · have w := w.2 c38
                refine r_aldn (pc1 := 216) rfl rfl rfl ?_
                refine r_n (pc1 := 217) [.int (J 3), rv 437] _ rfl rfl ?_
                refine r_n (pc1 := 219) [.int (J 31), .int (J 3), rv 437] _ rfl rfl ?_
                refine r_n (pc1 := 221) [.int (J x2), .int (J 31), .int (J 3), rv 437] _ rfl rfl ?_
                refine r_iq rfl rfl rfl rfl rfl rfl (xe_of (xa_i xa_0) rfl rfl) (r_d0 hd rfl) (a_J6_numberOfLeadingZeros_0f7a4 x2 (r_d1 hd rfl) rx2 w t14 (fun x35 rx35 w => ?_))
                refine r_fI (pc1 := 224) rfl ?_
                have w := w rx35
                refine r_isub (pc1 := 225) rfl rfl ?_
                refine r_n (pc1 := 226) [.int (J p0), .int (J (wr (31 - x35))), .int (J 3), rv 437] _ rfl rfl ?_
                refine r_iv rfl rfl rfl rfl rfl rfl t14 (lyk t14 rfl) rfl (xe_of (xa_r (xa_i (xa_i (xa_i xa_0)))) rfl rfl) (r_d0 hd rfl) (a_X14_goesWrong 3 (wr (31 - x35)) p0 (r_d1 hd rfl) (rgk rfl) (rgw _) rp0 w t14 (fun x36 h37 t37 u37 rx36 w => ?_))
                refine r_fI (pc1 := 229) rfl ?_
                have s37 := HX_trans s14 u37
                have w := w t37 u37
                have w := w rx36
                exact r_retI rfl rfl rfl (k _ _ t37 s37 rx36 w)
            · have w := w.2 c69
              refine r_ald (pc1 := 104) rfl rfl rfl ?_
              refine r_n (pc1 := 106) [.int (J x10), rv p3] _ rfl rfl ?_
              obtain ⟨c39, w⟩ := w
              obtain ⟨c40, w⟩ := w
              refine r_ial (pc1 := 107) rfl rfl t14 c39 rx10 c40.1 c40.2 ?_
              refine r_vI (rgh _ _ _) (fun x41 ex41 rx41 => ?_)
              have w := w x41 ex41 rx41
              refine r_ist (pc1 := 109) (ls1 := [some (rv 437), some (.int (J p0)), some (rv p1), some (rv p2), some (rv p3), some (.int (J x2)), some (rv p3), some (.int (J x9)), some (.int (J x10)), some (.int (J x41)), d12, d13]) rfl rfl rfl rfl ?_
              refine r_n (pc1 := 111) [.int (J x2)] _ rfl rfl ?_
              refine r_n (pc1 := 113) [.int (J x41), .int (J x2)] _ rfl rfl ?_
              refine r_ishr (pc1 := 114) rfl rfl ?_
              refine r_n (pc1 := 115) [.int (J 1), .int (J (ishr x2 x41))] _ rfl rfl ?_
              refine r_iand (pc1 := 116) rfl rfl ?_
              obtain ⟨J46, j46, w⟩ := w
              have Q46 : ∀ (d42 : Option Value) (d43 : Option Value) (d44 : Option Value) (h45 : XH), HT h45 → HX h h45 → J46 h45 → RR sc goal fs 180 195 [some (rv 437), some (.int (J p0)), some (rv p1), some (rv p2), some (rv p3), some (.int (J x2)), some (rv p3), some (.int (J x9)), some (.int (J x10)), d42, d43, d44] [] h45 := by
                intro d42 d43 d44 h45 t45 s45 z46
                have w := j46 h45 t45 s45 z46
                refine r_inc (pc1 := 198) (g := fun zz => [some (rv 437), some (.int (J p0)), some (rv p1), some (rv p2), some (rv p3), some (.int (J x2)), some (rv p3), some (.int (J x9)), some (.int (J zz)), d42, d43, d44]) rfl rfl rfl rfl (fun _ => rfl) (fun x47 ex47 rx47 => ?_)
                have w := w x47 ex47 rx47
                refine r_goto (t := 95) rfl rfl ?_
                exact ih15 _ _ _ x47 h45 t45 s45 rx47 (Nat.lt_of_lt_of_le w.2 (Nat.le_of_lt_succ q15)) w.1
              refine r_iz (t := 122) (pc1 := 119) rfl rfl rfl (rgt _) (fun c68 => ?_) (fun c68 => ?_)
              · have w := w.1 c68
                refine r_aldn (pc1 := 123) rfl rfl rfl ?_
                refine r_aldn (pc1 := 124) rfl rfl rfl ?_
                refine r_aldn (pc1 := 125) rfl rfl rfl ?_
                refine r_n (pc1 := 127) [.int (J x41), rv p2, rv 437, rv 437] _ rfl rfl ?_
                refine r_iv rfl rfl rfl rfl rfl rfl t14 (lyk t14 rfl) rfl (xe_of (xa_r (xa_r (xa_i xa_0))) rfl rfl) (r_d0 hd rfl) (a_X14_slotIn p2 x41 (r_d1 hd rfl) rx41 w t14 (fun x48 rx48 w => ?_))
                refine r_fI (pc1 := 130) rfl ?_
                have w := w rx48
                refine r_n (pc1 := 131) [.int (J 2), .int (J x48), rv 437] _ rfl rfl ?_
                refine r_iv rfl rfl rfl rfl rfl rfl t14 (lyk t14 rfl) rfl (xe_of (xa_r (xa_i (xa_i xa_0))) rfl rfl) (r_d0 hd rfl) (a_X14_ver x48 2 (r_d1 hd rfl) rx48 (rgk rfl) w t14 (fun x49 rx49 w => ?_))
                refine r_fI (pc1 := 134) rfl ?_
                have w := w rx49
                refine r_ist (pc1 := 136) (ls1 := [some (rv 437), some (.int (J p0)), some (rv p1), some (rv p2), some (rv p3), some (.int (J x2)), some (rv p3), some (.int (J x9)), some (.int (J x10)), some (.int (J x41)), some (.int (J x49)), d13]) rfl rfl rfl rfl ?_
                refine r_n (pc1 := 137) [.int (J 0)] _ rfl rfl ?_
                refine r_ist (pc1 := 139) (ls1 := [some (rv 437), some (.int (J p0)), some (rv p1), some (rv p2), some (rv p3), some (.int (J x2)), some (rv p3), some (.int (J x9)), some (.int (J x10)), some (.int (J x41)), some (.int (J x49)), some (.int (J 0))]) rfl rfl rfl rfl ?_
                obtain ⟨I51, m51, w, y51⟩ := w
                have Q51 : ∀ (n : Nat)  (x50 : Int), rg x50 → m51 x50 < n → I51 x50 → RR sc goal fs 180 139 [some (rv 437), some (.int (J p0)), some (rv p1), some (rv p2), some (rv p3), some (.int (J x2)), some (rv p3), some (.int (J x9)), some (.int (J x10)), some (.int (J x41)), some (.int (J x49)), some (.int (J x50))] [] h14 := by
                  intro n
                  induction n with
                  | zero => intro x50 rx50 q51 _; exact absurd q51 (Nat.not_lt_zero _)
                  | succ n ih51 =>
                    intro x50 rx50 q51 z51
                    have w := y51 x50 rx50 z51
                    refine r_n (pc1 := 141) [.int (J x50)] _ rfl rfl ?_
                    refine r_n (pc1 := 143) [.int (J 12), .int (J x50)] _ rfl rfl ?_
                    refine r_ic (t := 187) (pc1 := 146) rfl rfl rfl rx50 (rgk rfl) (fun c67 => ?_) (fun c67 => ?_)
                    · have w := w.1 c67
                      refine r_aldn (pc1 := 188) rfl rfl rfl ?_
                      refine r_n (pc1 := 190) [.int (J x41), rv p1] _ rfl rfl ?_
                      refine r_aldn (pc1 := 191) rfl rfl rfl ?_
                      refine r_n (pc1 := 193) [.int (J x41), rv p2, .int (J x41), rv p1] _ rfl rfl ?_
                      obtain ⟨c52, w⟩ := w
                      obtain ⟨c53, w⟩ := w
                      refine r_ial (pc1 := 194) rfl rfl t14 c52 rx41 c53.1 c53.2 ?_
                      obtain ⟨c54, w⟩ := w
                      obtain ⟨c55, w⟩ := w
                      refine r_iast (pc1 := 195) rfl rfl t14 c54 rx41 c55.1 c55.2 (fun h56 eh56 t56 u56 => ?_)
                      have w := w h56 eh56 t56 u56
                      have s56 := HX_trans s14 u56
                      exact Q46 _ _ _  h56 t56 s56  w
                    · have w := w.2 c67
                      refine r_aldn (pc1 := 147) rfl rfl rfl ?_
                      refine r_n (pc1 := 149) [.int (J x50), rv p1] _ rfl rfl ?_
                      obtain ⟨c57, w⟩ := w
                      obtain ⟨c58, w⟩ := w
                      refine r_ial (pc1 := 150) rfl rfl t14 c57 rx50 c58.1 c58.2 ?_
                      refine r_n (pc1 := 151) [.int (J (-1)), .int (J (hI h14 p1 x50.toNat))] _ rfl rfl ?_
                      obtain ⟨J59, j59, w⟩ := w
                      have Q59 : J59 → RR sc goal fs 180 181 [some (rv 437), some (.int (J p0)), some (rv p1), some (rv p2), some (rv p3), some (.int (J x2)), some (rv p3), some (.int (J x9)), some (.int (J x10)), some (.int (J x41)), some (.int (J x49)), some (.int (J x50))] [] h14 := by
                        intro z59
                        have w := j59 z59
                        refine r_inc (pc1 := 184) (g := fun zz => [some (rv 437), some (.int (J p0)), some (rv p1), some (rv p2), some (rv p3), some (.int (J x2)), some (rv p3), some (.int (J x9)), some (.int (J x10)), some (.int (J x41)), some (.int (J x49)), some (.int (J zz))]) rfl rfl rfl rfl (fun _ => rfl) (fun x60 ex60 rx60 => ?_)
                        have w := w x60 ex60 rx60
                        refine r_goto (t := 139) rfl rfl ?_
                        exact ih51  x60  rx60 (Nat.lt_of_lt_of_le w.2 (Nat.le_of_lt_succ q51)) w.1
                      refine r_ic (t := 181) (pc1 := 154) rfl rfl rfl (rgh _ _ _) (rgk rfl) (fun c66 => ?_) (fun c66 => ?_)
                      · have w := w.1 c66
                        exact Q59     w
                      · have w := w.2 c66
                        refine r_aldn (pc1 := 155) rfl rfl rfl ?_
                        refine r_aldn (pc1 := 156) rfl rfl rfl ?_
                        refine r_aldn (pc1 := 157) rfl rfl rfl ?_
                        refine r_n (pc1 := 159) [.int (J x50), rv p1, rv 437, rv 437] _ rfl rfl ?_
                        refine r_iv rfl rfl rfl rfl rfl rfl t14 (lyk t14 rfl) rfl (xe_of (xa_r (xa_r (xa_i xa_0))) rfl rfl) (r_d0 hd rfl) (a_X14_slotIn p1 x50 (r_d1 hd rfl) rx50 w t14 (fun x61 rx61 w => ?_))
                        refine r_fI (pc1 := 162) rfl ?_
                        have w := w rx61
                        refine r_n (pc1 := 163) [.int (J 2), .int (J x61), rv 437] _ rfl rfl ?_
                        refine r_iv rfl rfl rfl rfl rfl rfl t14 (lyk t14 rfl) rfl (xe_of (xa_r (xa_i (xa_i xa_0))) rfl rfl) (r_d0 hd rfl) (a_X14_ver x61 2 (r_d1 hd rfl) rx61 (rgk rfl) w t14 (fun x62 rx62 w => ?_))
                        refine r_fI (pc1 := 166) rfl ?_
                        have w := w rx62
                        refine r_n (pc1 := 168) [.int (J x49), .int (J x62)] _ rfl rfl ?_
                        refine r_iand (pc1 := 169) rfl rfl ?_
                        refine r_iz (t := 181) (pc1 := 172) rfl rfl rfl (rgt _) (fun c65 => ?_) (fun c65 => ?_)
                        · have w := w.1 c65
                          exact Q59     w
                        · have w := w.2 c65
                          refine r_aldn (pc1 := 173) rfl rfl rfl ?_
                          refine r_n (pc1 := 174) [.int (J 2), rv 437] _ rfl rfl ?_
                          refine r_n (pc1 := 176) [.int (J x41), .int (J 2), rv 437] _ rfl rfl ?_
                          refine r_n (pc1 := 177) [.int (J p0), .int (J x41), .int (J 2), rv 437] _ rfl rfl ?_
                          refine r_iv rfl rfl rfl rfl rfl rfl t14 (lyk t14 rfl) rfl (xe_of (xa_r (xa_i (xa_i (xa_i xa_0)))) rfl rfl) (r_d0 hd rfl) (a_X14_goesWrong 2 x41 p0 (r_d1 hd rfl) (rgk rfl) rx41 rp0 w t14 (fun x63 h64 t64 u64 rx63 w => ?_))
                          refine r_fI (pc1 := 180) rfl ?_
                          have s64 := HX_trans s14 u64
                          have w := w t64 u64
                          have w := w rx63
                          exact r_retI rfl rfl rfl (k _ _ t64 s64 rx63 w)
                exact Q51 _  0  (rgk rfl) (Nat.lt_succ_self _) w
              · have w := w.2 c68
                refine r_goto (t := 195) rfl rfl ?_
                exact Q46 _ _ _  h14 t14 s14  w
        exact Q15 _ _ _ _ 0 h5 t5 s5 (rgk rfl) (Nat.lt_succ_self _) w
      · have w := w.2 c90
        refine r_n (pc1 := 20) [.int (J x2)] _ rfl rfl ?_
        refine r_n (pc1 := 22) [.int (J x3), .int (J x2)] _ rfl rfl ?_
        refine r_ishr (pc1 := 23) rfl rfl ?_
        refine r_n (pc1 := 24) [.int (J 1), .int (J (ishr x2 x3))] _ rfl rfl ?_
        refine r_iand (pc1 := 25) rfl rfl ?_
        refine r_n (pc1 := 26) [.int (J 1), .int (J (iand (ishr x2 x3) 1))] _ rfl rfl ?_
        obtain ⟨J71, j71, w⟩ := w
        have Q71 : ∀ (x70 : Int), rg x70 → J71 x70 → RR sc goal fs 180 34 [some (rv 437), some (.int (J p0)), some (rv p1), some (rv p2), some (rv p3), some (.int (J x2)), some (.int (J x3)), d4, none, none, none, none] [.int (J x70)] h5 := by
          intro x70 rx70 z71
          have w := j71 x70 rx70 z71
          refine r_ist (pc1 := 36) (ls1 := [some (rv 437), some (.int (J p0)), some (rv p1), some (rv p2), some (rv p3), some (.int (J x2)), some (.int (J x3)), some (.int (J x70)), none, none, none, none]) rfl rfl rfl rfl ?_
          refine r_n (pc1 := 38) [.int (J x70)] _ rfl rfl ?_
          obtain ⟨J73, j73, w⟩ := w
          have Q73 : ∀ (h72 : XH), HT h72 → HX h h72 → J73 h72 → RR sc goal fs 180 77 [some (rv 437), some (.int (J p0)), some (rv p1), some (rv p2), some (rv p3), some (.int (J x2)), some (.int (J x3)), some (.int (J x70)), none, none, none, none] [] h72 := by
            intro h72 t72 s72 z73
            have w := j73 h72 t72 s72 z73
            refine r_inc (pc1 := 80) (g := fun zz => [some (rv 437), some (.int (J p0)), some (rv p1), some (rv p2), some (rv p3), some (.int (J x2)), some (.int (J zz)), some (.int (J x70)), none, none, none, none]) rfl rfl rfl rfl (fun _ => rfl) (fun x74 ex74 rx74 => ?_)
            have w := w x74 ex74 rx74
            refine r_goto (t := 11) rfl rfl ?_
            exact ih6 _ x74 h72 t72 s72 rx74 (Nat.lt_of_lt_of_le w.2 (Nat.le_of_lt_succ q6)) w.1
          obtain ⟨J75, j75, w⟩ := w
          have Q75 : J75 → RR sc goal fs 180 64 [some (rv 437), some (.int (J p0)), some (rv p1), some (rv p2), some (rv p3), some (.int (J x2)), some (.int (J x3)), some (.int (J x70)), none, none, none, none] [] h5 := by
            intro z75
            have w := j75 z75
            refine r_n (pc1 := 66) [.int (J x70)] _ rfl rfl ?_
            refine r_iz (t := 77) (pc1 := 69) rfl rfl rfl rx70 (fun c81 => ?_) (fun c81 => ?_)
            · have w := w.1 c81
              exact Q73   h5 t5 s5  w
            · have w := w.2 c81
              refine r_aldn (pc1 := 70) rfl rfl rfl ?_
              refine r_n (pc1 := 72) [.int (J x3), rv p1] _ rfl rfl ?_
              refine r_aldn (pc1 := 73) rfl rfl rfl ?_
              refine r_n (pc1 := 75) [.int (J x3), rv p2, .int (J x3), rv p1] _ rfl rfl ?_
              obtain ⟨c76, w⟩ := w
              obtain ⟨c77, w⟩ := w
              refine r_ial (pc1 := 76) rfl rfl t5 c76 rx3 c77.1 c77.2 ?_
              obtain ⟨c78, w⟩ := w
              obtain ⟨c79, w⟩ := w
              refine r_iast (pc1 := 77) rfl rfl t5 c78 rx3 c79.1 c79.2 (fun h80 eh80 t80 u80 => ?_)
              have w := w h80 eh80 t80 u80
              have s80 := HX_trans s5 u80
              exact Q73   h80 t80 s80  w
          refine r_iz (t := 64) (pc1 := 41) rfl rfl rfl rx70 (fun c88 => ?_) (fun c88 => ?_)
          · have w := w.1 c88
            exact Q75     w
          · have w := w.2 c88
            refine r_aldn (pc1 := 42) rfl rfl rfl ?_
            refine r_n (pc1 := 44) [.int (J x3), rv p1] _ rfl rfl ?_
            refine r_iq rfl rfl rfl rfl rfl rfl (xe_of (xa_r (xa_i xa_0)) rfl rfl) (r_d0 hd rfl) (a_X14_codeIn p1 x3 (r_d1 hd rfl) rx3 w t5 (fun x82 rx82 w => ?_))
            refine r_fI (pc1 := 47) rfl ?_
            have w := w rx82
            refine r_aldn (pc1 := 48) rfl rfl rfl ?_
            refine r_n (pc1 := 50) [.int (J x3), rv p2, .int (J x82)] _ rfl rfl ?_
            refine r_iq rfl rfl rfl rfl rfl rfl (xe_of (xa_r (xa_i xa_0)) rfl rfl) (r_d0 hd rfl) (a_X14_codeIn p2 x3 (r_d1 hd rfl) rx3 w t5 (fun x83 rx83 w => ?_))
            refine r_fI (pc1 := 53) rfl ?_
            have w := w rx83
            refine r_ic (t := 64) (pc1 := 56) rfl rfl rfl rx82 rx83 (fun c87 => ?_) (fun c87 => ?_)
            · have w := w.1 c87
              exact Q75     w
            · have w := w.2 c87
              refine r_aldn (pc1 := 57) rfl rfl rfl ?_
              refine r_n (pc1 := 59) [.int (J x3), rv p1] _ rfl rfl ?_
              refine r_n (pc1 := 60) [.int (J (-1)), .int (J x3), rv p1] _ rfl rfl ?_
              obtain ⟨c84, w⟩ := w
              obtain ⟨c85, w⟩ := w
              refine r_iast (pc1 := 61) rfl rfl t5 c84 rx3 c85.1 c85.2 (fun h86 eh86 t86 u86 => ?_)
              have w := w h86 eh86 t86 u86
              have s86 := HX_trans s5 u86
              refine r_goto (t := 77) rfl rfl ?_
              exact Q73   h86 t86 s86  w
        refine r_ic (t := 33) (pc1 := 29) rfl rfl rfl (rgt _) (rgk rfl) (fun c89 => ?_) (fun c89 => ?_)
        · have w := w.1 c89
          refine r_n (pc1 := 34) [.int (J 0)] _ rfl rfl ?_
          exact Q71  0  (rgk rfl) w
        · have w := w.2 c89
          refine r_n (pc1 := 30) [.int (J 1)] _ rfl rfl ?_
          refine r_goto (t := 34) rfl rfl ?_
          exact Q71  1  (rgk rfl) w
  exact Q6 _ _ 0 h t0 (HX_refl h) (rgk rfl) (Nat.lt_succ_self _) w
def w_X14_install  (K : Int → XH → Prop) (h : XH) : Prop :=
  (∀ h1 : XH, h1 = sI h 437 5 0 → HT h1 → HX h h1 → w_X14_goalSet (fun a2 h3 => HT h3 → HX h1 h3 → (w_X14_isSoundSet a2 (fun x4 => rg x4 → (x4 = 0 ∨ x4 = 1) → (w_X14_refused x4 1 (fun x5 h6 => HT h6 → HX h3 h6 → rg x5 → (x5 = 0 ∨ x5 = 1) → (((x5 = 0 → (w_X14_record (fun h7 => HT h7 → HX h6 h7 → (w_X14_installedSet (fun a8 h9 => HT h9 → HX h7 h9 → (w_X14_findScripts a2 (fun h10 => HT h10 → HX h9 h10 → (((0 ≤ hI h10 437 61 → (w_X14_coming a2 a8 (fun a11 h12 => HT h12 → HX h10 h12 → ((∃ (I15 : Int → XH → Prop) (m15 : Int → XH → Nat), I15 0 h12 ∧ ∀ (x13 : Int) (h14 : XH), HT h14 → HX h h14 → rg x13 → I15 x13 h14 → (hk h14 a11 = 100 ∧ (hn h14 a11 : Int) < 2147483648 ∧ ∃ J18 : Prop, (J18 → (w_X14_findSteps a8 a2 (fun h19 => HT h19 → HX h14 h19 → ((∃ (I23 : Int → XH → Prop) (m23 : Int → XH → Nat), I23 0 h19 ∧ ∀ (x20 : Int) (h22 : XH), HT h22 → HX h h22 → rg x20 → I23 x20 h22 → (((hI h22 437 63 ≤ x20 → (hk h22 a2 = 100 ∧ (¬ a2 = 438 ∧ (0 : Int) ≤ 0 ∧ (0 : Int) ≤ wr ((wr (805 + (wr ((hI h22 438 1) * 291)))) + 23) ∧ (0 : Int) ≤ 12 ∧ ((0 + 12 : Int)) ≤ (hn h22 a2 : Int) ∧ (((wr ((wr (805 + (wr ((hI h22 438 1) * 291)))) + 23)) + 12 : Int)) ≤ 1957) ∧ ∀ h26 : XH, h26 = cA h22 a2 0 438 (wr ((wr (805 + (wr ((hI h22 438 1) * 291)))) + 23)).toNat 12 → HT h26 → HX h22 h26 → w_X14_rootAt 47 (fun x27 => rg x27 → ((¬ a2 = 438 ∧ (0 : Int) ≤ 0 ∧ (0 : Int) ≤ wr ((wr ((wr (805 + (wr ((hI h26 438 1) * 291)))) + 48)) + (wr ((irem x27 20) * 12))) ∧ (0 : Int) ≤ 12 ∧ ((0 + 12 : Int)) ≤ (hn h26 a2 : Int) ∧ (((wr ((wr ((wr (805 + (wr ((hI h26 438 1) * 291)))) + 48)) + (wr ((irem x27 20) * 12)))) + 12 : Int)) ≤ 1957) ∧ ∀ h29 : XH, h29 = cA h26 a2 0 438 (wr ((wr ((wr (805 + (wr ((hI h26 438 1) * 291)))) + 48)) + (wr ((irem x27 20) * 12)))).toNat 12 → HT h29 → HX h26 h29 → w_X14_rootAt 47 (fun x30 => rg x30 → (w_X14_putRoot 47 (wr (x30 + 1)) (fun h31 => HT h31 → HX h29 h31 → (w_X14_goesWrong (-1) (-1) (-1) (fun x32 h33 => HT h33 → HX h31 h33 → rg x32 → (K (hI h33 437 63) h33)) h31)) h29)) h29)) h26)) ∧ (¬ (hI h22 437 63 ≤ x20) → (w_X14_carryOut x20 a8 a2 a11 (fun x34 h35 => HT h35 → HX h22 h35 → rg x34 → (((¬ x34 = (-1) → (∀ x36 : Int, x36 = wr (x20 + 1) → rg x36 → (I23 x36 h35 ∧ m23 x36 h35 < m23 x20 h22))) ∧ (¬ (¬ x34 = (-1)) → (K (-1) h35))))) h22))))))) h14)) ∧ (((hn h14 a11 : Int) ≤ x13 → J18) ∧ (¬ ((hn h14 a11 : Int) ≤ x13) → (((hI h14 438 3 ≤ 0 → J18) ∧ (¬ (hI h14 438 3 ≤ 0) → ((0 ≤ x13 ∧ x13 < (hn h14 a11 : Int)) ∧ w_X14_slotIn a2 (hI h14 a11 x13.toNat) (fun x40 => rg x40 → (w_X14_mirrorFor x40 (hI h14 438 2) 1 (fun x41 h42 => HT h42 → HX h14 h42 → rg x41 → (((¬ x41 = (-1) → (∀ h43 : XH, h43 = sI h42 438 2 (wr ((hI h42 438 2) + 1)) → HT h43 → HX h42 h43 → ∀ x44 : Int, x44 = wr (x13 + 1) → rg x44 → (I15 x44 h43 ∧ m15 x44 h43 < m15 x13 h14))) ∧ (¬ (¬ x41 = (-1)) → ((0 ≤ x13 ∧ x13 < (hn h42 a11 : Int)) ∧ w_X14_goesWrong 1 (hI h42 a11 x13.toNat) (-1) (fun x46 h47 => HT h47 → HX h42 h47 → rg x46 → (K x46 h47)) h42))))) h14)) h14)))))))))) h10)) ∧ (¬ (0 ≤ hI h10 437 61) → (w_X14_goesWrong 0 (hI h10 465 0) (-1) (fun x51 h52 => HT h52 → HX h10 h52 → rg x51 → (K x51 h52)) h10))))) h9)) h7)) h6)) ∧ (¬ (x5 = 0) → (K 0 h6))))) h3)) h3)) h1)
set_option maxHeartbeats 4000000 in
theorem a_X14_install {sc : Nat × (Nat → Int32)} {goal : XO → XH → Prop} {fs : List XF} {h : XH}  {K : Int → XH → Prop} (hd : fs.length + 8 ≤ 1000) (w : w_X14_install  K h) (t0 : HT h) (k : ∀ (r : Int) (h1 : XH), HT h1 → HX h h1 → rg r → K r h1 → XFin xP sc goal fs (.inl (some (.int (J r)))) h1) : RR sc goal fs 219 0 [some (rv 437), none, none, none, none, none] [] h := by
  unfold w_X14_install at w
  refine r_aldn (pc1 := 1) rfl rfl rfl ?_
  refine r_n (pc1 := 2) [.int (J 0), rv 437] _ rfl rfl ?_
  refine r_pfI (pc1 := 5) rfl rfl rfl t0 (lyk t0 rfl) rfl rfl rfl (fun h1 eh1 t1 u1 => ?_)
  have w := w h1 eh1 t1 u1
  have s1 := HX_trans (HX_refl h) u1
  refine r_aldn (pc1 := 6) rfl rfl rfl ?_
  refine r_iv rfl rfl rfl rfl rfl rfl t1 (lyk t1 rfl) rfl (xe_of (xa_r xa_0) rfl rfl) (r_d0 hd rfl) (a_X14_goalSet  (r_d1 hd rfl)  w t1 (fun a2 h3 t3 u3 w => ?_))
  refine r_fR (pc1 := 9) rfl ?_
  have s3 := HX_trans s1 u3
  have w := w t3 u3
  refine r_astn (pc1 := 10) (ls1 := [some (rv 437), some (rv a2), none, none, none, none]) rfl rfl rfl rfl ?_
  refine r_aldn (pc1 := 11) rfl rfl rfl ?_
  refine r_aldn (pc1 := 12) rfl rfl rfl ?_
  refine r_aldn (pc1 := 13) rfl rfl rfl ?_
  refine r_iv rfl rfl rfl rfl rfl rfl t3 (lyk t3 rfl) rfl (xe_of (xa_r (xa_r xa_0)) rfl rfl) (r_d0 hd rfl) (a_X14_isSoundSet a2 (r_d1 hd rfl)  w t3 (fun x4 rx4 vx4 w => ?_))
  refine r_fI (pc1 := 16) rfl ?_
  have w := w rx4 vx4
  refine r_n (pc1 := 17) [.int (J 1), .int (J x4), rv 437] _ rfl rfl ?_
  refine r_iv rfl rfl rfl rfl rfl rfl t3 (lyk t3 rfl) rfl (xe_of (xa_r (xa_i (xa_i xa_0))) rfl rfl) (r_d0 hd rfl) (a_X14_refused x4 1 (r_d1 hd rfl) rx4 (rgk rfl) w t3 (fun x5 h6 t6 u6 rx5 vx5 w => ?_))
  refine r_fI (pc1 := 20) rfl ?_
  have s6 := HX_trans s3 u6
  have w := w t6 u6
  have w := w rx5 vx5
  refine r_iz (t := 25) (pc1 := 23) rfl rfl rfl rx5 (fun c54 => ?_) (fun c54 => ?_)
  · have w := w.1 c54
    refine r_aldn (pc1 := 26) rfl rfl rfl ?_
    refine r_iv rfl rfl rfl rfl rfl rfl t6 (lyk t6 rfl) rfl (xe_of (xa_r xa_0) rfl rfl) (r_d0 hd rfl) (a_X14_record  (r_d1 hd rfl)  w t6 (fun h7 t7 u7 w => ?_))
    refine r_fV (pc1 := 29) rfl ?_
    have s7 := HX_trans s6 u7
    have w := w t7 u7
    refine r_aldn (pc1 := 30) rfl rfl rfl ?_
    refine r_iv rfl rfl rfl rfl rfl rfl t7 (lyk t7 rfl) rfl (xe_of (xa_r xa_0) rfl rfl) (r_d0 hd rfl) (a_X14_installedSet  (r_d1 hd rfl)  w t7 (fun a8 h9 t9 u9 w => ?_))
    refine r_fR (pc1 := 33) rfl ?_
    have s9 := HX_trans s7 u9
    have w := w t9 u9
    refine r_astn (pc1 := 34) (ls1 := [some (rv 437), some (rv a2), some (rv a8), none, none, none]) rfl rfl rfl (xput1_rv rfl rfl) ?_
    refine r_aldn (pc1 := 35) rfl rfl rfl ?_
    refine r_aldn (pc1 := 36) rfl rfl rfl ?_
    refine r_iv rfl rfl rfl rfl rfl rfl t9 (lyk t9 rfl) rfl (xe_of (xa_r (xa_r xa_0)) rfl rfl) (r_d0 hd rfl) (a_X14_findScripts a2 (r_d1 hd rfl)  w t9 (fun h10 t10 u10 w => ?_))
    refine r_fV (pc1 := 39) rfl ?_
    have s10 := HX_trans s9 u10
    have w := w t10 u10
    refine r_aldn (pc1 := 40) rfl rfl rfl ?_
    refine r_gfI (pc1 := 43) rfl rfl rfl t10 (lyk t10 rfl) rfl rfl ?_
    refine r_iz (t := 59) (pc1 := 46) rfl rfl rfl (rgh _ _ _) (fun c53 => ?_) (fun c53 => ?_)
    · have w := w.1 c53
      refine r_aldn (pc1 := 60) rfl rfl rfl ?_
      refine r_aldn (pc1 := 61) rfl rfl rfl ?_
      refine r_aldn (pc1 := 62) rfl rfl rfl ?_
      refine r_iv rfl rfl rfl rfl rfl rfl t10 (lyk t10 rfl) rfl (xe_of (xa_r (xa_r (xa_r xa_0))) rfl rfl) (r_d0 hd rfl) (a_X14_coming a2 a8 (r_d1 hd rfl)  w t10 (fun a11 h12 t12 u12 w => ?_))
      refine r_fR (pc1 := 65) rfl ?_
      have s12 := HX_trans s10 u12
      have w := w t12 u12
      refine r_astn (pc1 := 66) (ls1 := [some (rv 437), some (rv a2), some (rv a8), some (rv a11), none, none]) rfl rfl rfl (xput1_rv rfl rfl) ?_
      refine r_n (pc1 := 67) [.int (J 0)] _ rfl rfl ?_
      refine r_ist (pc1 := 69) (ls1 := [some (rv 437), some (rv a2), some (rv a8), some (rv a11), some (.int (J 0)), none]) rfl rfl rfl (xput1_rv rfl rfl) ?_
      obtain ⟨I15, m15, w, y15⟩ := w
      have Q15 : ∀ (n : Nat)  (x13 : Int) (h14 : XH), HT h14 → HX h h14 → rg x13 → m15 x13 h14 < n → I15 x13 h14 → RR sc goal fs 219 69 [some (rv 437), some (rv a2), some (rv a8), some (rv a11), some (.int (J x13)), none] [] h14 := by
        intro n
        induction n with
        | zero => intro x13 h14 t14 s14 rx13 q15 _; exact absurd q15 (Nat.not_lt_zero _)
        | succ n ih15 =>
          intro x13 h14 t14 s14 rx13 q15 z15
          have w := y15 x13 h14 t14 s14 rx13 z15
          refine r_n (pc1 := 71) [.int (J x13)] _ rfl rfl ?_
          refine r_aldn (pc1 := 72) rfl rfl rfl ?_
          obtain ⟨c16, w⟩ := w
          obtain ⟨c17, w⟩ := w
          refine r_len (pc1 := 73) (u := 0) rfl rfl t14 c16 (by decide) (fun rc17 => ?_) c17
          obtain ⟨J18, j18, w⟩ := w
          have Q18 : J18 → RR sc goal fs 219 136 [some (rv 437), some (rv a2), some (rv a8), some (rv a11), some (.int (J x13)), none] [] h14 := by
            intro z18
            have w := j18 z18
            refine r_aldn (pc1 := 137) rfl rfl rfl ?_
            refine r_aldn (pc1 := 138) rfl rfl rfl ?_
            refine r_aldn (pc1 := 139) rfl rfl rfl ?_
            refine r_iv rfl rfl rfl rfl rfl rfl t14 (lyk t14 rfl) rfl (xe_of (xa_r (xa_r (xa_r xa_0))) rfl rfl) (r_d0 hd rfl) (a_X14_findSteps a8 a2 (r_d1 hd rfl)  w t14 (fun h19 t19 u19 w => ?_))
            refine r_fV (pc1 := 142) rfl ?_
            have s19 := HX_trans s14 u19
            have w := w t19 u19
            refine r_n (pc1 := 143) [.int (J 0)] _ rfl rfl ?_
            refine r_ist (pc1 := 145) (ls1 := [some (rv 437), some (rv a2), some (rv a8), some (rv a11), some (.int (J 0)), none]) rfl rfl rfl (xput1_rv rfl rfl) ?_
            obtain ⟨I23, m23, w, y23⟩ := w
            have Q23 : ∀ (n : Nat) (d21 : Option Value) (x20 : Int) (h22 : XH), HT h22 → HX h h22 → rg x20 → m23 x20 h22 < n → I23 x20 h22 → RR sc goal fs 219 145 [some (rv 437), some (rv a2), some (rv a8), some (rv a11), some (.int (J x20)), d21] [] h22 := by
              intro n
              induction n with
              | zero => intro d21 x20 h22 t22 s22 rx20 q23 _; exact absurd q23 (Nat.not_lt_zero _)
              | succ n ih23 =>
                intro d21 x20 h22 t22 s22 rx20 q23 z23
                have w := y23 x20 h22 t22 s22 rx20 z23
                refine r_n (pc1 := 147) [.int (J x20)] _ rfl rfl ?_
                refine r_aldn (pc1 := 148) rfl rfl rfl ?_
                refine r_gfI (pc1 := 151) rfl rfl rfl t22 (lyk t22 rfl) rfl rfl ?_
                refine r_ic (t := 179) (pc1 := 154) rfl rfl rfl rx20 (rgh _ _ _) (fun c38 => ?_) (fun c38 => ?_)
                · have w := w.1 c38
                  refine r_aldn (pc1 := 180) rfl rfl rfl ?_
                  refine r_n (pc1 := 181) [.int (J 0), rv a2] _ rfl rfl ?_
                  refine r_aldn (pc1 := 182) rfl rfl rfl ?_
                  refine r_gfC (pc1 := 185) (q := 438) rfl rfl rfl t22 (lyk t22 rfl) rfl rfl (lyR t22 rfl rfl) ?_
                  refine r_n (pc1 := 188) [.int (J 805), rv 438, .int (J 0), rv a2] _ rfl rfl ?_
                  refine r_aldn (pc1 := 189) rfl rfl rfl ?_
                  refine r_gfC (pc1 := 192) (q := 438) rfl rfl rfl t22 (lyk t22 rfl) rfl rfl (lyR t22 rfl rfl) ?_
                  refine r_n (pc1 := 193) [.int (J 1), rv 438, .int (J 805), rv 438, .int (J 0), rv a2] _ rfl rfl ?_
                  refine r_ial (pc1 := 194) rfl rfl t22 (lyk t22 rfl) (rgk rfl) (by decide) (lt_len (lyn t22 rfl) (by decide)) ?_
                  refine r_n (pc1 := 197) [.int (J 291), .int (J (hI h22 438 1)), .int (J 805), rv 438, .int (J 0), rv a2] _ rfl rfl ?_
                  refine r_imul (pc1 := 198) rfl rfl ?_
                  refine r_iadd (pc1 := 199) rfl rfl ?_
                  refine r_n (pc1 := 201) [.int (J 23), .int (J (wr (805 + (wr ((hI h22 438 1) * 291))))), rv 438, .int (J 0), rv a2] _ rfl rfl ?_
                  refine r_iadd (pc1 := 202) rfl rfl ?_
                  refine r_n (pc1 := 204) [.int (J 12), .int (J (wr ((wr (805 + (wr ((hI h22 438 1) * 291)))) + 23))), rv 438, .int (J 0), rv a2] _ rfl rfl ?_
                  obtain ⟨c24, w⟩ := w
                  obtain ⟨c25, w⟩ := w
                  refine r_cp (pc1 := 207) (u := 0) rfl rfl rfl rfl t22 c24 (lyk t22 rfl) (by decide) (rgk rfl) (rgw _) (rgk rfl) rfl (lyn t22 rfl) c25 (fun h26 eh26 t26 u26 => ?_)
                  have w := w h26 eh26 t26 u26
                  have s26 := HX_trans s22 u26
                  refine r_aldn (pc1 := 208) rfl rfl rfl ?_
                  refine r_n (pc1 := 209) [.int (J 0), rv a2] _ rfl rfl ?_
                  refine r_aldn (pc1 := 210) rfl rfl rfl ?_
                  refine r_gfC (pc1 := 213) (q := 438) rfl rfl rfl t26 (lyk t26 rfl) rfl rfl (lyR t26 rfl rfl) ?_
                  refine r_n (pc1 := 216) [.int (J 805), rv 438, .int (J 0), rv a2] _ rfl rfl ?_
                  refine r_aldn (pc1 := 217) rfl rfl rfl ?_
                  refine r_gfC (pc1 := 220) (q := 438) rfl rfl rfl t26 (lyk t26 rfl) rfl rfl (lyR t26 rfl rfl) ?_
                  refine r_n (pc1 := 221) [.int (J 1), rv 438, .int (J 805), rv 438, .int (J 0), rv a2] _ rfl rfl ?_
                  refine r_ial (pc1 := 222) rfl rfl t26 (lyk t26 rfl) (rgk rfl) (by decide) (lt_len (lyn t26 rfl) (by decide)) ?_
                  refine r_n (pc1 := 225) [.int (J 291), .int (J (hI h26 438 1)), .int (J 805), rv 438, .int (J 0), rv a2] _ rfl rfl ?_
                  refine r_imul (pc1 := 226) rfl rfl ?_
                  refine r_iadd (pc1 := 227) rfl rfl ?_
                  refine r_n (pc1 := 229) [.int (J 48), .int (J (wr (805 + (wr ((hI h26 438 1) * 291))))), rv 438, .int (J 0), rv a2] _ rfl rfl ?_
                  refine r_iadd (pc1 := 230) rfl rfl ?_
                  refine r_aldn (pc1 := 231) rfl rfl rfl ?_
                  refine r_n (pc1 := 233) [.int (J 47), rv 437, .int (J (wr ((wr (805 + (wr ((hI h26 438 1) * 291)))) + 48))), rv 438, .int (J 0), rv a2] _ rfl rfl ?_
                  refine r_iv rfl rfl rfl rfl rfl rfl t26 (lyk t26 rfl) rfl (xe_of (xa_r (xa_i xa_0)) rfl rfl) (r_d0 hd rfl) (a_X14_rootAt 47 (r_d1 hd rfl) (rgk rfl) w t26 (fun x27 rx27 w => ?_))
                  refine r_fI (pc1 := 236) rfl ?_
                  have w := w rx27
                  refine r_n (pc1 := 238) [.int (J 20), .int (J x27), .int (J (wr ((wr (805 + (wr ((hI h26 438 1) * 291)))) + 48))), rv 438, .int (J 0), rv a2] _ rfl rfl ?_
                  refine r_irem (pc1 := 239) rfl rfl (rgk rfl) (by decide) ?_
                  refine r_n (pc1 := 241) [.int (J 12), .int (J (irem x27 20)), .int (J (wr ((wr (805 + (wr ((hI h26 438 1) * 291)))) + 48))), rv 438, .int (J 0), rv a2] _ rfl rfl ?_
                  refine r_imul (pc1 := 242) rfl rfl ?_
                  refine r_iadd (pc1 := 243) rfl rfl ?_
                  refine r_n (pc1 := 245) [.int (J 12), .int (J (wr ((wr ((wr (805 + (wr ((hI h26 438 1) * 291)))) + 48)) + (wr ((irem x27 20) * 12))))), rv 438, .int (J 0), rv a2] _ rfl rfl ?_
                  obtain ⟨c28, w⟩ := w
                  refine r_cp (pc1 := 248) (u := 0) rfl rfl rfl rfl t26 (HXk u26 c24 rfl) (lyk t26 rfl) (by decide) (rgk rfl) (rgw _) (rgk rfl) rfl (lyn t26 rfl) c28 (fun h29 eh29 t29 u29 => ?_)
                  have w := w h29 eh29 t29 u29
                  have s29 := HX_trans s26 u29
                  refine r_aldn (pc1 := 249) rfl rfl rfl ?_
                  refine r_n (pc1 := 251) [.int (J 47), rv 437] _ rfl rfl ?_
                  refine r_aldn (pc1 := 252) rfl rfl rfl ?_
                  refine r_n (pc1 := 254) [.int (J 47), rv 437, .int (J 47), rv 437] _ rfl rfl ?_
                  refine r_iv rfl rfl rfl rfl rfl rfl t29 (lyk t29 rfl) rfl (xe_of (xa_r (xa_i xa_0)) rfl rfl) (r_d0 hd rfl) (a_X14_rootAt 47 (r_d1 hd rfl) (rgk rfl) w t29 (fun x30 rx30 w => ?_))
                  refine r_fI (pc1 := 257) rfl ?_
                  have w := w rx30
                  refine r_n (pc1 := 258) [.int (J 1), .int (J x30), .int (J 47), rv 437] _ rfl rfl ?_
                  refine r_iadd (pc1 := 259) rfl rfl ?_
                  refine r_iv rfl rfl rfl rfl rfl rfl t29 (lyk t29 rfl) rfl (xe_of (xa_r (xa_i (xa_i xa_0))) rfl rfl) (r_d0 hd rfl) (a_X14_putRoot 47 (wr (x30 + 1)) (r_d1 hd rfl) (rgk rfl) (rgw _) w t29 (fun h31 t31 u31 w => ?_))
                  refine r_fV (pc1 := 262) rfl ?_
                  have s31 := HX_trans s29 u31
                  have w := w t31 u31
                  refine r_aldn (pc1 := 263) rfl rfl rfl ?_
                  refine r_n (pc1 := 264) [.int (J (-1)), rv 437] _ rfl rfl ?_
                  refine r_n (pc1 := 265) [.int (J (-1)), .int (J (-1)), rv 437] _ rfl rfl ?_
                  refine r_n (pc1 := 266) [.int (J (-1)), .int (J (-1)), .int (J (-1)), rv 437] _ rfl rfl ?_
                  refine r_iv rfl rfl rfl rfl rfl rfl t31 (lyk t31 rfl) rfl (xe_of (xa_r (xa_i (xa_i (xa_i xa_0)))) rfl rfl) (r_d0 hd rfl) (a_X14_goesWrong (-1) (-1) (-1) (r_d1 hd rfl) (rgk rfl) (rgk rfl) (rgk rfl) w t31 (fun x32 h33 t33 u33 rx32 w => ?_))
                  refine r_fI (pc1 := 269) rfl ?_
                  have s33 := HX_trans s31 u33
                  have w := w t33 u33
                  have w := w rx32
                  refine r_ist (pc1 := 271) (ls1 := [some (rv 437), some (rv a2), some (rv a8), some (rv a11), some (.int (J x32)), d21]) rfl rfl rfl (xput1_rv rfl rfl) ?_
                  refine r_aldn (pc1 := 272) rfl rfl rfl ?_
                  refine r_gfI (pc1 := 275) rfl rfl rfl t33 (lyk t33 rfl) rfl rfl ?_
                  exact r_retI rfl rfl rfl (k _ _ t33 s33 (rgh _ _ _) w)
                · have w := w.2 c38
                  refine r_aldn (pc1 := 155) rfl rfl rfl ?_
                  refine r_n (pc1 := 157) [.int (J x20), rv 437] _ rfl rfl ?_
                  refine r_aldn (pc1 := 158) rfl rfl rfl ?_
                  refine r_aldn (pc1 := 159) rfl rfl rfl ?_
                  refine r_aldn (pc1 := 160) rfl rfl rfl ?_
                  refine r_iv rfl rfl rfl rfl rfl rfl t22 (lyk t22 rfl) rfl (xe_of (xa_r (xa_i (xa_r (xa_r (xa_r xa_0))))) rfl rfl) (r_d0 hd rfl) (a_X14_carryOut x20 a8 a2 a11 (r_d1 hd rfl) rx20 w t22 (fun x34 h35 t35 u35 rx34 w => ?_))
                  refine r_fI (pc1 := 163) rfl ?_
                  have s35 := HX_trans s22 u35
                  have w := w t35 u35
                  have w := w rx34
                  refine r_ist (pc1 := 165) (ls1 := [some (rv 437), some (rv a2), some (rv a8), some (rv a11), some (.int (J x20)), some (.int (J x34))]) rfl rfl rfl rfl ?_
                  refine r_n (pc1 := 167) [.int (J x34)] _ rfl rfl ?_
                  refine r_n (pc1 := 168) [.int (J (-1)), .int (J x34)] _ rfl rfl ?_
                  refine r_ic (t := 173) (pc1 := 171) rfl rfl rfl rx34 (rgk rfl) (fun c37 => ?_) (fun c37 => ?_)
                  · have w := w.1 c37
                    refine r_inc (pc1 := 176) (g := fun zz => [some (rv 437), some (rv a2), some (rv a8), some (rv a11), some (.int (J zz)), some (.int (J x34))]) rfl rfl rfl rfl (fun _ => xput1_rv rfl rfl) (fun x36 ex36 rx36 => ?_)
                    have w := w x36 ex36 rx36
                    refine r_goto (t := 145) rfl rfl ?_
                    exact ih23 _ x36 h35 t35 s35 rx36 (Nat.lt_of_lt_of_le w.2 (Nat.le_of_lt_succ q23)) w.1
                  · have w := w.2 c37
                    refine r_n (pc1 := 172) [.int (J (-1))] _ rfl rfl ?_
                    exact r_retI rfl rfl rfl (k _ _ t35 s35 (rgk rfl) w)
            exact Q23 _ _ 0 h19 t19 s19 (rgk rfl) (Nat.lt_succ_self _) w
          refine r_ic (t := 136) (pc1 := 76) rfl rfl rfl rx13 rc17 (fun c50 => ?_) (fun c50 => ?_)
          · have w := w.1 c50
            exact Q18     w
          · have w := w.2 c50
            refine r_aldn (pc1 := 77) rfl rfl rfl ?_
            refine r_gfC (pc1 := 80) (q := 438) rfl rfl rfl t14 (lyk t14 rfl) rfl rfl (lyR t14 rfl rfl) ?_
            refine r_n (pc1 := 81) [.int (J 3), rv 438] _ rfl rfl ?_
            refine r_ial (pc1 := 82) rfl rfl t14 (lyk t14 rfl) (rgk rfl) (by decide) (lt_len (lyn t14 rfl) (by decide)) ?_
            refine r_iz (t := 136) (pc1 := 85) rfl rfl rfl (rgh _ _ _) (fun c49 => ?_) (fun c49 => ?_)
            · have w := w.1 c49
              exact Q18     w
            · have w := w.2 c49
              refine r_aldn (pc1 := 86) rfl rfl rfl ?_
              refine r_aldn (pc1 := 87) rfl rfl rfl ?_
              refine r_aldn (pc1 := 88) rfl rfl rfl ?_
              refine r_aldn (pc1 := 89) rfl rfl rfl ?_
              refine r_n (pc1 := 91) [.int (J x13), rv a11, rv a2, rv 437, rv 437] _ rfl rfl ?_
              obtain ⟨c39, w⟩ := w
              refine r_ial (pc1 := 92) rfl rfl t14 c16 rx13 c39.1 c39.2 ?_
              refine r_iv rfl rfl rfl rfl rfl rfl t14 (lyk t14 rfl) rfl (xe_of (xa_r (xa_r (xa_i xa_0))) rfl rfl) (r_d0 hd rfl) (a_X14_slotIn a2 (hI h14 a11 x13.toNat) (r_d1 hd rfl) (rgh _ _ _) w t14 (fun x40 rx40 w => ?_))
              refine r_fI (pc1 := 95) rfl ?_
              have w := w rx40
              refine r_aldn (pc1 := 96) rfl rfl rfl ?_
              refine r_gfC (pc1 := 99) (q := 438) rfl rfl rfl t14 (lyk t14 rfl) rfl rfl (lyR t14 rfl rfl) ?_
              refine r_n (pc1 := 100) [.int (J 2), rv 438, .int (J x40), rv 437] _ rfl rfl ?_
              refine r_ial (pc1 := 101) rfl rfl t14 (lyk t14 rfl) (rgk rfl) (by decide) (lt_len (lyn t14 rfl) (by decide)) ?_
              refine r_n (pc1 := 102) [.int (J 1), .int (J (hI h14 438 2)), .int (J x40), rv 437] _ rfl rfl ?_
              refine r_iv rfl rfl rfl rfl rfl rfl t14 (lyk t14 rfl) rfl (xe_of (xa_r (xa_i (xa_i (xa_i xa_0)))) rfl rfl) (r_d0 hd rfl) (a_X14_mirrorFor x40 (hI h14 438 2) 1 (r_d1 hd rfl) rx40 (rgh _ _ _) (rgk rfl) w t14 (fun x41 h42 t42 u42 rx41 w => ?_))
              refine r_fI (pc1 := 105) rfl ?_
              have s42 := HX_trans s14 u42
              have w := w t42 u42
              have w := w rx41
              refine r_n (pc1 := 106) [.int (J (-1)), .int (J x41)] _ rfl rfl ?_
              refine r_ic (t := 120) (pc1 := 109) rfl rfl rfl rx41 (rgk rfl) (fun c48 => ?_) (fun c48 => ?_)
              · have w := w.1 c48
                refine r_aldn (pc1 := 121) rfl rfl rfl ?_
                refine r_gfC (pc1 := 124) (q := 438) rfl rfl rfl t42 (lyk t42 rfl) rfl rfl (lyR t42 rfl rfl) ?_
                refine r_n (pc1 := 125) [.int (J 2), rv 438] _ rfl rfl ?_
                refine r_dup2 (pc1 := 126) rfl rfl ?_
                refine r_ial (pc1 := 127) rfl rfl t42 (lyk t42 rfl) (rgk rfl) (by decide) (lt_len (lyn t42 rfl) (by decide)) ?_
                refine r_n (pc1 := 128) [.int (J 1), .int (J (hI h42 438 2)), .int (J 2), rv 438] _ rfl rfl ?_
                refine r_iadd (pc1 := 129) rfl rfl ?_
                refine r_iast (pc1 := 130) rfl rfl t42 (lyk t42 rfl) (rgk rfl) (by decide) (lt_len (lyn t42 rfl) (by decide)) (fun h43 eh43 t43 u43 => ?_)
                have w := w h43 eh43 t43 u43
                have s43 := HX_trans s42 u43
                refine r_inc (pc1 := 133) (g := fun zz => [some (rv 437), some (rv a2), some (rv a8), some (rv a11), some (.int (J zz)), none]) rfl rfl rfl rfl (fun _ => xput1_rv rfl rfl) (fun x44 ex44 rx44 => ?_)
                have w := w x44 ex44 rx44
                refine r_goto (t := 69) rfl rfl ?_
                exact ih15  x44 h43 t43 s43 rx44 (Nat.lt_of_lt_of_le w.2 (Nat.le_of_lt_succ q15)) w.1
              · have w := w.2 c48
                refine r_aldn (pc1 := 110) rfl rfl rfl ?_
                refine r_n (pc1 := 111) [.int (J 1), rv 437] _ rfl rfl ?_
                refine r_aldn (pc1 := 112) rfl rfl rfl ?_
                refine r_n (pc1 := 114) [.int (J x13), rv a11, .int (J 1), rv 437] _ rfl rfl ?_
                obtain ⟨c45, w⟩ := w
                refine r_ial (pc1 := 115) rfl rfl t42 (HXk u42 c16 rfl) rx13 c45.1 c45.2 ?_
                refine r_n (pc1 := 116) [.int (J (-1)), .int (J (hI h42 a11 x13.toNat)), .int (J 1), rv 437] _ rfl rfl ?_
                refine r_iv rfl rfl rfl rfl rfl rfl t42 (lyk t42 rfl) rfl (xe_of (xa_r (xa_i (xa_i (xa_i xa_0)))) rfl rfl) (r_d0 hd rfl) (a_X14_goesWrong 1 (hI h42 a11 x13.toNat) (-1) (r_d1 hd rfl) (rgk rfl) (rgh _ _ _) (rgk rfl) w t42 (fun x46 h47 t47 u47 rx46 w => ?_))
                refine r_fI (pc1 := 119) rfl ?_
                have s47 := HX_trans s42 u47
                have w := w t47 u47
                have w := w rx46
                exact r_retI rfl rfl rfl (k _ _ t47 s47 rx46 w)
      exact Q15 _  0 h12 t12 s12 (rgk rfl) (Nat.lt_succ_self _) w
    · have w := w.2 c53
      refine r_aldn (pc1 := 47) rfl rfl rfl ?_
      refine r_n (pc1 := 48) [.int (J 0), rv 437] _ rfl rfl ?_
      refine r_aldn (pc1 := 49) rfl rfl rfl ?_
      refine r_gfC (pc1 := 52) (q := 465) rfl rfl rfl t10 (lyk t10 rfl) rfl rfl (lyR t10 rfl rfl) ?_
      refine r_n (pc1 := 53) [.int (J 0), rv 465, .int (J 0), rv 437] _ rfl rfl ?_
      refine r_ial (pc1 := 54) rfl rfl t10 (lyk t10 rfl) (rgk rfl) (by decide) (lt_len (lyn t10 rfl) (by decide)) ?_
      refine r_n (pc1 := 55) [.int (J (-1)), .int (J (hI h10 465 0)), .int (J 0), rv 437] _ rfl rfl ?_
      refine r_iv rfl rfl rfl rfl rfl rfl t10 (lyk t10 rfl) rfl (xe_of (xa_r (xa_i (xa_i (xa_i xa_0)))) rfl rfl) (r_d0 hd rfl) (a_X14_goesWrong 0 (hI h10 465 0) (-1) (r_d1 hd rfl) (rgk rfl) (rgh _ _ _) (rgk rfl) w t10 (fun x51 h52 t52 u52 rx51 w => ?_))
      refine r_fI (pc1 := 58) rfl ?_
      have s52 := HX_trans s10 u52
      have w := w t52 u52
      have w := w rx51
      exact r_retI rfl rfl rfl (k _ _ t52 s52 rx51 w)
  · have w := w.2 c54
    refine r_n (pc1 := 24) [.int (J 0)] _ rfl rfl ?_
    exact r_retI rfl rfl rfl (k _ _ t6 s6 (rgk rfl) w)
def w_X14_failure (p0 : Int) (K : Int → XH → Prop) (h : XH) : Prop :=
  (∀ h1 : XH, h1 = sI h 437 5 0 → HT h1 → HX h h1 → w_X14_within p0 0 2 (fun x2 => rg x2 → (x2 = 0 ∨ x2 = 1) → (w_X14_refused x2 1 (fun x3 h4 => HT h4 → HX h1 h4 → rg x3 → (x3 = 0 ∨ x3 = 1) → (∃ J6 : Int → Prop, (∀ (x5 : Int), rg x5 → J6 x5 → (K x5 h4)) ∧ ((x3 = 0 → (w_X14_rootAt (wr (288 + p0)) (fun x7 => rg x7 → J6 x7) h4)) ∧ (¬ (x3 = 0) → (J6 0))))) h1)) h1)
set_option maxHeartbeats 4000000 in
theorem a_X14_failure {sc : Nat × (Nat → Int32)} {goal : XO → XH → Prop} {fs : List XF} {h : XH} (p0 : Int) {K : Int → XH → Prop} (hd : fs.length + 1 ≤ 1000) (rp0 : rg p0) (w : w_X14_failure p0 K h) (t0 : HT h) (k : ∀ (r : Int) (h1 : XH), HT h1 → HX h h1 → rg r → K r h1 → XFin xP sc goal fs (.inl (some (.int (J r)))) h1) : RR sc goal fs 196 0 [some (rv 437), some (.int (J p0))] [] h := by
  unfold w_X14_failure at w
  refine r_aldn (pc1 := 1) rfl rfl rfl ?_
  refine r_n (pc1 := 2) [.int (J 0), rv 437] _ rfl rfl ?_
  refine r_pfI (pc1 := 5) rfl rfl rfl t0 (lyk t0 rfl) rfl rfl rfl (fun h1 eh1 t1 u1 => ?_)
  have w := w h1 eh1 t1 u1
  have s1 := HX_trans (HX_refl h) u1
  refine r_aldn (pc1 := 6) rfl rfl rfl ?_
  refine r_n (pc1 := 7) [.int (J p0), rv 437] _ rfl rfl ?_
  refine r_n (pc1 := 8) [.int (J 0), .int (J p0), rv 437] _ rfl rfl ?_
  refine r_n (pc1 := 9) [.int (J 2), .int (J 0), .int (J p0), rv 437] _ rfl rfl ?_
  refine r_iq rfl rfl rfl rfl rfl rfl (xe_of (xa_i (xa_i (xa_i xa_0))) rfl rfl) (r_d0 hd rfl) (a_X14_within p0 0 2 (r_d1 hd rfl) rp0 (rgk rfl) (rgk rfl) w t1 (fun x2 rx2 vx2 w => ?_))
  refine r_fI (pc1 := 12) rfl ?_
  have w := w rx2 vx2
  refine r_n (pc1 := 13) [.int (J 1), .int (J x2), rv 437] _ rfl rfl ?_
  refine r_iv rfl rfl rfl rfl rfl rfl t1 (lyk t1 rfl) rfl (xe_of (xa_r (xa_i (xa_i xa_0))) rfl rfl) (r_d0 hd rfl) (a_X14_refused x2 1 (r_d1 hd rfl) rx2 (rgk rfl) w t1 (fun x3 h4 t4 u4 rx3 vx3 w => ?_))
  refine r_fI (pc1 := 16) rfl ?_
  have s4 := HX_trans s1 u4
  have w := w t4 u4
  have w := w rx3 vx3
  obtain ⟨J6, j6, w⟩ := w
  have Q6 : ∀ (x5 : Int), rg x5 → J6 x5 → RR sc goal fs 196 32 [some (rv 437), some (.int (J p0))] [.int (J x5)] h4 := by
    intro x5 rx5 z6
    have w := j6 x5 rx5 z6
    exact r_retI rfl rfl rfl (k _ _ t4 s4 rx5 w)
  refine r_iz (t := 23) (pc1 := 19) rfl rfl rfl rx3 (fun c8 => ?_) (fun c8 => ?_)
  · have w := w.1 c8
    refine r_aldn (pc1 := 24) rfl rfl rfl ?_
    refine r_n (pc1 := 27) [.int (J 288), rv 437] _ rfl rfl ?_
    refine r_n (pc1 := 28) [.int (J p0), .int (J 288), rv 437] _ rfl rfl ?_
    refine r_iadd (pc1 := 29) rfl rfl ?_
    refine r_iv rfl rfl rfl rfl rfl rfl t4 (lyk t4 rfl) rfl (xe_of (xa_r (xa_i xa_0)) rfl rfl) (r_d0 hd rfl) (a_X14_rootAt (wr (288 + p0)) (r_d1 hd rfl) (rgw _) w t4 (fun x7 rx7 w => ?_))
    refine r_fI (pc1 := 32) rfl ?_
    have w := w rx7
    exact Q6  x7  rx7 w
  · have w := w.2 c8
    refine r_n (pc1 := 20) [.int (J 0)] _ rfl rfl ?_
    refine r_goto (t := 32) rfl rfl ?_
    exact Q6  0  (rgk rfl) w
def w_X14_installed (p0 : Int) (K : Int → XH → Prop) (h : XH) : Prop :=
  (∀ h1 : XH, h1 = sI h 437 5 0 → HT h1 → HX h h1 → w_X14_isPack p0 (fun x2 => rg x2 → (x2 = 0 ∨ x2 = 1) → (w_X14_refused x2 1 (fun x3 h4 => HT h4 → HX h1 h4 → rg x3 → (x3 = 0 ∨ x3 = 1) → (∃ J6 : Int → Prop, (∀ (x5 : Int), rg x5 → J6 x5 → (K x5 h4)) ∧ ((x3 = 0 → (w_X14_rootAt (wr (23 + p0)) (fun x7 => rg x7 → J6 x7) h4)) ∧ (¬ (x3 = 0) → (J6 0))))) h1)) h1)
set_option maxHeartbeats 4000000 in
theorem a_X14_installed {sc : Nat × (Nat → Int32)} {goal : XO → XH → Prop} {fs : List XF} {h : XH} (p0 : Int) {K : Int → XH → Prop} (hd : fs.length + 2 ≤ 1000) (rp0 : rg p0) (w : w_X14_installed p0 K h) (t0 : HT h) (k : ∀ (r : Int) (h1 : XH), HT h1 → HX h h1 → rg r → K r h1 → XFin xP sc goal fs (.inl (some (.int (J r)))) h1) : RR sc goal fs 220 0 [some (rv 437), some (.int (J p0))] [] h := by
  unfold w_X14_installed at w
  refine r_aldn (pc1 := 1) rfl rfl rfl ?_
  refine r_n (pc1 := 2) [.int (J 0), rv 437] _ rfl rfl ?_
  refine r_pfI (pc1 := 5) rfl rfl rfl t0 (lyk t0 rfl) rfl rfl rfl (fun h1 eh1 t1 u1 => ?_)
  have w := w h1 eh1 t1 u1
  have s1 := HX_trans (HX_refl h) u1
  refine r_aldn (pc1 := 6) rfl rfl rfl ?_
  refine r_aldn (pc1 := 7) rfl rfl rfl ?_
  refine r_n (pc1 := 8) [.int (J p0), rv 437, rv 437] _ rfl rfl ?_
  refine r_iv rfl rfl rfl rfl rfl rfl t1 (lyk t1 rfl) rfl (xe_of (xa_r (xa_i xa_0)) rfl rfl) (r_d0 hd rfl) (a_X14_isPack p0 (r_d1 hd rfl) rp0 w t1 (fun x2 rx2 vx2 w => ?_))
  refine r_fI (pc1 := 11) rfl ?_
  have w := w rx2 vx2
  refine r_n (pc1 := 12) [.int (J 1), .int (J x2), rv 437] _ rfl rfl ?_
  refine r_iv rfl rfl rfl rfl rfl rfl t1 (lyk t1 rfl) rfl (xe_of (xa_r (xa_i (xa_i xa_0))) rfl rfl) (r_d0 hd rfl) (a_X14_refused x2 1 (r_d1 hd rfl) rx2 (rgk rfl) w t1 (fun x3 h4 t4 u4 rx3 vx3 w => ?_))
  refine r_fI (pc1 := 15) rfl ?_
  have s4 := HX_trans s1 u4
  have w := w t4 u4
  have w := w rx3 vx3
  obtain ⟨J6, j6, w⟩ := w
  have Q6 : ∀ (x5 : Int), rg x5 → J6 x5 → RR sc goal fs 220 30 [some (rv 437), some (.int (J p0))] [.int (J x5)] h4 := by
    intro x5 rx5 z6
    have w := j6 x5 rx5 z6
    exact r_retI rfl rfl rfl (k _ _ t4 s4 rx5 w)
  refine r_iz (t := 22) (pc1 := 18) rfl rfl rfl rx3 (fun c8 => ?_) (fun c8 => ?_)
  · have w := w.1 c8
    refine r_aldn (pc1 := 23) rfl rfl rfl ?_
    refine r_n (pc1 := 25) [.int (J 23), rv 437] _ rfl rfl ?_
    refine r_n (pc1 := 26) [.int (J p0), .int (J 23), rv 437] _ rfl rfl ?_
    refine r_iadd (pc1 := 27) rfl rfl ?_
    refine r_iv rfl rfl rfl rfl rfl rfl t4 (lyk t4 rfl) rfl (xe_of (xa_r (xa_i xa_0)) rfl rfl) (r_d0 hd rfl) (a_X14_rootAt (wr (23 + p0)) (r_d1 hd rfl) (rgw _) w t4 (fun x7 rx7 w => ?_))
    refine r_fI (pc1 := 30) rfl ?_
    have w := w rx7
    exact Q6  x7  rx7 w
  · have w := w.2 c8
    refine r_n (pc1 := 19) [.int (J 0)] _ rfl rfl ?_
    refine r_goto (t := 30) rfl rfl ?_
    exact Q6  0  (rgk rfl) w
def w_X12_owner (p0 : Int) (K : Int → Prop) (E : Nat → XH → Prop) (h : XH) : Prop :=
  (∃ J1 : Prop, (J1 → (E 1 (nT h))) ∧ ((p0 < 0 → J1) ∧ (¬ (p0 < 0) → (((p0 < 31 → ((∃ (I3 : Int → Prop) (m3 : Int → Nat), I3 0 ∧ ∀ (x2 : Int), rg x2 → I3 x2 → (((hI h 9 1 ≤ x2 → (K (-1))) ∧ (¬ (hI h 9 1 ≤ x2) → (w_X11_atHand (fun a4 => (hk h a4 = 7 ∧ w_X12_has (hL h a4 6) x2 (fun x6 => rg x6 → (x6 = 0 ∨ x6 = 1) → (∃ J7 : Prop, (J7 → (∀ x8 : Int, x8 = wr (x2 + 1) → rg x8 → (I3 x8 ∧ m3 x8 < m3 x2))) ∧ ((x6 = 0 → J7) ∧ (¬ (x6 = 0) → ((0 ≤ x2 ∧ x2 < 40) ∧ ((iand (ishr (hI h 15 x2.toNat) p0) 1 = 0 → J7) ∧ (¬ (iand (ishr (hI h 15 x2.toNat) p0) 1 = 0) → (K (hI h 13 x2.toNat))))))))) h)) h))))))) ∧ (¬ (p0 < 31) → J1))))))
set_option maxHeartbeats 4000000 in
theorem a_X12_owner {sc : Nat × (Nat → Int32)} {goal : XO → XH → Prop} {fs : List XF} {h : XH} (p0 : Int) {K : Int → Prop} {E : Nat → XH → Prop} (hd : fs.length + 2 ≤ 1000) (rp0 : rg p0) (w : w_X12_owner p0 K E h) (t0 : HT h) (k : ∀ (r : Int), rg r → K r → XFin xP sc goal fs (.inl (some (.int (J r)))) h) (kE : ∀ (x : Nat) (h1 : XH), HT h1 → HX h h1 → E x h1 → XFin xP sc goal fs (.inr x) h1) : RR sc goal fs 135 0 [some (rv 2), some (.int (J p0)), none] [] h := by
  unfold w_X12_owner at w
  refine r_n (pc1 := 1) [.int (J p0)] _ rfl rfl ?_
  obtain ⟨J1, j1, w⟩ := w
  have Q1 : J1 → RR sc goal fs 135 10 [some (rv 2), some (.int (J p0)), none] [] h := by
    intro z1
    have w := j1 z1
    exact r_thr rfl rfl rfl rfl rfl rfl (kE _ _ (HT_nT t0).1 (HX_trans (HX_refl h) (HT_nT t0).2) w)
  refine r_iz (t := 10) (pc1 := 4) rfl rfl rfl rp0 (fun c14 => ?_) (fun c14 => ?_)
  · have w := w.1 c14
    exact Q1     w
  · have w := w.2 c14
    refine r_n (pc1 := 5) [.int (J p0)] _ rfl rfl ?_
    refine r_n (pc1 := 7) [.int (J 31), .int (J p0)] _ rfl rfl ?_
    refine r_ic (t := 21) (pc1 := 10) rfl rfl rfl rp0 (rgk rfl) (fun c13 => ?_) (fun c13 => ?_)
    · have w := w.1 c13
      refine r_n (pc1 := 22) [.int (J 0)] _ rfl rfl ?_
      refine r_istn (pc1 := 23) (ls1 := [some (rv 2), some (.int (J p0)), some (.int (J 0))]) rfl rfl rfl rfl ?_
      obtain ⟨I3, m3, w, y3⟩ := w
      have Q3 : ∀ (n : Nat)  (x2 : Int), rg x2 → m3 x2 < n → I3 x2 → RR sc goal fs 135 23 [some (rv 2), some (.int (J p0)), some (.int (J x2))] [] h := by
        intro n
        induction n with
        | zero => intro x2 rx2 q3 _; exact absurd q3 (Nat.not_lt_zero _)
        | succ n ih3 =>
          intro x2 rx2 q3 z3
          have w := y3 x2 rx2 z3
          refine r_n (pc1 := 24) [.int (J x2)] _ rfl rfl ?_
          refine r_aldn (pc1 := 25) rfl rfl rfl ?_
          refine r_gfC (pc1 := 28) (q := 8) rfl rfl rfl t0 (lyk t0 rfl) rfl rfl (lyR t0 rfl rfl) ?_
          refine r_gfC (pc1 := 31) (q := 9) rfl rfl rfl t0 (lyk t0 rfl) rfl rfl (lyR t0 rfl rfl) ?_
          refine r_gfI (pc1 := 34) rfl rfl rfl t0 (lyk t0 rfl) rfl rfl ?_
          refine r_ic (t := 92) (pc1 := 37) rfl rfl rfl rx2 (rgh _ _ _) (fun c12 => ?_) (fun c12 => ?_)
          · have w := w.1 c12
            refine r_n (pc1 := 93) [.int (J (-1))] _ rfl rfl ?_
            exact r_retI rfl rfl rfl (k _ (rgk rfl) w)
          · have w := w.2 c12
            refine r_aldn (pc1 := 38) rfl rfl rfl ?_
            refine r_gfC (pc1 := 41) (q := 8) rfl rfl rfl t0 (lyk t0 rfl) rfl rfl (lyR t0 rfl rfl) ?_
            refine r_iv rfl rfl rfl rfl rfl rfl t0 (lyk t0 rfl) rfl (xe_of (xa_r xa_0) rfl rfl) (r_d0 hd rfl) (a_X11_atHand  (r_d1 hd rfl)  w t0 (fun a4 w => ?_))
            refine r_fR (pc1 := 44) rfl ?_
            obtain ⟨c5, w⟩ := w
            refine r_gfL (pc1 := 47) rfl rfl rfl t0 c5 rfl rfl ?_
            refine r_n (pc1 := 48) [.int (J x2), .long (G (hL h a4 6))] _ rfl rfl ?_
            refine r_iq rfl rfl rfl rfl rfl rfl (xe_of (xa_l (xa_i xa_0)) rfl rfl) (r_d0 hd rfl) (a_X12_has (hL h a4 6) x2 (r_d1 hd rfl) rx2 w t0 (fun x6 rx6 vx6 w => ?_))
            refine r_fI (pc1 := 51) rfl ?_
            have w := w rx6 vx6
            obtain ⟨J7, j7, w⟩ := w
            have Q7 : J7 → RR sc goal fs 135 86 [some (rv 2), some (.int (J p0)), some (.int (J x2))] [] h := by
              intro z7
              have w := j7 z7
              refine r_inc (pc1 := 89) (g := fun zz => [some (rv 2), some (.int (J p0)), some (.int (J zz))]) rfl rfl rfl rfl (fun _ => rfl) (fun x8 ex8 rx8 => ?_)
              have w := w x8 ex8 rx8
              refine r_goto (t := 23) rfl rfl ?_
              exact ih3  x8  rx8 (Nat.lt_of_lt_of_le w.2 (Nat.le_of_lt_succ q3)) w.1
            refine r_iz (t := 86) (pc1 := 54) rfl rfl rfl rx6 (fun c11 => ?_) (fun c11 => ?_)
            · have w := w.1 c11
              exact Q7     w
            · have w := w.2 c11
              refine r_aldn (pc1 := 55) rfl rfl rfl ?_
              refine r_gfC (pc1 := 58) (q := 8) rfl rfl rfl t0 (lyk t0 rfl) rfl rfl (lyR t0 rfl rfl) ?_
              refine r_gfC (pc1 := 61) (q := 9) rfl rfl rfl t0 (lyk t0 rfl) rfl rfl (lyR t0 rfl rfl) ?_
              refine r_gfC (pc1 := 64) (q := 15) rfl rfl rfl t0 (lyk t0 rfl) rfl rfl (lyR t0 rfl rfl) ?_
              refine r_n (pc1 := 65) [.int (J x2), rv 15] _ rfl rfl ?_
              obtain ⟨c9, w⟩ := w
              refine r_ial (pc1 := 66) rfl rfl t0 (lyk t0 rfl) rx2 c9.1 (lt_len (lyn t0 rfl) c9.2) ?_
              refine r_n (pc1 := 67) [.int (J p0), .int (J (hI h 15 x2.toNat))] _ rfl rfl ?_
              refine r_ishr (pc1 := 68) rfl rfl ?_
              refine r_n (pc1 := 69) [.int (J 1), .int (J (ishr (hI h 15 x2.toNat) p0))] _ rfl rfl ?_
              refine r_iand (pc1 := 70) rfl rfl ?_
              refine r_iz (t := 86) (pc1 := 73) rfl rfl rfl (rgt _) (fun c10 => ?_) (fun c10 => ?_)
              · have w := w.1 c10
                exact Q7     w
              · have w := w.2 c10
                refine r_aldn (pc1 := 74) rfl rfl rfl ?_
                refine r_gfC (pc1 := 77) (q := 8) rfl rfl rfl t0 (lyk t0 rfl) rfl rfl (lyR t0 rfl rfl) ?_
                refine r_gfC (pc1 := 80) (q := 9) rfl rfl rfl t0 (lyk t0 rfl) rfl rfl (lyR t0 rfl rfl) ?_
                refine r_gfC (pc1 := 83) (q := 13) rfl rfl rfl t0 (lyk t0 rfl) rfl rfl (lyR t0 rfl rfl) ?_
                refine r_n (pc1 := 84) [.int (J x2), rv 13] _ rfl rfl ?_
                refine r_ial (pc1 := 85) rfl rfl t0 (lyk t0 rfl) rx2 c9.1 (lt_len (lyn t0 rfl) c9.2) ?_
                exact r_retI rfl rfl rfl (k _ (rgh _ _ _) w)
      exact Q3 _  0  (rgk rfl) (Nat.lt_succ_self _) w
    · have w := w.2 c13
      exact Q1     w
def w_L_owner (p1 : Int) (K : Int → XH → Prop) (h : XH) : Prop :=
  (w_X12_owner p1 (fun x1 => rg x1 → (∀ h4 : XH, h4 = sL h 467 0 (i2l x1) → HT h4 → HX h h4 → (K 0 h4))) (fun y3 h2 => ((y3 = 1 ∧ K 1 h2))) h)
set_option maxHeartbeats 4000000 in
theorem a_L_owner {sc : Nat × (Nat → Int32)} {goal : XO → XH → Prop} {fs : List XF} {h : XH} (p1 : Int) {K : Int → XH → Prop} (hd : fs.length + 3 ≤ 1000) (rp1 : rg p1) (w : w_L_owner p1 K h) (t0 : HT h) (k : ∀ (r : Int) (h1 : XH), HT h1 → HX h h1 → rg r → K r h1 → XFin xP sc goal fs (.inl (some (.int (J r)))) h1) : RR sc goal fs 51 0 [some (rv 2), some (.int (J p1)), some (rv 467), none] [] h := by
  unfold w_L_owner at w
  refine r_aldn (pc1 := 1) rfl rfl rfl ?_
  refine r_n (pc1 := 2) [.int (J 0), rv 467] _ rfl rfl ?_
  refine r_aldn (pc1 := 3) rfl rfl rfl ?_
  refine r_n (pc1 := 4) [.int (J p1), rv 2, .int (J 0), rv 467] _ rfl rfl ?_
  refine r_iv rfl rfl rfl rfl rfl rfl t0 (lyk t0 rfl) rfl (xe_of (xa_r (xa_i xa_0)) rfl rfl) (r_d0 hd rfl) (a_X12_owner p1 (r_d1 hd rfl) rp1 w t0 (fun x1 rx1 w => ?_) (fun y3 h2 ty uy w => ?_))
  · refine r_fI (pc1 := 7) rfl ?_
    have w := w rx1
    refine r_i2l (pc1 := 8) rfl rfl ?_
    refine r_last (pc1 := 9) rfl rfl t0 (lyk t0 rfl) (rgk rfl) (by decide) (lt_len (lyn t0 rfl) (by decide)) (fun h4 eh4 t4 u4 => ?_)
    have w := w h4 eh4 t4 u4
    have s4 := HX_trans (HX_refl h) u4
    refine r_goto (t := 15) rfl rfl ?_
    refine r_n (pc1 := 16) [.int (J 0)] _ rfl rfl ?_
    exact r_retI rfl rfl rfl (k _ _ t4 s4 (rgk rfl) w)
  · obtain ⟨rfl, w⟩ := w
    exact r_fink (z := 1) rfl (by decide) rfl rfl (k _ _ ty (HX_trans (HX_refl h) uy) (rgk rfl) w)
def w_X14_owner (p0 : Int) (K : Int → XH → Prop) (h : XH) : Prop :=
  (∀ h1 : XH, h1 = sI h 437 5 0 → HT h1 → HX h h1 → w_X14_within p0 0 30 (fun x2 => rg x2 → (x2 = 0 ∨ x2 = 1) → (w_X14_refused x2 1 (fun x3 h4 => HT h4 → HX h1 h4 → rg x3 → (x3 = 0 ∨ x3 = 1) → (((x3 = 0 → (w_X14_installedSet (fun a5 h6 => HT h6 → HX h4 h6 → ((∃ (I8 : Int → Prop) (m8 : Int → Nat), I8 0 ∧ ∀ (x7 : Int), rg x7 → I8 x7 → (((12 ≤ x7 → (K (-1) h6)) ∧ (¬ (12 ≤ x7) → (hk h6 a5 = 100 ∧ (0 ≤ x7 ∧ x7 < (hn h6 a5 : Int)) ∧ ∃ J11 : Prop, (J11 → (∀ x12 : Int, x12 = wr (x7 + 1) → rg x12 → (I8 x12 ∧ m8 x12 < m8 x7))) ∧ ((hI h6 a5 x7.toNat = (-1) → J11) ∧ (¬ (hI h6 a5 x7.toNat = (-1)) → (w_X14_slotIn a5 x7 (fun x13 => rg x13 → (w_X14_ver x13 2 (fun x14 => rg x14 → (((¬ iand (ishr x14 p0) 1 = 1 → J11) ∧ (¬ (¬ iand (ishr x14 p0) 1 = 1) → (K x7 h6))))) h6)) h6)))))))))) h4)) ∧ (¬ (x3 = 0) → (K 0 h4))))) h1)) h1)
set_option maxHeartbeats 4000000 in
theorem a_X14_owner {sc : Nat × (Nat → Int32)} {goal : XO → XH → Prop} {fs : List XF} {h : XH} (p0 : Int) {K : Int → XH → Prop} (hd : fs.length + 3 ≤ 1000) (rp0 : rg p0) (w : w_X14_owner p0 K h) (t0 : HT h) (k : ∀ (r : Int) (h1 : XH), HT h1 → HX h h1 → rg r → K r h1 → XFin xP sc goal fs (.inl (some (.int (J r)))) h1) : RR sc goal fs 267 0 [some (rv 437), some (.int (J p0)), none, none] [] h := by
  unfold w_X14_owner at w
  refine r_aldn (pc1 := 1) rfl rfl rfl ?_
  refine r_n (pc1 := 2) [.int (J 0), rv 437] _ rfl rfl ?_
  refine r_pfI (pc1 := 5) rfl rfl rfl t0 (lyk t0 rfl) rfl rfl rfl (fun h1 eh1 t1 u1 => ?_)
  have w := w h1 eh1 t1 u1
  have s1 := HX_trans (HX_refl h) u1
  refine r_aldn (pc1 := 6) rfl rfl rfl ?_
  refine r_n (pc1 := 7) [.int (J p0), rv 437] _ rfl rfl ?_
  refine r_n (pc1 := 8) [.int (J 0), .int (J p0), rv 437] _ rfl rfl ?_
  refine r_n (pc1 := 10) [.int (J 30), .int (J 0), .int (J p0), rv 437] _ rfl rfl ?_
  refine r_iq rfl rfl rfl rfl rfl rfl (xe_of (xa_i (xa_i (xa_i xa_0))) rfl rfl) (r_d0 hd rfl) (a_X14_within p0 0 30 (r_d1 hd rfl) rp0 (rgk rfl) (rgk rfl) w t1 (fun x2 rx2 vx2 w => ?_))
  refine r_fI (pc1 := 13) rfl ?_
  have w := w rx2 vx2
  refine r_n (pc1 := 14) [.int (J 1), .int (J x2), rv 437] _ rfl rfl ?_
  refine r_iv rfl rfl rfl rfl rfl rfl t1 (lyk t1 rfl) rfl (xe_of (xa_r (xa_i (xa_i xa_0))) rfl rfl) (r_d0 hd rfl) (a_X14_refused x2 1 (r_d1 hd rfl) rx2 (rgk rfl) w t1 (fun x3 h4 t4 u4 rx3 vx3 w => ?_))
  refine r_fI (pc1 := 17) rfl ?_
  have s4 := HX_trans s1 u4
  have w := w t4 u4
  have w := w rx3 vx3
  refine r_iz (t := 22) (pc1 := 20) rfl rfl rfl rx3 (fun c18 => ?_) (fun c18 => ?_)
  · have w := w.1 c18
    refine r_aldn (pc1 := 23) rfl rfl rfl ?_
    refine r_iv rfl rfl rfl rfl rfl rfl t4 (lyk t4 rfl) rfl (xe_of (xa_r xa_0) rfl rfl) (r_d0 hd rfl) (a_X14_installedSet  (r_d1 hd rfl)  w t4 (fun a5 h6 t6 u6 w => ?_))
    refine r_fR (pc1 := 26) rfl ?_
    have s6 := HX_trans s4 u6
    have w := w t6 u6
    refine r_astn (pc1 := 27) (ls1 := [some (rv 437), some (.int (J p0)), some (rv a5), none]) rfl rfl rfl rfl ?_
    refine r_n (pc1 := 28) [.int (J 0)] _ rfl rfl ?_
    refine r_istn (pc1 := 29) (ls1 := [some (rv 437), some (.int (J p0)), some (rv a5), some (.int (J 0))]) rfl rfl rfl (xput1_rv rfl rfl) ?_
    obtain ⟨I8, m8, w, y8⟩ := w
    have Q8 : ∀ (n : Nat)  (x7 : Int), rg x7 → m8 x7 < n → I8 x7 → RR sc goal fs 267 29 [some (rv 437), some (.int (J p0)), some (rv a5), some (.int (J x7))] [] h6 := by
      intro n
      induction n with
      | zero => intro x7 rx7 q8 _; exact absurd q8 (Nat.not_lt_zero _)
      | succ n ih8 =>
        intro x7 rx7 q8 z8
        have w := y8 x7 rx7 z8
        refine r_n (pc1 := 30) [.int (J x7)] _ rfl rfl ?_
        refine r_n (pc1 := 32) [.int (J 12), .int (J x7)] _ rfl rfl ?_
        refine r_ic (t := 69) (pc1 := 35) rfl rfl rfl rx7 (rgk rfl) (fun c17 => ?_) (fun c17 => ?_)
        · have w := w.1 c17
          refine r_n (pc1 := 70) [.int (J (-1))] _ rfl rfl ?_
          exact r_retI rfl rfl rfl (k _ _ t6 s6 (rgk rfl) w)
        · have w := w.2 c17
          refine r_aldn (pc1 := 36) rfl rfl rfl ?_
          refine r_n (pc1 := 37) [.int (J x7), rv a5] _ rfl rfl ?_
          obtain ⟨c9, w⟩ := w
          obtain ⟨c10, w⟩ := w
          refine r_ial (pc1 := 38) rfl rfl t6 c9 rx7 c10.1 c10.2 ?_
          refine r_n (pc1 := 39) [.int (J (-1)), .int (J (hI h6 a5 x7.toNat))] _ rfl rfl ?_
          obtain ⟨J11, j11, w⟩ := w
          have Q11 : J11 → RR sc goal fs 267 63 [some (rv 437), some (.int (J p0)), some (rv a5), some (.int (J x7))] [] h6 := by
            intro z11
            have w := j11 z11
            refine r_inc (pc1 := 66) (g := fun zz => [some (rv 437), some (.int (J p0)), some (rv a5), some (.int (J zz))]) rfl rfl rfl rfl (fun _ => xput1_rv rfl rfl) (fun x12 ex12 rx12 => ?_)
            have w := w x12 ex12 rx12
            refine r_goto (t := 29) rfl rfl ?_
            exact ih8  x12  rx12 (Nat.lt_of_lt_of_le w.2 (Nat.le_of_lt_succ q8)) w.1
          refine r_ic (t := 63) (pc1 := 42) rfl rfl rfl (rgh _ _ _) (rgk rfl) (fun c16 => ?_) (fun c16 => ?_)
          · have w := w.1 c16
            exact Q11     w
          · have w := w.2 c16
            refine r_aldn (pc1 := 43) rfl rfl rfl ?_
            refine r_aldn (pc1 := 44) rfl rfl rfl ?_
            refine r_aldn (pc1 := 45) rfl rfl rfl ?_
            refine r_n (pc1 := 46) [.int (J x7), rv a5, rv 437, rv 437] _ rfl rfl ?_
            refine r_iv rfl rfl rfl rfl rfl rfl t6 (lyk t6 rfl) rfl (xe_of (xa_r (xa_r (xa_i xa_0))) rfl rfl) (r_d0 hd rfl) (a_X14_slotIn a5 x7 (r_d1 hd rfl) rx7 w t6 (fun x13 rx13 w => ?_))
            refine r_fI (pc1 := 49) rfl ?_
            have w := w rx13
            refine r_n (pc1 := 50) [.int (J 2), .int (J x13), rv 437] _ rfl rfl ?_
            refine r_iv rfl rfl rfl rfl rfl rfl t6 (lyk t6 rfl) rfl (xe_of (xa_r (xa_i (xa_i xa_0))) rfl rfl) (r_d0 hd rfl) (a_X14_ver x13 2 (r_d1 hd rfl) rx13 (rgk rfl) w t6 (fun x14 rx14 w => ?_))
            refine r_fI (pc1 := 53) rfl ?_
            have w := w rx14
            refine r_n (pc1 := 54) [.int (J p0), .int (J x14)] _ rfl rfl ?_
            refine r_ishr (pc1 := 55) rfl rfl ?_
            refine r_n (pc1 := 56) [.int (J 1), .int (J (ishr x14 p0))] _ rfl rfl ?_
            refine r_iand (pc1 := 57) rfl rfl ?_
            refine r_n (pc1 := 58) [.int (J 1), .int (J (iand (ishr x14 p0) 1))] _ rfl rfl ?_
            refine r_ic (t := 63) (pc1 := 61) rfl rfl rfl (rgt _) (rgk rfl) (fun c15 => ?_) (fun c15 => ?_)
            · have w := w.1 c15
              exact Q11     w
            · have w := w.2 c15
              refine r_n (pc1 := 62) [.int (J x7)] _ rfl rfl ?_
              exact r_retI rfl rfl rfl (k _ _ t6 s6 rx7 w)
    exact Q8 _  0  (rgk rfl) (Nat.lt_succ_self _) w
  · have w := w.2 c18
    refine r_n (pc1 := 21) [.int (J 0)] _ rfl rfl ?_
    exact r_retI rfl rfl rfl (k _ _ t4 s4 (rgk rfl) w)
def w_X12_clashes  (K : Int → Prop) (h : XH) : Prop :=
  ((∃ (I4 : Int → Int → Int → Prop) (m4 : Int → Int → Int → Nat), I4 0 0 0 ∧ ∀ (x1 : Int) (x2 : Int) (x3 : Int), rg x1 → rg x2 → rg x3 → I4 x1 x2 x3 → (((hI h 9 1 ≤ x3 → (w_J6_bitCount_0f7a4 x2 (fun x5 => rg x5 → (K x5)) h)) ∧ (¬ (hI h 9 1 ≤ x3) → (w_X11_atHand (fun a6 => (hk h a6 = 7 ∧ w_X12_has (hL h a6 5) x3 (fun x8 => rg x8 → (x8 = 0 ∨ x8 = 1) → (∃ J11 : Int → Int → Prop, (∀ (x9 : Int) (x10 : Int), rg x9 → rg x10 → J11 x9 x10 → (∀ x12 : Int, x12 = wr (x3 + 1) → rg x12 → (I4 x9 x10 x12 ∧ m4 x9 x10 x12 < m4 x1 x2 x3))) ∧ ((x8 = 0 → J11 x1 x2) ∧ (¬ (x8 = 0) → ((0 ≤ x3 ∧ x3 < 40) ∧ ∀ x14 : Int, x14 = ior x2 (iand x1 (hI h 15 x3.toNat)) → rg x14 → ∀ x15 : Int, x15 = ior x1 (hI h 15 x3.toNat) → rg x15 → J11 x15 x14))))) h)) h))))))
set_option maxHeartbeats 4000000 in
theorem a_X12_clashes {sc : Nat × (Nat → Int32)} {goal : XO → XH → Prop} {fs : List XF} {h : XH}  {K : Int → Prop} (hd : fs.length + 2 ≤ 1000) (w : w_X12_clashes  K h) (t0 : HT h) (k : ∀ (r : Int), rg r → K r → XFin xP sc goal fs (.inl (some (.int (J r)))) h) : RR sc goal fs 97 0 [some (rv 2), none, none, none] [] h := by
  unfold w_X12_clashes at w
  refine r_n (pc1 := 1) [.int (J 0)] _ rfl rfl ?_
  refine r_istn (pc1 := 2) (ls1 := [some (rv 2), some (.int (J 0)), none, none]) rfl rfl rfl rfl ?_
  refine r_n (pc1 := 3) [.int (J 0)] _ rfl rfl ?_
  refine r_istn (pc1 := 4) (ls1 := [some (rv 2), some (.int (J 0)), some (.int (J 0)), none]) rfl rfl rfl rfl ?_
  refine r_n (pc1 := 5) [.int (J 0)] _ rfl rfl ?_
  refine r_istn (pc1 := 6) (ls1 := [some (rv 2), some (.int (J 0)), some (.int (J 0)), some (.int (J 0))]) rfl rfl rfl rfl ?_
  obtain ⟨I4, m4, w, y4⟩ := w
  have Q4 : ∀ (n : Nat)  (x1 : Int) (x2 : Int) (x3 : Int), rg x1 → rg x2 → rg x3 → m4 x1 x2 x3 < n → I4 x1 x2 x3 → RR sc goal fs 97 6 [some (rv 2), some (.int (J x1)), some (.int (J x2)), some (.int (J x3))] [] h := by
    intro n
    induction n with
    | zero => intro x1 x2 x3 rx1 rx2 rx3 q4 _; exact absurd q4 (Nat.not_lt_zero _)
    | succ n ih4 =>
      intro x1 x2 x3 rx1 rx2 rx3 q4 z4
      have w := y4 x1 x2 x3 rx1 rx2 rx3 z4
      refine r_n (pc1 := 7) [.int (J x3)] _ rfl rfl ?_
      refine r_aldn (pc1 := 8) rfl rfl rfl ?_
      refine r_gfC (pc1 := 11) (q := 8) rfl rfl rfl t0 (lyk t0 rfl) rfl rfl (lyR t0 rfl rfl) ?_
      refine r_gfC (pc1 := 14) (q := 9) rfl rfl rfl t0 (lyk t0 rfl) rfl rfl (lyR t0 rfl rfl) ?_
      refine r_gfI (pc1 := 17) rfl rfl rfl t0 (lyk t0 rfl) rfl rfl ?_
      refine r_ic (t := 75) (pc1 := 20) rfl rfl rfl rx3 (rgh _ _ _) (fun c17 => ?_) (fun c17 => ?_)
      · have w := w.1 c17
        refine r_n (pc1 := 76) [.int (J x2)] _ rfl rfl ?_
        refine r_iq rfl rfl rfl rfl rfl rfl (xe_of (xa_i xa_0) rfl rfl) (r_d0 hd rfl) (a_J6_bitCount_0f7a4 x2 (r_d1 hd rfl) rx2 w t0 (fun x5 rx5 w => ?_))
        refine r_fI (pc1 := 79) rfl ?_
        have w := w rx5
        exact r_retI rfl rfl rfl (k _ rx5 w)
      · have w := w.2 c17
        refine r_aldn (pc1 := 21) rfl rfl rfl ?_
        refine r_gfC (pc1 := 24) (q := 8) rfl rfl rfl t0 (lyk t0 rfl) rfl rfl (lyR t0 rfl rfl) ?_
        refine r_iv rfl rfl rfl rfl rfl rfl t0 (lyk t0 rfl) rfl (xe_of (xa_r xa_0) rfl rfl) (r_d0 hd rfl) (a_X11_atHand  (r_d1 hd rfl)  w t0 (fun a6 w => ?_))
        refine r_fR (pc1 := 27) rfl ?_
        obtain ⟨c7, w⟩ := w
        refine r_gfL (pc1 := 30) rfl rfl rfl t0 c7 rfl rfl ?_
        refine r_n (pc1 := 31) [.int (J x3), .long (G (hL h a6 5))] _ rfl rfl ?_
        refine r_iq rfl rfl rfl rfl rfl rfl (xe_of (xa_l (xa_i xa_0)) rfl rfl) (r_d0 hd rfl) (a_X12_has (hL h a6 5) x3 (r_d1 hd rfl) rx3 w t0 (fun x8 rx8 vx8 w => ?_))
        refine r_fI (pc1 := 34) rfl ?_
        have w := w rx8 vx8
        obtain ⟨J11, j11, w⟩ := w
        have Q11 : ∀ (x9 : Int) (x10 : Int), rg x9 → rg x10 → J11 x9 x10 → RR sc goal fs 97 69 [some (rv 2), some (.int (J x9)), some (.int (J x10)), some (.int (J x3))] [] h := by
          intro x9 x10 rx9 rx10 z11
          have w := j11 x9 x10 rx9 rx10 z11
          refine r_inc (pc1 := 72) (g := fun zz => [some (rv 2), some (.int (J x9)), some (.int (J x10)), some (.int (J zz))]) rfl rfl rfl rfl (fun _ => rfl) (fun x12 ex12 rx12 => ?_)
          have w := w x12 ex12 rx12
          refine r_goto (t := 6) rfl rfl ?_
          exact ih4  x9 x10 x12  rx9 rx10 rx12 (Nat.lt_of_lt_of_le w.2 (Nat.le_of_lt_succ q4)) w.1
        refine r_iz (t := 69) (pc1 := 37) rfl rfl rfl rx8 (fun c16 => ?_) (fun c16 => ?_)
        · have w := w.1 c16
          exact Q11  x1 x2  rx1 rx2 w
        · have w := w.2 c16
          refine r_n (pc1 := 38) [.int (J x2)] _ rfl rfl ?_
          refine r_n (pc1 := 39) [.int (J x1), .int (J x2)] _ rfl rfl ?_
          refine r_aldn (pc1 := 40) rfl rfl rfl ?_
          refine r_gfC (pc1 := 43) (q := 8) rfl rfl rfl t0 (lyk t0 rfl) rfl rfl (lyR t0 rfl rfl) ?_
          refine r_gfC (pc1 := 46) (q := 9) rfl rfl rfl t0 (lyk t0 rfl) rfl rfl (lyR t0 rfl rfl) ?_
          refine r_gfC (pc1 := 49) (q := 15) rfl rfl rfl t0 (lyk t0 rfl) rfl rfl (lyR t0 rfl rfl) ?_
          refine r_n (pc1 := 50) [.int (J x3), rv 15, .int (J x1), .int (J x2)] _ rfl rfl ?_
          obtain ⟨c13, w⟩ := w
          refine r_ial (pc1 := 51) rfl rfl t0 (lyk t0 rfl) rx3 c13.1 (lt_len (lyn t0 rfl) c13.2) ?_
          refine r_iand (pc1 := 52) rfl rfl ?_
          refine r_ior (pc1 := 53) rfl rfl ?_
          refine r_vI (rgt _) (fun x14 ex14 rx14 => ?_)
          have w := w x14 ex14 rx14
          refine r_istn (pc1 := 54) (ls1 := [some (rv 2), some (.int (J x1)), some (.int (J x14)), some (.int (J x3))]) rfl rfl rfl rfl ?_
          refine r_n (pc1 := 55) [.int (J x1)] _ rfl rfl ?_
          refine r_aldn (pc1 := 56) rfl rfl rfl ?_
          refine r_gfC (pc1 := 59) (q := 8) rfl rfl rfl t0 (lyk t0 rfl) rfl rfl (lyR t0 rfl rfl) ?_
          refine r_gfC (pc1 := 62) (q := 9) rfl rfl rfl t0 (lyk t0 rfl) rfl rfl (lyR t0 rfl rfl) ?_
          refine r_gfC (pc1 := 65) (q := 15) rfl rfl rfl t0 (lyk t0 rfl) rfl rfl (lyR t0 rfl rfl) ?_
          refine r_n (pc1 := 66) [.int (J x3), rv 15, .int (J x1)] _ rfl rfl ?_
          refine r_ial (pc1 := 67) rfl rfl t0 (lyk t0 rfl) rx3 c13.1 (lt_len (lyn t0 rfl) c13.2) ?_
          refine r_ior (pc1 := 68) rfl rfl ?_
          refine r_vI (rgt _) (fun x15 ex15 rx15 => ?_)
          have w := w x15 ex15 rx15
          refine r_istn (pc1 := 69) (ls1 := [some (rv 2), some (.int (J x15)), some (.int (J x14)), some (.int (J x3))]) rfl rfl rfl rfl ?_
          exact Q11  x15 x14  rx15 rx14 w
  exact Q4 _  0 0 0  (rgk rfl) (rgk rfl) (rgk rfl) (Nat.lt_succ_self _) w
def w_X14_clashes  (K : Int → XH → Prop) (h : XH) : Prop :=
  (∀ h1 : XH, h1 = sI h 437 5 0 → HT h1 → HX h h1 → w_X14_goalSet (fun a2 h3 => HT h3 → HX h1 h3 → ((∃ (I8 : Int → Int → Int → Prop) (m8 : Int → Int → Int → Nat), I8 0 0 0 ∧ ∀ (x4 : Int) (x5 : Int) (x6 : Int), rg x4 → rg x5 → rg x6 → I8 x4 x5 x6 → (((12 ≤ x6 → (w_J6_bitCount_0f7a4 x5 (fun x9 => rg x9 → (K x9 h3)) h3)) ∧ (¬ (12 ≤ x6) → (hk h3 a2 = 100 ∧ (0 ≤ x6 ∧ x6 < (hn h3 a2 : Int)) ∧ ∃ J13 : Int → Prop, (∀ (x12 : Int), rg x12 → J13 x12 → (∀ x14 : Int, x14 = ior x5 (iand x4 x12) → rg x14 → ∀ x15 : Int, x15 = ior x4 x12 → rg x15 → ∀ x16 : Int, x16 = wr (x6 + 1) → rg x16 → (I8 x15 x14 x16 ∧ m8 x15 x14 x16 < m8 x4 x5 x6))) ∧ ((¬ hI h3 a2 x6.toNat = (-1) → (w_X14_slotIn a2 x6 (fun x17 => rg x17 → (w_X14_ver x17 2 (fun x18 => rg x18 → J13 x18) h3)) h3)) ∧ (¬ (¬ hI h3 a2 x6.toNat = (-1)) → (J13 0)))))))))) h1)
set_option maxHeartbeats 4000000 in
theorem a_X14_clashes {sc : Nat × (Nat → Int32)} {goal : XO → XH → Prop} {fs : List XF} {h : XH}  {K : Int → XH → Prop} (hd : fs.length + 3 ≤ 1000) (w : w_X14_clashes  K h) (t0 : HT h) (k : ∀ (r : Int) (h1 : XH), HT h1 → HX h h1 → rg r → K r h1 → XFin xP sc goal fs (.inl (some (.int (J r)))) h1) : RR sc goal fs 183 0 [some (rv 437), none, none, none, none, none] [] h := by
  unfold w_X14_clashes at w
  refine r_aldn (pc1 := 1) rfl rfl rfl ?_
  refine r_n (pc1 := 2) [.int (J 0), rv 437] _ rfl rfl ?_
  refine r_pfI (pc1 := 5) rfl rfl rfl t0 (lyk t0 rfl) rfl rfl rfl (fun h1 eh1 t1 u1 => ?_)
  have w := w h1 eh1 t1 u1
  have s1 := HX_trans (HX_refl h) u1
  refine r_aldn (pc1 := 6) rfl rfl rfl ?_
  refine r_iv rfl rfl rfl rfl rfl rfl t1 (lyk t1 rfl) rfl (xe_of (xa_r xa_0) rfl rfl) (r_d0 hd rfl) (a_X14_goalSet  (r_d1 hd rfl)  w t1 (fun a2 h3 t3 u3 w => ?_))
  refine r_fR (pc1 := 9) rfl ?_
  have s3 := HX_trans s1 u3
  have w := w t3 u3
  refine r_astn (pc1 := 10) (ls1 := [some (rv 437), some (rv a2), none, none, none, none]) rfl rfl rfl rfl ?_
  refine r_n (pc1 := 11) [.int (J 0)] _ rfl rfl ?_
  refine r_istn (pc1 := 12) (ls1 := [some (rv 437), some (rv a2), some (.int (J 0)), none, none, none]) rfl rfl rfl (xput1_rv rfl rfl) ?_
  refine r_n (pc1 := 13) [.int (J 0)] _ rfl rfl ?_
  refine r_istn (pc1 := 14) (ls1 := [some (rv 437), some (rv a2), some (.int (J 0)), some (.int (J 0)), none, none]) rfl rfl rfl rfl ?_
  refine r_n (pc1 := 15) [.int (J 0)] _ rfl rfl ?_
  refine r_ist (pc1 := 17) (ls1 := [some (rv 437), some (rv a2), some (.int (J 0)), some (.int (J 0)), some (.int (J 0)), none]) rfl rfl rfl rfl ?_
  obtain ⟨I8, m8, w, y8⟩ := w
  have Q8 : ∀ (n : Nat) (d7 : Option Value) (x4 : Int) (x5 : Int) (x6 : Int), rg x4 → rg x5 → rg x6 → m8 x4 x5 x6 < n → I8 x4 x5 x6 → RR sc goal fs 183 17 [some (rv 437), some (rv a2), some (.int (J x4)), some (.int (J x5)), some (.int (J x6)), d7] [] h3 := by
    intro n
    induction n with
    | zero => intro d7 x4 x5 x6 rx4 rx5 rx6 q8 _; exact absurd q8 (Nat.not_lt_zero _)
    | succ n ih8 =>
      intro d7 x4 x5 x6 rx4 rx5 rx6 q8 z8
      have w := y8 x4 x5 x6 rx4 rx5 rx6 z8
      refine r_n (pc1 := 19) [.int (J x6)] _ rfl rfl ?_
      refine r_n (pc1 := 21) [.int (J 12), .int (J x6)] _ rfl rfl ?_
      refine r_ic (t := 68) (pc1 := 24) rfl rfl rfl rx6 (rgk rfl) (fun c20 => ?_) (fun c20 => ?_)
      · have w := w.1 c20
        refine r_n (pc1 := 69) [.int (J x5)] _ rfl rfl ?_
        refine r_iq rfl rfl rfl rfl rfl rfl (xe_of (xa_i xa_0) rfl rfl) (r_d0 hd rfl) (a_J6_bitCount_0f7a4 x5 (r_d1 hd rfl) rx5 w t3 (fun x9 rx9 w => ?_))
        refine r_fI (pc1 := 72) rfl ?_
        have w := w rx9
        exact r_retI rfl rfl rfl (k _ _ t3 s3 rx9 w)
      · have w := w.2 c20
        refine r_aldn (pc1 := 25) rfl rfl rfl ?_
        refine r_n (pc1 := 27) [.int (J x6), rv a2] _ rfl rfl ?_
        obtain ⟨c10, w⟩ := w
        obtain ⟨c11, w⟩ := w
        refine r_ial (pc1 := 28) rfl rfl t3 c10 rx6 c11.1 c11.2 ?_
        refine r_n (pc1 := 29) [.int (J (-1)), .int (J (hI h3 a2 x6.toNat))] _ rfl rfl ?_
        obtain ⟨J13, j13, w⟩ := w
        have Q13 : ∀ (x12 : Int), rg x12 → J13 x12 → RR sc goal fs 183 48 [some (rv 437), some (rv a2), some (.int (J x4)), some (.int (J x5)), some (.int (J x6)), d7] [.int (J x12)] h3 := by
          intro x12 rx12 z13
          have w := j13 x12 rx12 z13
          refine r_ist (pc1 := 50) (ls1 := [some (rv 437), some (rv a2), some (.int (J x4)), some (.int (J x5)), some (.int (J x6)), some (.int (J x12))]) rfl rfl rfl rfl ?_
          refine r_n (pc1 := 51) [.int (J x5)] _ rfl rfl ?_
          refine r_n (pc1 := 52) [.int (J x4), .int (J x5)] _ rfl rfl ?_
          refine r_n (pc1 := 54) [.int (J x12), .int (J x4), .int (J x5)] _ rfl rfl ?_
          refine r_iand (pc1 := 55) rfl rfl ?_
          refine r_ior (pc1 := 56) rfl rfl ?_
          refine r_vI (rgt _) (fun x14 ex14 rx14 => ?_)
          have w := w x14 ex14 rx14
          refine r_istn (pc1 := 57) (ls1 := [some (rv 437), some (rv a2), some (.int (J x4)), some (.int (J x14)), some (.int (J x6)), some (.int (J x12))]) rfl rfl rfl rfl ?_
          refine r_n (pc1 := 58) [.int (J x4)] _ rfl rfl ?_
          refine r_n (pc1 := 60) [.int (J x12), .int (J x4)] _ rfl rfl ?_
          refine r_ior (pc1 := 61) rfl rfl ?_
          refine r_vI (rgt _) (fun x15 ex15 rx15 => ?_)
          have w := w x15 ex15 rx15
          refine r_istn (pc1 := 62) (ls1 := [some (rv 437), some (rv a2), some (.int (J x15)), some (.int (J x14)), some (.int (J x6)), some (.int (J x12))]) rfl rfl rfl (xput1_rv rfl rfl) ?_
          refine r_inc (pc1 := 65) (g := fun zz => [some (rv 437), some (rv a2), some (.int (J x15)), some (.int (J x14)), some (.int (J zz)), some (.int (J x12))]) rfl rfl rfl rfl (fun _ => rfl) (fun x16 ex16 rx16 => ?_)
          have w := w x16 ex16 rx16
          refine r_goto (t := 17) rfl rfl ?_
          exact ih8 _ x15 x14 x16  rx15 rx14 rx16 (Nat.lt_of_lt_of_le w.2 (Nat.le_of_lt_succ q8)) w.1
        refine r_ic (t := 36) (pc1 := 32) rfl rfl rfl (rgh _ _ _) (rgk rfl) (fun c19 => ?_) (fun c19 => ?_)
        · have w := w.1 c19
          refine r_aldn (pc1 := 37) rfl rfl rfl ?_
          refine r_aldn (pc1 := 38) rfl rfl rfl ?_
          refine r_aldn (pc1 := 39) rfl rfl rfl ?_
          refine r_n (pc1 := 41) [.int (J x6), rv a2, rv 437, rv 437] _ rfl rfl ?_
          refine r_iv rfl rfl rfl rfl rfl rfl t3 (lyk t3 rfl) rfl (xe_of (xa_r (xa_r (xa_i xa_0))) rfl rfl) (r_d0 hd rfl) (a_X14_slotIn a2 x6 (r_d1 hd rfl) rx6 w t3 (fun x17 rx17 w => ?_))
          refine r_fI (pc1 := 44) rfl ?_
          have w := w rx17
          refine r_n (pc1 := 45) [.int (J 2), .int (J x17), rv 437] _ rfl rfl ?_
          refine r_iv rfl rfl rfl rfl rfl rfl t3 (lyk t3 rfl) rfl (xe_of (xa_r (xa_i (xa_i xa_0))) rfl rfl) (r_d0 hd rfl) (a_X14_ver x17 2 (r_d1 hd rfl) rx17 (rgk rfl) w t3 (fun x18 rx18 w => ?_))
          refine r_fI (pc1 := 48) rfl ?_
          have w := w rx18
          exact Q13  x18  rx18 w
        · have w := w.2 c19
          refine r_n (pc1 := 33) [.int (J 0)] _ rfl rfl ?_
          refine r_goto (t := 48) rfl rfl ?_
          exact Q13  0  (rgk rfl) w
  exact Q8 _ _ 0 0 0  (rgk rfl) (rgk rfl) (rgk rfl) (Nat.lt_succ_self _) w
def w_X14_fails (p0 : Int) (p1 : Int) (p2 : Int) (K : Int → XH → Prop) (h : XH) : Prop :=
  (∀ h1 : XH, h1 = sI h 437 5 0 → HT h1 → HX h h1 → w_X14_isVersion p0 p1 (fun x2 => rg x2 → (x2 = 0 ∨ x2 = 1) → (w_X14_refused x2 1 (fun x3 h4 => HT h4 → HX h1 h4 → rg x3 → (x3 = 0 ∨ x3 = 1) → (((x3 = 0 → (w_X14_record (fun h5 => HT h5 → HX h4 h5 → (w_X14_slotOf p0 p1 (fun x6 => rg x6 → (w_X14_ver x6 5 (fun x7 => rg x7 → (∃ J9 : Int → Prop, (∀ (x8 : Int), rg x8 → J9 x8 → (∃ J11 : Int → Prop, (∀ (x10 : Int), rg x10 → J11 x10 → (w_X14_put x6 5 x10 (fun h12 => HT h12 → HX h5 h12 → ((x8 = 0 ∨ x8 = 1) ∧ K x8 h12)) h5)) ∧ ((p2 = 0 → (J11 0)) ∧ (¬ (p2 = 0) → (J11 1))))) ∧ ((¬ x7 = 1 → (J9 0)) ∧ (¬ (¬ x7 = 1) → (J9 1))))) h5)) h5)) h4)) ∧ (¬ (x3 = 0) → (K 0 h4))))) h1)) h1)
set_option maxHeartbeats 4000000 in
theorem a_X14_fails {sc : Nat × (Nat → Int32)} {goal : XO → XH → Prop} {fs : List XF} {h : XH} (p0 : Int) (p1 : Int) (p2 : Int) {K : Int → XH → Prop} (hd : fs.length + 3 ≤ 1000) (rp0 : rg p0) (rp1 : rg p1) (rp2 : rg p2) (w : w_X14_fails p0 p1 p2 K h) (t0 : HT h) (k : ∀ (r : Int) (h1 : XH), HT h1 → HX h h1 → rg r → (r = 0 ∨ r = 1) → K r h1 → XFin xP sc goal fs (.inl (some (.int (J r)))) h1) : RR sc goal fs 195 0 [some (rv 437), some (.int (J p0)), some (.int (J p1)), some (.int (J p2)), none, none] [] h := by
  unfold w_X14_fails at w
  refine r_aldn (pc1 := 1) rfl rfl rfl ?_
  refine r_n (pc1 := 2) [.int (J 0), rv 437] _ rfl rfl ?_
  refine r_pfI (pc1 := 5) rfl rfl rfl t0 (lyk t0 rfl) rfl rfl rfl (fun h1 eh1 t1 u1 => ?_)
  have w := w h1 eh1 t1 u1
  have s1 := HX_trans (HX_refl h) u1
  refine r_aldn (pc1 := 6) rfl rfl rfl ?_
  refine r_aldn (pc1 := 7) rfl rfl rfl ?_
  refine r_n (pc1 := 8) [.int (J p0), rv 437, rv 437] _ rfl rfl ?_
  refine r_n (pc1 := 9) [.int (J p1), .int (J p0), rv 437, rv 437] _ rfl rfl ?_
  refine r_iv rfl rfl rfl rfl rfl rfl t1 (lyk t1 rfl) rfl (xe_of (xa_r (xa_i (xa_i xa_0))) rfl rfl) (r_d0 hd rfl) (a_X14_isVersion p0 p1 (r_d1 hd rfl) rp0 rp1 w t1 (fun x2 rx2 vx2 w => ?_))
  refine r_fI (pc1 := 12) rfl ?_
  have w := w rx2 vx2
  refine r_n (pc1 := 13) [.int (J 1), .int (J x2), rv 437] _ rfl rfl ?_
  refine r_iv rfl rfl rfl rfl rfl rfl t1 (lyk t1 rfl) rfl (xe_of (xa_r (xa_i (xa_i xa_0))) rfl rfl) (r_d0 hd rfl) (a_X14_refused x2 1 (r_d1 hd rfl) rx2 (rgk rfl) w t1 (fun x3 h4 t4 u4 rx3 vx3 w => ?_))
  refine r_fI (pc1 := 16) rfl ?_
  have s4 := HX_trans s1 u4
  have w := w t4 u4
  have w := w rx3 vx3
  refine r_iz (t := 21) (pc1 := 19) rfl rfl rfl rx3 (fun c16 => ?_) (fun c16 => ?_)
  · have w := w.1 c16
    refine r_aldn (pc1 := 22) rfl rfl rfl ?_
    refine r_iv rfl rfl rfl rfl rfl rfl t4 (lyk t4 rfl) rfl (xe_of (xa_r xa_0) rfl rfl) (r_d0 hd rfl) (a_X14_record  (r_d1 hd rfl)  w t4 (fun h5 t5 u5 w => ?_))
    refine r_fV (pc1 := 25) rfl ?_
    have s5 := HX_trans s4 u5
    have w := w t5 u5
    refine r_aldn (pc1 := 26) rfl rfl rfl ?_
    refine r_n (pc1 := 27) [.int (J p0), rv 437] _ rfl rfl ?_
    refine r_n (pc1 := 28) [.int (J p1), .int (J p0), rv 437] _ rfl rfl ?_
    refine r_iv rfl rfl rfl rfl rfl rfl t5 (lyk t5 rfl) rfl (xe_of (xa_r (xa_i (xa_i xa_0))) rfl rfl) (r_d0 hd rfl) (a_X14_slotOf p0 p1 (r_d1 hd rfl) rp0 rp1 w t5 (fun x6 rx6 w => ?_))
    refine r_fI (pc1 := 31) rfl ?_
    have w := w rx6
    refine r_ist (pc1 := 33) (ls1 := [some (rv 437), some (.int (J p0)), some (.int (J p1)), some (.int (J p2)), some (.int (J x6)), none]) rfl rfl rfl rfl ?_
    refine r_aldn (pc1 := 34) rfl rfl rfl ?_
    refine r_n (pc1 := 36) [.int (J x6), rv 437] _ rfl rfl ?_
    refine r_n (pc1 := 37) [.int (J 5), .int (J x6), rv 437] _ rfl rfl ?_
    refine r_iv rfl rfl rfl rfl rfl rfl t5 (lyk t5 rfl) rfl (xe_of (xa_r (xa_i (xa_i xa_0))) rfl rfl) (r_d0 hd rfl) (a_X14_ver x6 5 (r_d1 hd rfl) rx6 (rgk rfl) w t5 (fun x7 rx7 w => ?_))
    refine r_fI (pc1 := 40) rfl ?_
    have w := w rx7
    refine r_n (pc1 := 41) [.int (J 1), .int (J x7)] _ rfl rfl ?_
    obtain ⟨J9, j9, w⟩ := w
    have Q9 : ∀ (x8 : Int), rg x8 → J9 x8 → RR sc goal fs 195 49 [some (rv 437), some (.int (J p0)), some (.int (J p1)), some (.int (J p2)), some (.int (J x6)), none] [.int (J x8)] h5 := by
      intro x8 rx8 z9
      have w := j9 x8 rx8 z9
      refine r_ist (pc1 := 51) (ls1 := [some (rv 437), some (.int (J p0)), some (.int (J p1)), some (.int (J p2)), some (.int (J x6)), some (.int (J x8))]) rfl rfl rfl rfl ?_
      refine r_aldn (pc1 := 52) rfl rfl rfl ?_
      refine r_n (pc1 := 54) [.int (J x6), rv 437] _ rfl rfl ?_
      refine r_n (pc1 := 55) [.int (J 5), .int (J x6), rv 437] _ rfl rfl ?_
      refine r_n (pc1 := 56) [.int (J p2), .int (J 5), .int (J x6), rv 437] _ rfl rfl ?_
      obtain ⟨J11, j11, w⟩ := w
      have Q11 : ∀ (x10 : Int), rg x10 → J11 x10 → RR sc goal fs 195 64 [some (rv 437), some (.int (J p0)), some (.int (J p1)), some (.int (J p2)), some (.int (J x6)), some (.int (J x8))] [.int (J x10), .int (J 5), .int (J x6), rv 437] h5 := by
        intro x10 rx10 z11
        have w := j11 x10 rx10 z11
        refine r_iv rfl rfl rfl rfl rfl rfl t5 (lyk t5 rfl) rfl (xe_of (xa_r (xa_i (xa_i (xa_i xa_0)))) rfl rfl) (r_d0 hd rfl) (a_X14_put x6 5 x10 (r_d1 hd rfl) rx6 (rgk rfl) rx10 w t5 (fun h12 t12 u12 w => ?_))
        refine r_fV (pc1 := 67) rfl ?_
        have s12 := HX_trans s5 u12
        have w := w t12 u12
        refine r_n (pc1 := 69) [.int (J x8)] _ rfl rfl ?_
        obtain ⟨c13, w⟩ := w
        exact r_retB rfl rfl rfl c13 (k _ _ t12 s12 rx8 c13 w)
      refine r_iz (t := 63) (pc1 := 59) rfl rfl rfl rp2 (fun c14 => ?_) (fun c14 => ?_)
      · have w := w.1 c14
        refine r_n (pc1 := 64) [.int (J 0), .int (J 5), .int (J x6), rv 437] _ rfl rfl ?_
        exact Q11  0  (rgk rfl) w
      · have w := w.2 c14
        refine r_n (pc1 := 60) [.int (J 1), .int (J 5), .int (J x6), rv 437] _ rfl rfl ?_
        refine r_goto (t := 64) rfl rfl ?_
        exact Q11  1  (rgk rfl) w
    refine r_ic (t := 48) (pc1 := 44) rfl rfl rfl rx7 (rgk rfl) (fun c15 => ?_) (fun c15 => ?_)
    · have w := w.1 c15
      refine r_n (pc1 := 49) [.int (J 0)] _ rfl rfl ?_
      exact Q9  0  (rgk rfl) w
    · have w := w.2 c15
      refine r_n (pc1 := 45) [.int (J 1)] _ rfl rfl ?_
      refine r_goto (t := 49) rfl rfl ?_
      exact Q9  1  (rgk rfl) w
  · have w := w.2 c16
    refine r_n (pc1 := 20) [.int (J 0)] _ rfl rfl ?_
    exact r_retB rfl rfl rfl (.inl rfl) (k _ _ t4 s4 (rgk rfl) (.inl rfl) w)
def w_X12_scripts  (K : Int → XH → Prop) (h : XH) : Prop :=
  (w_X12_knowMet (fun h1 => HT h1 → HX h h1 → (w_X11_atHand (fun a2 => (hk h1 a2 = 7 ∧ w_X2_arrange (hL h1 a2 5) (fun h4 => HT h4 → HX h1 h4 → (∃ J6 : Int → Prop, (∀ (x5 : Int), rg x5 → J6 x5 → (K x5 h4)) ∧ ((hI h4 79 7 = 0 → (J6 (hI h4 79 6))) ∧ (¬ (hI h4 79 7 = 0) → (J6 (wr (-(hI h4 79 6)))))))) h1)) h1)) h)
set_option maxHeartbeats 4000000 in
theorem a_X12_scripts {sc : Nat × (Nat → Int32)} {goal : XO → XH → Prop} {fs : List XF} {h : XH}  {K : Int → XH → Prop} (hd : fs.length + 6 ≤ 1000) (w : w_X12_scripts  K h) (t0 : HT h) (k : ∀ (r : Int) (h1 : XH), HT h1 → HX h h1 → rg r → K r h1 → XFin xP sc goal fs (.inl (some (.int (J r)))) h1) : RR sc goal fs 148 0 [some (rv 2)] [] h := by
  unfold w_X12_scripts at w
  refine r_aldn (pc1 := 1) rfl rfl rfl ?_
  refine r_iv rfl rfl rfl rfl rfl rfl t0 (lyk t0 rfl) rfl (xe_of (xa_r xa_0) rfl rfl) (r_d0 hd rfl) (a_X12_knowMet  (r_d1 hd rfl)  w t0 (fun h1 t1 u1 w => ?_))
  refine r_fV (pc1 := 4) rfl ?_
  have s1 := HX_trans (HX_refl h) u1
  have w := w t1 u1
  refine r_aldn (pc1 := 5) rfl rfl rfl ?_
  refine r_gfC (pc1 := 8) (q := 79) rfl rfl rfl t1 (lyk t1 rfl) rfl rfl (lyR t1 rfl rfl) ?_
  refine r_aldn (pc1 := 9) rfl rfl rfl ?_
  refine r_gfC (pc1 := 12) (q := 8) rfl rfl rfl t1 (lyk t1 rfl) rfl rfl (lyR t1 rfl rfl) ?_
  refine r_iv rfl rfl rfl rfl rfl rfl t1 (lyk t1 rfl) rfl (xe_of (xa_r xa_0) rfl rfl) (r_d0 hd rfl) (a_X11_atHand  (r_d1 hd rfl)  w t1 (fun a2 w => ?_))
  refine r_fR (pc1 := 15) rfl ?_
  obtain ⟨c3, w⟩ := w
  refine r_gfL (pc1 := 18) rfl rfl rfl t1 c3 rfl rfl ?_
  refine r_iv rfl rfl rfl rfl rfl rfl t1 (lyk t1 rfl) rfl (xe_of (xa_r (xa_l xa_0)) rfl rfl) (r_d0 hd rfl) (a_X2_arrange (hL h1 a2 5) (r_d1 hd rfl)  w t1 (fun h4 t4 u4 w => ?_))
  refine r_fV (pc1 := 21) rfl ?_
  have s4 := HX_trans s1 u4
  have w := w t4 u4
  refine r_aldn (pc1 := 22) rfl rfl rfl ?_
  refine r_gfC (pc1 := 25) (q := 79) rfl rfl rfl t4 (lyk t4 rfl) rfl rfl (lyR t4 rfl rfl) ?_
  refine r_gfI (pc1 := 28) rfl rfl rfl t4 (lyk t4 rfl) rfl rfl ?_
  obtain ⟨J6, j6, w⟩ := w
  have Q6 : ∀ (x5 : Int), rg x5 → J6 x5 → RR sc goal fs 148 49 [some (rv 2)] [.int (J x5)] h4 := by
    intro x5 rx5 z6
    have w := j6 x5 rx5 z6
    exact r_retI rfl rfl rfl (k _ _ t4 s4 rx5 w)
  refine r_iz (t := 42) (pc1 := 31) rfl rfl rfl (rgh _ _ _) (fun c7 => ?_) (fun c7 => ?_)
  · have w := w.1 c7
    refine r_aldn (pc1 := 43) rfl rfl rfl ?_
    refine r_gfC (pc1 := 46) (q := 79) rfl rfl rfl t4 (lyk t4 rfl) rfl rfl (lyR t4 rfl rfl) ?_
    refine r_gfI (pc1 := 49) rfl rfl rfl t4 (lyk t4 rfl) rfl rfl ?_
    exact Q6  (hI h4 79 6)  (rgh _ _ _) w
  · have w := w.2 c7
    refine r_aldn (pc1 := 32) rfl rfl rfl ?_
    refine r_gfC (pc1 := 35) (q := 79) rfl rfl rfl t4 (lyk t4 rfl) rfl rfl (lyR t4 rfl rfl) ?_
    refine r_gfI (pc1 := 38) rfl rfl rfl t4 (lyk t4 rfl) rfl rfl ?_
    refine r_ineg (pc1 := 39) rfl rfl ?_
    refine r_goto (t := 49) rfl rfl ?_
    exact Q6  (wr (-(hI h4 79 6)))  (rgw _) w
def w_X14_scripts  (K : Int → XH → Prop) (h : XH) : Prop :=
  (∀ h1 : XH, h1 = sI h 437 5 0 → HT h1 → HX h h1 → w_X14_goalSet (fun a2 h3 => HT h3 → HX h1 h3 → (w_X14_findScripts a2 (fun h4 => HT h4 → HX h3 h4 → (K (hI h4 437 61) h4)) h3)) h1)
set_option maxHeartbeats 4000000 in
theorem a_X14_scripts {sc : Nat × (Nat → Int32)} {goal : XO → XH → Prop} {fs : List XF} {h : XH}  {K : Int → XH → Prop} (hd : fs.length + 5 ≤ 1000) (w : w_X14_scripts  K h) (t0 : HT h) (k : ∀ (r : Int) (h1 : XH), HT h1 → HX h h1 → rg r → K r h1 → XFin xP sc goal fs (.inl (some (.int (J r)))) h1) : RR sc goal fs 294 0 [some (rv 437)] [] h := by
  unfold w_X14_scripts at w
  refine r_aldn (pc1 := 1) rfl rfl rfl ?_
  refine r_n (pc1 := 2) [.int (J 0), rv 437] _ rfl rfl ?_
  refine r_pfI (pc1 := 5) rfl rfl rfl t0 (lyk t0 rfl) rfl rfl rfl (fun h1 eh1 t1 u1 => ?_)
  have w := w h1 eh1 t1 u1
  have s1 := HX_trans (HX_refl h) u1
  refine r_aldn (pc1 := 6) rfl rfl rfl ?_
  refine r_aldn (pc1 := 7) rfl rfl rfl ?_
  refine r_iv rfl rfl rfl rfl rfl rfl t1 (lyk t1 rfl) rfl (xe_of (xa_r xa_0) rfl rfl) (r_d0 hd rfl) (a_X14_goalSet  (r_d1 hd rfl)  w t1 (fun a2 h3 t3 u3 w => ?_))
  refine r_fR (pc1 := 10) rfl ?_
  have s3 := HX_trans s1 u3
  have w := w t3 u3
  refine r_iv rfl rfl rfl rfl rfl rfl t3 (lyk t3 rfl) rfl (xe_of (xa_r (xa_r xa_0)) rfl rfl) (r_d0 hd rfl) (a_X14_findScripts a2 (r_d1 hd rfl)  w t3 (fun h4 t4 u4 w => ?_))
  refine r_fV (pc1 := 13) rfl ?_
  have s4 := HX_trans s3 u4
  have w := w t4 u4
  refine r_aldn (pc1 := 14) rfl rfl rfl ?_
  refine r_gfI (pc1 := 17) rfl rfl rfl t4 (lyk t4 rfl) rfl rfl ?_
  exact r_retI rfl rfl rfl (k _ _ t4 s4 (rgh _ _ _) w)
def w_X12_scriptAt (p0 : Int) (K : Int → XH → Prop) (E : Nat → XH → Prop) (h : XH) : Prop :=
  (w_X12_knowMet (fun h1 => HT h1 → HX h h1 → (w_X11_atHand (fun a2 => (hk h1 a2 = 7 ∧ w_X2_arrange (hL h1 a2 5) (fun h4 => HT h4 → HX h1 h4 → (∃ J5 : Prop, (J5 → (E 2 (nT h4))) ∧ ((p0 < 0 → J5) ∧ (¬ (p0 < 0) → (((p0 < hI h4 79 6 → ((0 ≤ p0 ∧ p0 < 12) ∧ K (hI h4 82 p0.toNat) h4)) ∧ (¬ (p0 < hI h4 79 6) → J5))))))) h1)) h1)) h)
set_option maxHeartbeats 4000000 in
theorem a_X12_scriptAt {sc : Nat × (Nat → Int32)} {goal : XO → XH → Prop} {fs : List XF} {h : XH} (p0 : Int) {K : Int → XH → Prop} {E : Nat → XH → Prop} (hd : fs.length + 6 ≤ 1000) (rp0 : rg p0) (w : w_X12_scriptAt p0 K E h) (t0 : HT h) (k : ∀ (r : Int) (h1 : XH), HT h1 → HX h h1 → rg r → K r h1 → XFin xP sc goal fs (.inl (some (.int (J r)))) h1) (kE : ∀ (x : Nat) (h1 : XH), HT h1 → HX h h1 → E x h1 → XFin xP sc goal fs (.inr x) h1) : RR sc goal fs 147 0 [some (rv 2), some (.int (J p0))] [] h := by
  unfold w_X12_scriptAt at w
  refine r_aldn (pc1 := 1) rfl rfl rfl ?_
  refine r_iv rfl rfl rfl rfl rfl rfl t0 (lyk t0 rfl) rfl (xe_of (xa_r xa_0) rfl rfl) (r_d0 hd rfl) (a_X12_knowMet  (r_d1 hd rfl)  w t0 (fun h1 t1 u1 w => ?_))
  refine r_fV (pc1 := 4) rfl ?_
  have s1 := HX_trans (HX_refl h) u1
  have w := w t1 u1
  refine r_aldn (pc1 := 5) rfl rfl rfl ?_
  refine r_gfC (pc1 := 8) (q := 79) rfl rfl rfl t1 (lyk t1 rfl) rfl rfl (lyR t1 rfl rfl) ?_
  refine r_aldn (pc1 := 9) rfl rfl rfl ?_
  refine r_gfC (pc1 := 12) (q := 8) rfl rfl rfl t1 (lyk t1 rfl) rfl rfl (lyR t1 rfl rfl) ?_
  refine r_iv rfl rfl rfl rfl rfl rfl t1 (lyk t1 rfl) rfl (xe_of (xa_r xa_0) rfl rfl) (r_d0 hd rfl) (a_X11_atHand  (r_d1 hd rfl)  w t1 (fun a2 w => ?_))
  refine r_fR (pc1 := 15) rfl ?_
  obtain ⟨c3, w⟩ := w
  refine r_gfL (pc1 := 18) rfl rfl rfl t1 c3 rfl rfl ?_
  refine r_iv rfl rfl rfl rfl rfl rfl t1 (lyk t1 rfl) rfl (xe_of (xa_r (xa_l xa_0)) rfl rfl) (r_d0 hd rfl) (a_X2_arrange (hL h1 a2 5) (r_d1 hd rfl)  w t1 (fun h4 t4 u4 w => ?_))
  refine r_fV (pc1 := 21) rfl ?_
  have s4 := HX_trans s1 u4
  have w := w t4 u4
  refine r_n (pc1 := 22) [.int (J p0)] _ rfl rfl ?_
  obtain ⟨J5, j5, w⟩ := w
  have Q5 : J5 → RR sc goal fs 147 36 [some (rv 2), some (.int (J p0))] [] h4 := by
    intro z5
    have w := j5 z5
    exact r_thr rfl rfl rfl rfl rfl rfl (kE _ _ (HT_nT t4).1 (HX_trans s4 (HT_nT t4).2) w)
  refine r_iz (t := 36) (pc1 := 25) rfl rfl rfl rp0 (fun c8 => ?_) (fun c8 => ?_)
  · have w := w.1 c8
    exact Q5     w
  · have w := w.2 c8
    refine r_n (pc1 := 26) [.int (J p0)] _ rfl rfl ?_
    refine r_aldn (pc1 := 27) rfl rfl rfl ?_
    refine r_gfC (pc1 := 30) (q := 79) rfl rfl rfl t4 (lyk t4 rfl) rfl rfl (lyR t4 rfl rfl) ?_
    refine r_gfI (pc1 := 33) rfl rfl rfl t4 (lyk t4 rfl) rfl rfl ?_
    refine r_ic (t := 47) (pc1 := 36) rfl rfl rfl rp0 (rgh _ _ _) (fun c7 => ?_) (fun c7 => ?_)
    · have w := w.1 c7
      refine r_aldn (pc1 := 48) rfl rfl rfl ?_
      refine r_gfC (pc1 := 51) (q := 79) rfl rfl rfl t4 (lyk t4 rfl) rfl rfl (lyR t4 rfl rfl) ?_
      refine r_gfC (pc1 := 54) (q := 82) rfl rfl rfl t4 (lyk t4 rfl) rfl rfl (lyR t4 rfl rfl) ?_
      refine r_n (pc1 := 55) [.int (J p0), rv 82] _ rfl rfl ?_
      obtain ⟨c6, w⟩ := w
      refine r_ial (pc1 := 56) rfl rfl t4 (lyk t4 rfl) rp0 c6.1 (lt_len (lyn t4 rfl) c6.2) ?_
      exact r_retI rfl rfl rfl (k _ _ t4 s4 (rgh _ _ _) w)
    · have w := w.2 c7
      exact Q5     w
def w_L_scriptAt (p1 : Int) (K : Int → XH → Prop) (h : XH) : Prop :=
  (w_X12_scriptAt p1 (fun x1 h2 => HT h2 → HX h h2 → rg x1 → (∀ h5 : XH, h5 = sL h2 467 0 (i2l x1) → HT h5 → HX h2 h5 → (K 0 h5))) (fun y4 h3 => ((y4 = 2 ∧ K 1 h3))) h)
set_option maxHeartbeats 4000000 in
theorem a_L_scriptAt {sc : Nat × (Nat → Int32)} {goal : XO → XH → Prop} {fs : List XF} {h : XH} (p1 : Int) {K : Int → XH → Prop} (hd : fs.length + 7 ≤ 1000) (rp1 : rg p1) (w : w_L_scriptAt p1 K h) (t0 : HT h) (k : ∀ (r : Int) (h1 : XH), HT h1 → HX h h1 → rg r → K r h1 → XFin xP sc goal fs (.inl (some (.int (J r)))) h1) : RR sc goal fs 60 0 [some (rv 2), some (.int (J p1)), some (rv 467), none] [] h := by
  unfold w_L_scriptAt at w
  refine r_aldn (pc1 := 1) rfl rfl rfl ?_
  refine r_n (pc1 := 2) [.int (J 0), rv 467] _ rfl rfl ?_
  refine r_aldn (pc1 := 3) rfl rfl rfl ?_
  refine r_n (pc1 := 4) [.int (J p1), rv 2, .int (J 0), rv 467] _ rfl rfl ?_
  refine r_iv rfl rfl rfl rfl rfl rfl t0 (lyk t0 rfl) rfl (xe_of (xa_r (xa_i xa_0)) rfl rfl) (r_d0 hd rfl) (a_X12_scriptAt p1 (r_d1 hd rfl) rp1 w t0 (fun x1 h2 t2 u2 rx1 w => ?_) (fun y4 h3 ty uy w => ?_))
  · refine r_fI (pc1 := 7) rfl ?_
    have s2 := HX_trans (HX_refl h) u2
    have w := w t2 u2
    have w := w rx1
    refine r_i2l (pc1 := 8) rfl rfl ?_
    refine r_last (pc1 := 9) rfl rfl t2 (lyk t2 rfl) (rgk rfl) (by decide) (lt_len (lyn t2 rfl) (by decide)) (fun h5 eh5 t5 u5 => ?_)
    have w := w h5 eh5 t5 u5
    have s5 := HX_trans s2 u5
    refine r_goto (t := 15) rfl rfl ?_
    refine r_n (pc1 := 16) [.int (J 0)] _ rfl rfl ?_
    exact r_retI rfl rfl rfl (k _ _ t5 s5 (rgk rfl) w)
  · obtain ⟨rfl, w⟩ := w
    exact r_fink (z := 1) rfl (by decide) rfl rfl (k _ _ ty (HX_trans (HX_refl h) uy) (rgk rfl) w)
def w_X14_scriptAt (p0 : Int) (K : Int → XH → Prop) (h : XH) : Prop :=
  (∀ h1 : XH, h1 = sI h 437 5 0 → HT h1 → HX h h1 → w_X14_goalSet (fun a2 h3 => HT h3 → HX h1 h3 → (w_X14_findScripts a2 (fun h4 => HT h4 → HX h3 h4 → (w_J9_abs_0f7a4 (hI h4 437 61) (fun x5 => rg x5 → (w_X14_within p0 0 (wr (x5 - 1)) (fun x6 => rg x6 → (x6 = 0 ∨ x6 = 1) → (w_X14_refused x6 1 (fun x7 h8 => HT h8 → HX h4 h8 → rg x7 → (x7 = 0 ∨ x7 = 1) → (∃ J10 : Int → Prop, (∀ (x9 : Int), rg x9 → J10 x9 → (K x9 h8)) ∧ ((x7 = 0 → ((0 ≤ p0 ∧ p0 < 12) ∧ J10 (hI h8 465 p0.toNat))) ∧ (¬ (x7 = 0) → (J10 0))))) h4)) h4)) h4)) h3)) h1)
set_option maxHeartbeats 4000000 in
theorem a_X14_scriptAt {sc : Nat × (Nat → Int32)} {goal : XO → XH → Prop} {fs : List XF} {h : XH} (p0 : Int) {K : Int → XH → Prop} (hd : fs.length + 5 ≤ 1000) (rp0 : rg p0) (w : w_X14_scriptAt p0 K h) (t0 : HT h) (k : ∀ (r : Int) (h1 : XH), HT h1 → HX h h1 → rg r → K r h1 → XFin xP sc goal fs (.inl (some (.int (J r)))) h1) : RR sc goal fs 293 0 [some (rv 437), some (.int (J p0))] [] h := by
  unfold w_X14_scriptAt at w
  refine r_aldn (pc1 := 1) rfl rfl rfl ?_
  refine r_n (pc1 := 2) [.int (J 0), rv 437] _ rfl rfl ?_
  refine r_pfI (pc1 := 5) rfl rfl rfl t0 (lyk t0 rfl) rfl rfl rfl (fun h1 eh1 t1 u1 => ?_)
  have w := w h1 eh1 t1 u1
  have s1 := HX_trans (HX_refl h) u1
  refine r_aldn (pc1 := 6) rfl rfl rfl ?_
  refine r_aldn (pc1 := 7) rfl rfl rfl ?_
  refine r_iv rfl rfl rfl rfl rfl rfl t1 (lyk t1 rfl) rfl (xe_of (xa_r xa_0) rfl rfl) (r_d0 hd rfl) (a_X14_goalSet  (r_d1 hd rfl)  w t1 (fun a2 h3 t3 u3 w => ?_))
  refine r_fR (pc1 := 10) rfl ?_
  have s3 := HX_trans s1 u3
  have w := w t3 u3
  refine r_iv rfl rfl rfl rfl rfl rfl t3 (lyk t3 rfl) rfl (xe_of (xa_r (xa_r xa_0)) rfl rfl) (r_d0 hd rfl) (a_X14_findScripts a2 (r_d1 hd rfl)  w t3 (fun h4 t4 u4 w => ?_))
  refine r_fV (pc1 := 13) rfl ?_
  have s4 := HX_trans s3 u4
  have w := w t4 u4
  refine r_aldn (pc1 := 14) rfl rfl rfl ?_
  refine r_n (pc1 := 15) [.int (J p0), rv 437] _ rfl rfl ?_
  refine r_n (pc1 := 16) [.int (J 0), .int (J p0), rv 437] _ rfl rfl ?_
  refine r_aldn (pc1 := 17) rfl rfl rfl ?_
  refine r_gfI (pc1 := 20) rfl rfl rfl t4 (lyk t4 rfl) rfl rfl ?_
  refine r_iq rfl rfl rfl rfl rfl rfl (xe_of (xa_i xa_0) rfl rfl) (r_d0 hd rfl) (a_J9_abs_0f7a4 (hI h4 437 61) (r_d1 hd rfl) (rgh _ _ _) w t4 (fun x5 rx5 w => ?_))
  refine r_fI (pc1 := 23) rfl ?_
  have w := w rx5
  refine r_n (pc1 := 24) [.int (J 1), .int (J x5), .int (J 0), .int (J p0), rv 437] _ rfl rfl ?_
  refine r_isub (pc1 := 25) rfl rfl ?_
  refine r_iq rfl rfl rfl rfl rfl rfl (xe_of (xa_i (xa_i (xa_i xa_0))) rfl rfl) (r_d0 hd rfl) (a_X14_within p0 0 (wr (x5 - 1)) (r_d1 hd rfl) rp0 (rgk rfl) (rgw _) w t4 (fun x6 rx6 vx6 w => ?_))
  refine r_fI (pc1 := 28) rfl ?_
  have w := w rx6 vx6
  refine r_n (pc1 := 29) [.int (J 1), .int (J x6), rv 437] _ rfl rfl ?_
  refine r_iv rfl rfl rfl rfl rfl rfl t4 (lyk t4 rfl) rfl (xe_of (xa_r (xa_i (xa_i xa_0))) rfl rfl) (r_d0 hd rfl) (a_X14_refused x6 1 (r_d1 hd rfl) rx6 (rgk rfl) w t4 (fun x7 h8 t8 u8 rx7 vx7 w => ?_))
  refine r_fI (pc1 := 32) rfl ?_
  have s8 := HX_trans s4 u8
  have w := w t8 u8
  have w := w rx7 vx7
  obtain ⟨J10, j10, w⟩ := w
  have Q10 : ∀ (x9 : Int), rg x9 → J10 x9 → RR sc goal fs 293 45 [some (rv 437), some (.int (J p0))] [.int (J x9)] h8 := by
    intro x9 rx9 z10
    have w := j10 x9 rx9 z10
    exact r_retI rfl rfl rfl (k _ _ t8 s8 rx9 w)
  refine r_iz (t := 39) (pc1 := 35) rfl rfl rfl rx7 (fun c12 => ?_) (fun c12 => ?_)
  · have w := w.1 c12
    refine r_aldn (pc1 := 40) rfl rfl rfl ?_
    refine r_gfC (pc1 := 43) (q := 465) rfl rfl rfl t8 (lyk t8 rfl) rfl rfl (lyR t8 rfl rfl) ?_
    refine r_n (pc1 := 44) [.int (J p0), rv 465] _ rfl rfl ?_
    obtain ⟨c11, w⟩ := w
    refine r_ial (pc1 := 45) rfl rfl t8 (lyk t8 rfl) rp0 c11.1 (lt_len (lyn t8 rfl) c11.2) ?_
    exact Q10  (hI h8 465 p0.toNat)  (rgh _ _ _) w
  · have w := w.2 c12
    refine r_n (pc1 := 36) [.int (J 0)] _ rfl rfl ?_
    refine r_goto (t := 45) rfl rfl ?_
    exact Q10  0  (rgk rfl) w
def w_X12_orphans  (K : Int → XH → Prop) (h : XH) : Prop :=
  (w_X12_knowMet (fun h1 => HT h1 → HX h h1 → (w_X11_atHand (fun a2 => (hk h1 a2 = 7 ∧ w_X2_reach (hL h1 a2 6) (fun h4 => HT h4 → HX h1 h4 → ((∃ (I7 : Int → Int → Prop) (m7 : Int → Int → Nat), I7 0 0 ∧ ∀ (x5 : Int) (x6 : Int), rg x5 → rg x6 → I7 x5 x6 → (((hI h4 9 0 ≤ x6 → (K x5 h4)) ∧ (¬ (hI h4 9 0 ≤ x6) → (w_X11_atHand (fun a8 => (hk h4 a8 = 7 ∧ w_X8_idIn (hL h4 a8 6) x6 (fun x10 => rg x10 → (∃ J12 : Int → Prop, (∀ (x11 : Int), rg x11 → J12 x11 → (∀ x13 : Int, x13 = wr (x6 + 1) → rg x13 → (I7 x11 x13 ∧ m7 x11 x13 < m7 x5 x6))) ∧ ((x10 = (-1) → J12 x5) ∧ (¬ (x10 = (-1)) → ((0 ≤ x6 ∧ x6 < 12) ∧ ((¬ hI h4 84 x6.toNat = (-1) → J12 x5) ∧ (¬ (¬ hI h4 84 x6.toNat = (-1)) → (∀ x15 : Int, x15 = ior x5 (ishl 1 x6) → rg x15 → J12 x15)))))))) h4)) h4))))))) h1)) h1)) h)
set_option maxHeartbeats 4000000 in
theorem a_X12_orphans {sc : Nat × (Nat → Int32)} {goal : XO → XH → Prop} {fs : List XF} {h : XH}  {K : Int → XH → Prop} (hd : fs.length + 6 ≤ 1000) (w : w_X12_orphans  K h) (t0 : HT h) (k : ∀ (r : Int) (h1 : XH), HT h1 → HX h h1 → rg r → K r h1 → XFin xP sc goal fs (.inl (some (.int (J r)))) h1) : RR sc goal fs 134 0 [some (rv 2), none, none] [] h := by
  unfold w_X12_orphans at w
  refine r_aldn (pc1 := 1) rfl rfl rfl ?_
  refine r_iv rfl rfl rfl rfl rfl rfl t0 (lyk t0 rfl) rfl (xe_of (xa_r xa_0) rfl rfl) (r_d0 hd rfl) (a_X12_knowMet  (r_d1 hd rfl)  w t0 (fun h1 t1 u1 w => ?_))
  refine r_fV (pc1 := 4) rfl ?_
  have s1 := HX_trans (HX_refl h) u1
  have w := w t1 u1
  refine r_aldn (pc1 := 5) rfl rfl rfl ?_
  refine r_gfC (pc1 := 8) (q := 79) rfl rfl rfl t1 (lyk t1 rfl) rfl rfl (lyR t1 rfl rfl) ?_
  refine r_aldn (pc1 := 9) rfl rfl rfl ?_
  refine r_gfC (pc1 := 12) (q := 8) rfl rfl rfl t1 (lyk t1 rfl) rfl rfl (lyR t1 rfl rfl) ?_
  refine r_iv rfl rfl rfl rfl rfl rfl t1 (lyk t1 rfl) rfl (xe_of (xa_r xa_0) rfl rfl) (r_d0 hd rfl) (a_X11_atHand  (r_d1 hd rfl)  w t1 (fun a2 w => ?_))
  refine r_fR (pc1 := 15) rfl ?_
  obtain ⟨c3, w⟩ := w
  refine r_gfL (pc1 := 18) rfl rfl rfl t1 c3 rfl rfl ?_
  refine r_iv rfl rfl rfl rfl rfl rfl t1 (lyk t1 rfl) rfl (xe_of (xa_r (xa_l xa_0)) rfl rfl) (r_d0 hd rfl) (a_X2_reach (hL h1 a2 6) (r_d1 hd rfl)  w t1 (fun h4 t4 u4 w => ?_))
  refine r_fV (pc1 := 21) rfl ?_
  have s4 := HX_trans s1 u4
  have w := w t4 u4
  refine r_n (pc1 := 22) [.int (J 0)] _ rfl rfl ?_
  refine r_istn (pc1 := 23) (ls1 := [some (rv 2), some (.int (J 0)), none]) rfl rfl rfl rfl ?_
  refine r_n (pc1 := 24) [.int (J 0)] _ rfl rfl ?_
  refine r_istn (pc1 := 25) (ls1 := [some (rv 2), some (.int (J 0)), some (.int (J 0))]) rfl rfl rfl rfl ?_
  obtain ⟨I7, m7, w, y7⟩ := w
  have Q7 : ∀ (n : Nat)  (x5 : Int) (x6 : Int), rg x5 → rg x6 → m7 x5 x6 < n → I7 x5 x6 → RR sc goal fs 134 25 [some (rv 2), some (.int (J x5)), some (.int (J x6))] [] h4 := by
    intro n
    induction n with
    | zero => intro x5 x6 rx5 rx6 q7 _; exact absurd q7 (Nat.not_lt_zero _)
    | succ n ih7 =>
      intro x5 x6 rx5 rx6 q7 z7
      have w := y7 x5 x6 rx5 rx6 z7
      refine r_n (pc1 := 26) [.int (J x6)] _ rfl rfl ?_
      refine r_aldn (pc1 := 27) rfl rfl rfl ?_
      refine r_gfC (pc1 := 30) (q := 8) rfl rfl rfl t4 (lyk t4 rfl) rfl rfl (lyR t4 rfl rfl) ?_
      refine r_gfC (pc1 := 33) (q := 9) rfl rfl rfl t4 (lyk t4 rfl) rfl rfl (lyR t4 rfl rfl) ?_
      refine r_gfI (pc1 := 36) rfl rfl rfl t4 (lyk t4 rfl) rfl rfl ?_
      refine r_ic (t := 89) (pc1 := 39) rfl rfl rfl rx6 (rgh _ _ _) (fun c18 => ?_) (fun c18 => ?_)
      · have w := w.1 c18
        refine r_n (pc1 := 90) [.int (J x5)] _ rfl rfl ?_
        exact r_retI rfl rfl rfl (k _ _ t4 s4 rx5 w)
      · have w := w.2 c18
        refine r_aldn (pc1 := 40) rfl rfl rfl ?_
        refine r_gfC (pc1 := 43) (q := 8) rfl rfl rfl t4 (lyk t4 rfl) rfl rfl (lyR t4 rfl rfl) ?_
        refine r_gfC (pc1 := 46) (q := 9) rfl rfl rfl t4 (lyk t4 rfl) rfl rfl (lyR t4 rfl rfl) ?_
        refine r_aldn (pc1 := 47) rfl rfl rfl ?_
        refine r_gfC (pc1 := 50) (q := 8) rfl rfl rfl t4 (lyk t4 rfl) rfl rfl (lyR t4 rfl rfl) ?_
        refine r_iv rfl rfl rfl rfl rfl rfl t4 (lyk t4 rfl) rfl (xe_of (xa_r xa_0) rfl rfl) (r_d0 hd rfl) (a_X11_atHand  (r_d1 hd rfl)  w t4 (fun a8 w => ?_))
        refine r_fR (pc1 := 53) rfl ?_
        obtain ⟨c9, w⟩ := w
        refine r_gfL (pc1 := 56) rfl rfl rfl t4 c9 rfl rfl ?_
        refine r_n (pc1 := 57) [.int (J x6), .long (G (hL h4 a8 6)), rv 9] _ rfl rfl ?_
        refine r_iv rfl rfl rfl rfl rfl rfl t4 (lyk t4 rfl) rfl (xe_of (xa_r (xa_l (xa_i xa_0))) rfl rfl) (r_d0 hd rfl) (a_X8_idIn (hL h4 a8 6) x6 (r_d1 hd rfl) rx6 w t4 (fun x10 rx10 w => ?_))
        refine r_fI (pc1 := 60) rfl ?_
        have w := w rx10
        refine r_n (pc1 := 61) [.int (J (-1)), .int (J x10)] _ rfl rfl ?_
        obtain ⟨J12, j12, w⟩ := w
        have Q12 : ∀ (x11 : Int), rg x11 → J12 x11 → RR sc goal fs 134 83 [some (rv 2), some (.int (J x11)), some (.int (J x6))] [] h4 := by
          intro x11 rx11 z12
          have w := j12 x11 rx11 z12
          refine r_inc (pc1 := 86) (g := fun zz => [some (rv 2), some (.int (J x11)), some (.int (J zz))]) rfl rfl rfl rfl (fun _ => rfl) (fun x13 ex13 rx13 => ?_)
          have w := w x13 ex13 rx13
          refine r_goto (t := 25) rfl rfl ?_
          exact ih7  x11 x13  rx11 rx13 (Nat.lt_of_lt_of_le w.2 (Nat.le_of_lt_succ q7)) w.1
        refine r_ic (t := 83) (pc1 := 64) rfl rfl rfl rx10 (rgk rfl) (fun c17 => ?_) (fun c17 => ?_)
        · have w := w.1 c17
          exact Q12  x5  rx5 w
        · have w := w.2 c17
          refine r_aldn (pc1 := 65) rfl rfl rfl ?_
          refine r_gfC (pc1 := 68) (q := 79) rfl rfl rfl t4 (lyk t4 rfl) rfl rfl (lyR t4 rfl rfl) ?_
          refine r_gfC (pc1 := 71) (q := 84) rfl rfl rfl t4 (lyk t4 rfl) rfl rfl (lyR t4 rfl rfl) ?_
          refine r_n (pc1 := 72) [.int (J x6), rv 84] _ rfl rfl ?_
          obtain ⟨c14, w⟩ := w
          refine r_ial (pc1 := 73) rfl rfl t4 (lyk t4 rfl) rx6 c14.1 (lt_len (lyn t4 rfl) c14.2) ?_
          refine r_n (pc1 := 74) [.int (J (-1)), .int (J (hI h4 84 x6.toNat))] _ rfl rfl ?_
          refine r_ic (t := 83) (pc1 := 77) rfl rfl rfl (rgh _ _ _) (rgk rfl) (fun c16 => ?_) (fun c16 => ?_)
          · have w := w.1 c16
            exact Q12  x5  rx5 w
          · have w := w.2 c16
            refine r_n (pc1 := 78) [.int (J x5)] _ rfl rfl ?_
            refine r_n (pc1 := 79) [.int (J 1), .int (J x5)] _ rfl rfl ?_
            refine r_n (pc1 := 80) [.int (J x6), .int (J 1), .int (J x5)] _ rfl rfl ?_
            refine r_ishl (pc1 := 81) rfl rfl ?_
            refine r_ior (pc1 := 82) rfl rfl ?_
            refine r_vI (rgt _) (fun x15 ex15 rx15 => ?_)
            have w := w x15 ex15 rx15
            refine r_istn (pc1 := 83) (ls1 := [some (rv 2), some (.int (J x15)), some (.int (J x6))]) rfl rfl rfl rfl ?_
            exact Q12  x15  rx15 w
  exact Q7 _  0 0  (rgk rfl) (rgk rfl) (Nat.lt_succ_self _) w
