/-! printed by dec.py: what each method wants, and that the machine keeps it -/ 
def w_X14_findScripts (p0 : Nat) (K : XH → Prop) (h : XH) : Prop :=
  ((∃ (I7 : Int → XH → Prop) (m7 : Int → XH → Nat), I7 0 h ∧ ∀ (x1 : Int) (h6 : XH), HT h6 → HX h h6 → rg x1 → I7 x1 h6 → (((12 ≤ x1 → ((∃ (I10 : Int → Int → Prop) (m10 : Int → Int → Nat), I10 0 0 ∧ ∀ (x8 : Int) (x9 : Int), rg x8 → rg x9 → I10 x8 x9 → (((12 ≤ x9 → (∀ h11 : XH, h11 = sI h6 437 61 0 → HT h11 → HX h6 h11 → (∃ (I16 : Int → XH → Prop) (m16 : Int → XH → Nat), I16 x8 h11 ∧ ∀ (x13 : Int) (h15 : XH), HT h15 → HX h h15 → rg x13 → I16 x13 h15 → (((x13 = 0 → (K h15)) ∧ (¬ (x13 = 0) → ((∃ (I18 : Int → Prop) (m18 : Int → Nat), I18 0 ∧ ∀ (x17 : Int), rg x17 → I18 x17 → (∃ J19 : Prop, (J19 → (((¬ x17 = 12 → ((0 ≤ hI h15 437 61 ∧ hI h15 437 61 < 12) ∧ ∀ h21 : XH, h21 = sI h15 465 (hI h15 437 61).toNat x17 → HT h21 → HX h15 h21 → ∀ h22 : XH, h22 = sI h21 437 61 (wr ((hI h21 437 61) + 1)) → HT h22 → HX h21 h22 → ∀ x23 : Int, x23 = iand x13 (ixor (ishl 1 x17) (-1)) → rg x23 → (I16 x23 h22 ∧ m16 x23 h22 < m16 x13 h15))) ∧ (¬ (¬ x17 = 12) → (w_X14_findRing (fun h24 => HT h24 → HX h15 h24 → (K h24)) h15))))) ∧ ((12 ≤ x17 → J19) ∧ (¬ (12 ≤ x17) → (∃ J26 : Prop, (J26 → (∀ x27 : Int, x27 = wr (x17 + 1) → rg x27 → (I18 x27 ∧ m18 x27 < m18 x17))) ∧ ((iand (ishr x13 x17) 1 = 0 → J26) ∧ (¬ (iand (ishr x13 x17) 1 = 0) → ((0 ≤ x17 ∧ x17 < 12) ∧ ((iand (hI h15 464 x17.toNat) x13 = 0 → J19) ∧ (¬ (iand (hI h15 464 x17.toNat) x13 = 0) → J26))))))))))))))))) ∧ (¬ (12 ≤ x9) → (hk h6 p0 = 100 ∧ (0 ≤ x9 ∧ x9 < (hn h6 p0 : Int)) ∧ ∃ J36 : Int → Prop, (∀ (x35 : Int), rg x35 → J36 x35 → (∀ x37 : Int, x37 = ior x8 x35 → rg x37 → ∀ x38 : Int, x38 = wr (x9 + 1) → rg x38 → (I10 x37 x38 ∧ m10 x37 x38 < m10 x8 x9))) ∧ ((¬ hI h6 p0 x9.toNat = (-1) → (J36 (ishl 1 x9))) ∧ (¬ (¬ hI h6 p0 x9.toNat = (-1)) → (J36 0)))))))))) ∧ (¬ (12 ≤ x1) → ((0 ≤ x1 ∧ x1 < 12) ∧ ∀ h42 : XH, h42 = sI h6 464 x1.toNat 0 → HT h42 → HX h6 h42 → hk h42 p0 = 100 ∧ (0 ≤ x1 ∧ x1 < (hn h42 p0 : Int)) ∧ ∃ J50 : XH → Prop, (∀ (h49 : XH), HT h49 → HX h h49 → J50 h49 → (∀ x51 : Int, x51 = wr (x1 + 1) → rg x51 → (I7 x51 h49 ∧ m7 x51 h49 < m7 x1 h6))) ∧ ((¬ hI h42 p0 x1.toNat = (-1) → (w_X14_slotIn p0 x1 (fun x52 => rg x52 → ((∃ (I57 : Int → XH → Prop) (m57 : Int → XH → Nat), I57 0 h42 ∧ ∀ (x53 : Int) (h56 : XH), HT h56 → HX h h56 → rg x53 → I57 x53 h56 → (w_X14_ver x52 7 (fun x58 => rg x58 → (((x58 ≤ x53 → J50 h56) ∧ (¬ (x58 ≤ x53) → ((∃ (I62 : Int → XH → Prop) (m62 : Int → XH → Nat), I62 0 h56 ∧ ∀ (x59 : Int) (h61 : XH), HT h61 → HX h h61 → rg x59 → I62 x59 h61 → (∃ J63 : Prop, (J63 → (∀ x64 : Int, x64 = wr (x53 + 1) → rg x64 → (I57 x64 h61 ∧ m57 x64 h61 < m57 x53 h56))) ∧ ((12 ≤ x59 → J63) ∧ (¬ (12 ≤ x59) → (w_X14_ver x52 11 (fun x65 => rg x65 → (((¬ iand (ishr x65 x53) 1 = 1 → J63) ∧ (¬ (¬ iand (ishr x65 x53) 1 = 1) → (∃ J67 : Int → Prop, (∀ (x66 : Int), rg x66 → J67 x66 → (∃ J69 : Int → Prop, (∀ (x68 : Int), rg x68 → J69 x68 → (∀ h70 : XH, h70 = sI h61 464 x1.toNat (ior (hI h61 464 x1.toNat) x68) → HT h70 → HX h61 h70 → ∀ x71 : Int, x71 = wr (x59 + 1) → rg x71 → (I62 x71 h70 ∧ m62 x71 h70 < m62 x59 h61))) ∧ ((x66 = 0 → (J69 0)) ∧ (¬ (x66 = 0) → (J69 (ishl 1 x59)))))) ∧ ∃ J73 : Prop, (J73 → (J67 0)) ∧ ((x59 = x1 → J73) ∧ (¬ (x59 = x1) → (hk h61 p0 = 100 ∧ (0 ≤ x59 ∧ x59 < (hn h61 p0 : Int)) ∧ ((hI h61 p0 x59.toNat = (-1) → J73) ∧ (¬ (hI h61 p0 x59.toNat = (-1)) → (w_X14_ver x52 (wr (8 + x53)) (fun x76 => rg x76 → (hk h61 (hR h61 437 6) = 106 ∧ (0 ≤ x76 ∧ x76 < (hn h61 (hR h61 437 6) : Int)) ∧ w_X14_slotIn p0 x59 (fun x79 => rg x79 → (w_X14_meets (hR h61 (hR h61 437 6) x76.toNat) x79 (fun x80 => rg x80 → (x80 = 0 ∨ x80 = 1) → (((x80 = 0 → J73) ∧ (¬ (x80 = 0) → (J67 1))))) h61)) h61)) h61))))))))))) h61)))))))))) h56)))) h42)) ∧ (¬ (¬ hI h42 p0 x1.toNat = (-1)) → (J50 h42)))))))))
set_option maxHeartbeats 4000000 in
theorem a_X14_findScripts {sc : Nat × (Nat → Int32)} {goal : XO → XH → Prop} {fs : List XF} {h : XH} (p0 : Nat) {K : XH → Prop} (hd : fs.length + 4 ≤ 1000) (w : w_X14_findScripts p0 K h) (t0 : HT h) (k : ∀ (h1 : XH), HT h1 → HX h h1 → K h1 → XFin xP sc goal fs (.inl none) h1) : RR sc goal fs 203 0 [some (rv 437), some (rv p0), none, none, none, none, none] [] h := by
  unfold w_X14_findScripts at w
  refine r_n (pc1 := 1) [.int (J 0)] _ rfl rfl ?_
  refine r_istn (pc1 := 2) (ls1 := [some (rv 437), some (rv p0), some (.int (J 0)), none, none, none, none]) rfl rfl rfl (xput1_rv rfl rfl) ?_
  obtain ⟨I7, m7, w, y7⟩ := w
  have Q7 : ∀ (n : Nat) (d2 : Option Value) (d3 : Option Value) (d4 : Option Value) (d5 : Option Value) (x1 : Int) (h6 : XH), HT h6 → HX h h6 → rg x1 → m7 x1 h6 < n → I7 x1 h6 → RR sc goal fs 203 2 [some (rv 437), some (rv p0), some (.int (J x1)), d2, d3, d4, d5] [] h6 := by
    intro n
    induction n with
    | zero => intro d2 d3 d4 d5 x1 h6 t6 s6 rx1 q7 _; exact absurd q7 (Nat.not_lt_zero _)
    | succ n ih7 =>
      intro d2 d3 d4 d5 x1 h6 t6 s6 rx1 q7 z7
      have w := y7 x1 h6 t6 s6 rx1 z7
      refine r_n (pc1 := 3) [.int (J x1)] _ rfl rfl ?_
      refine r_n (pc1 := 5) [.int (J 12), .int (J x1)] _ rfl rfl ?_
      refine r_ic (t := 163) (pc1 := 8) rfl rfl rfl rx1 (rgk rfl) (fun c88 => ?_) (fun c88 => ?_)
      · have w := w.1 c88
        refine r_n (pc1 := 164) [.int (J 0)] _ rfl rfl ?_
        refine r_istn (pc1 := 165) (ls1 := [some (rv 437), some (rv p0), some (.int (J 0)), d2, d3, d4, d5]) rfl rfl rfl (xput1_rv rfl rfl) ?_
        refine r_n (pc1 := 166) [.int (J 0)] _ rfl rfl ?_
        refine r_istn (pc1 := 167) (ls1 := [some (rv 437), some (rv p0), some (.int (J 0)), some (.int (J 0)), d3, d4, d5]) rfl rfl rfl rfl ?_
        obtain ⟨I10, m10, w, y10⟩ := w
        have Q10 : ∀ (n : Nat)  (x8 : Int) (x9 : Int), rg x8 → rg x9 → m10 x8 x9 < n → I10 x8 x9 → RR sc goal fs 203 167 [some (rv 437), some (rv p0), some (.int (J x8)), some (.int (J x9)), d3, d4, d5] [] h6 := by
          intro n
          induction n with
          | zero => intro x8 x9 rx8 rx9 q10 _; exact absurd q10 (Nat.not_lt_zero _)
          | succ n ih10 =>
            intro x8 x9 rx8 rx9 q10 z10
            have w := y10 x8 x9 rx8 rx9 z10
            refine r_n (pc1 := 168) [.int (J x9)] _ rfl rfl ?_
            refine r_n (pc1 := 170) [.int (J 12), .int (J x9)] _ rfl rfl ?_
            refine r_ic (t := 196) (pc1 := 173) rfl rfl rfl rx9 (rgk rfl) (fun c40 => ?_) (fun c40 => ?_)
            · have w := w.1 c40
              refine r_aldn (pc1 := 197) rfl rfl rfl ?_
              refine r_n (pc1 := 198) [.int (J 0), rv 437] _ rfl rfl ?_
              refine r_pfI (pc1 := 201) rfl rfl rfl t6 (lyk t6 rfl) rfl rfl rfl (fun h11 eh11 t11 u11 => ?_)
              have w := w h11 eh11 t11 u11
              have s11 := HX_trans s6 u11
              obtain ⟨I16, m16, w, y16⟩ := w
              have Q16 : ∀ (n : Nat) (d12 : Option Value) (d14 : Option Value) (x13 : Int) (h15 : XH), HT h15 → HX h h15 → rg x13 → m16 x13 h15 < n → I16 x13 h15 → RR sc goal fs 203 201 [some (rv 437), d12, some (.int (J x13)), d14, d3, d4, d5] [] h15 := by
                intro n
                induction n with
                | zero => intro d12 d14 x13 h15 t15 s15 rx13 q16 _; exact absurd q16 (Nat.not_lt_zero _)
                | succ n ih16 =>
                  intro d12 d14 x13 h15 t15 s15 rx13 q16 z16
                  have w := y16 x13 h15 t15 s15 rx13 z16
                  refine r_n (pc1 := 202) [.int (J x13)] _ rfl rfl ?_
                  refine r_iz (t := 280) (pc1 := 205) rfl rfl rfl rx13 (fun c32 => ?_) (fun c32 => ?_)
                  · have w := w.1 c32
                    exact r_retV rfl rfl rfl (k _ t15 s15 w)
                  · have w := w.2 c32
                    refine r_n (pc1 := 206) [.int (J 0)] _ rfl rfl ?_
                    refine r_istn (pc1 := 207) (ls1 := [some (rv 437), d12, some (.int (J x13)), some (.int (J 0)), d3, d4, d5]) rfl rfl rfl rfl ?_
                    obtain ⟨I18, m18, w, y18⟩ := w
                    have Q18 : ∀ (n : Nat)  (x17 : Int), rg x17 → m18 x17 < n → I18 x17 → RR sc goal fs 203 207 [some (rv 437), d12, some (.int (J x13)), some (.int (J x17)), d3, d4, d5] [] h15 := by
                      intro n
                      induction n with
                      | zero => intro x17 rx17 q18 _; exact absurd q18 (Nat.not_lt_zero _)
                      | succ n ih18 =>
                        intro x17 rx17 q18 z18
                        have w := y18 x17 rx17 z18
                        refine r_n (pc1 := 208) [.int (J x17)] _ rfl rfl ?_
                        refine r_n (pc1 := 210) [.int (J 12), .int (J x17)] _ rfl rfl ?_
                        obtain ⟨J19, j19, w⟩ := w
                        have Q19 : J19 → RR sc goal fs 203 238 [some (rv 437), d12, some (.int (J x13)), some (.int (J x17)), d3, d4, d5] [] h15 := by
                          intro z19
                          have w := j19 z19
                          refine r_n (pc1 := 239) [.int (J x17)] _ rfl rfl ?_
                          refine r_n (pc1 := 241) [.int (J 12), .int (J x17)] _ rfl rfl ?_
                          refine r_ic (t := 249) (pc1 := 244) rfl rfl rfl rx17 (rgk rfl) (fun c25 => ?_) (fun c25 => ?_)
                          · have w := w.1 c25
                            refine r_aldn (pc1 := 250) rfl rfl rfl ?_
                            refine r_gfC (pc1 := 253) (q := 465) rfl rfl rfl t15 (lyk t15 rfl) rfl rfl (lyR t15 rfl rfl) ?_
                            refine r_aldn (pc1 := 254) rfl rfl rfl ?_
                            refine r_gfI (pc1 := 257) rfl rfl rfl t15 (lyk t15 rfl) rfl rfl ?_
                            refine r_n (pc1 := 258) [.int (J x17), .int (J (hI h15 437 61)), rv 465] _ rfl rfl ?_
                            obtain ⟨c20, w⟩ := w
                            refine r_iast (pc1 := 259) rfl rfl t15 (lyk t15 rfl) (rgh _ _ _) c20.1 (lt_len (lyn t15 rfl) c20.2) (fun h21 eh21 t21 u21 => ?_)
                            have w := w h21 eh21 t21 u21
                            have s21 := HX_trans s15 u21
                            refine r_aldn (pc1 := 260) rfl rfl rfl ?_
                            refine r_dupR (pc1 := 261) rfl rfl ?_
                            refine r_gfI (pc1 := 264) rfl rfl rfl t21 (lyk t21 rfl) rfl rfl ?_
                            refine r_n (pc1 := 265) [.int (J 1), .int (J (hI h21 437 61)), rv 437] _ rfl rfl ?_
                            refine r_iadd (pc1 := 266) rfl rfl ?_
                            refine r_pfI (pc1 := 269) rfl rfl rfl t21 (lyk t21 rfl) rfl rfl rfl (fun h22 eh22 t22 u22 => ?_)
                            have w := w h22 eh22 t22 u22
                            have s22 := HX_trans s21 u22
                            refine r_n (pc1 := 270) [.int (J x13)] _ rfl rfl ?_
                            refine r_n (pc1 := 271) [.int (J 1), .int (J x13)] _ rfl rfl ?_
                            refine r_n (pc1 := 272) [.int (J x17), .int (J 1), .int (J x13)] _ rfl rfl ?_
                            refine r_ishl (pc1 := 273) rfl rfl ?_
                            refine r_n (pc1 := 274) [.int (J (-1)), .int (J (ishl 1 x17)), .int (J x13)] _ rfl rfl ?_
                            refine r_ixor (pc1 := 275) rfl rfl ?_
                            refine r_iand (pc1 := 276) rfl rfl ?_
                            refine r_vI (rgt _) (fun x23 ex23 rx23 => ?_)
                            have w := w x23 ex23 rx23
                            refine r_istn (pc1 := 277) (ls1 := [some (rv 437), (dcl d12), some (.int (J x23)), some (.int (J x17)), d3, d4, d5]) rfl rfl rfl (xput1_d rfl rfl) ?_
                            refine r_goto (t := 201) rfl rfl ?_
                            exact ih16 _ _ x23 h22 t22 s22 rx23 (Nat.lt_of_lt_of_le w.2 (Nat.le_of_lt_succ q16)) w.1
                          · have w := w.2 c25
                            refine r_aldn (pc1 := 245) rfl rfl rfl ?_
                            refine r_iv rfl rfl rfl rfl rfl rfl t15 (lyk t15 rfl) rfl (xe_of (xa_r xa_0) rfl rfl) (r_d0 hd rfl) (a_X14_findRing  (r_d1 hd rfl)  w t15 (fun h24 t24 u24 w => ?_))
                            refine r_fV (pc1 := 248) rfl ?_
                            have s24 := HX_trans s15 u24
                            have w := w t24 u24
                            exact r_retV rfl rfl rfl (k _ t24 s24 w)
                        refine r_ic (t := 238) (pc1 := 213) rfl rfl rfl rx17 (rgk rfl) (fun c31 => ?_) (fun c31 => ?_)
                        · have w := w.1 c31
                          exact Q19     w
                        · have w := w.2 c31
                          refine r_n (pc1 := 214) [.int (J x13)] _ rfl rfl ?_
                          refine r_n (pc1 := 215) [.int (J x17), .int (J x13)] _ rfl rfl ?_
                          refine r_ishr (pc1 := 216) rfl rfl ?_
                          refine r_n (pc1 := 217) [.int (J 1), .int (J (ishr x13 x17))] _ rfl rfl ?_
                          refine r_iand (pc1 := 218) rfl rfl ?_
                          obtain ⟨J26, j26, w⟩ := w
                          have Q26 : J26 → RR sc goal fs 203 232 [some (rv 437), d12, some (.int (J x13)), some (.int (J x17)), d3, d4, d5] [] h15 := by
                            intro z26
                            have w := j26 z26
                            refine r_inc (pc1 := 235) (g := fun zz => [some (rv 437), d12, some (.int (J x13)), some (.int (J zz)), d3, d4, d5]) rfl rfl rfl rfl (fun _ => rfl) (fun x27 ex27 rx27 => ?_)
                            have w := w x27 ex27 rx27
                            refine r_goto (t := 207) rfl rfl ?_
                            exact ih18  x27  rx27 (Nat.lt_of_lt_of_le w.2 (Nat.le_of_lt_succ q18)) w.1
                          refine r_iz (t := 232) (pc1 := 221) rfl rfl rfl (rgt _) (fun c30 => ?_) (fun c30 => ?_)
                          · have w := w.1 c30
                            exact Q26     w
                          · have w := w.2 c30
                            refine r_aldn (pc1 := 222) rfl rfl rfl ?_
                            refine r_gfC (pc1 := 225) (q := 464) rfl rfl rfl t15 (lyk t15 rfl) rfl rfl (lyR t15 rfl rfl) ?_
                            refine r_n (pc1 := 226) [.int (J x17), rv 464] _ rfl rfl ?_
                            obtain ⟨c28, w⟩ := w
                            refine r_ial (pc1 := 227) rfl rfl t15 (lyk t15 rfl) rx17 c28.1 (lt_len (lyn t15 rfl) c28.2) ?_
                            refine r_n (pc1 := 228) [.int (J x13), .int (J (hI h15 464 x17.toNat))] _ rfl rfl ?_
                            refine r_iand (pc1 := 229) rfl rfl ?_
                            refine r_iz (t := 238) (pc1 := 232) rfl rfl rfl (rgt _) (fun c29 => ?_) (fun c29 => ?_)
                            · have w := w.1 c29
                              exact Q19     w
                            · have w := w.2 c29
                              exact Q26     w
                    exact Q18 _  0  (rgk rfl) (Nat.lt_succ_self _) w
              exact Q16 _ _ _ x8 h11 t11 s11 rx8 (Nat.lt_succ_self _) w
            · have w := w.2 c40
              refine r_n (pc1 := 174) [.int (J x8)] _ rfl rfl ?_
              refine r_aldn (pc1 := 175) rfl rfl rfl ?_
              refine r_n (pc1 := 176) [.int (J x9), rv p0, .int (J x8)] _ rfl rfl ?_
              obtain ⟨c33, w⟩ := w
              obtain ⟨c34, w⟩ := w
              refine r_ial (pc1 := 177) rfl rfl t6 c33 rx9 c34.1 c34.2 ?_
              refine r_n (pc1 := 178) [.int (J (-1)), .int (J (hI h6 p0 x9.toNat)), .int (J x8)] _ rfl rfl ?_
              obtain ⟨J36, j36, w⟩ := w
              have Q36 : ∀ (x35 : Int), rg x35 → J36 x35 → RR sc goal fs 203 188 [some (rv 437), some (rv p0), some (.int (J x8)), some (.int (J x9)), d3, d4, d5] [.int (J x35), .int (J x8)] h6 := by
                intro x35 rx35 z36
                have w := j36 x35 rx35 z36
                refine r_ior (pc1 := 189) rfl rfl ?_
                refine r_vI (rgt _) (fun x37 ex37 rx37 => ?_)
                have w := w x37 ex37 rx37
                refine r_istn (pc1 := 190) (ls1 := [some (rv 437), some (rv p0), some (.int (J x37)), some (.int (J x9)), d3, d4, d5]) rfl rfl rfl (xput1_rv rfl rfl) ?_
                refine r_inc (pc1 := 193) (g := fun zz => [some (rv 437), some (rv p0), some (.int (J x37)), some (.int (J zz)), d3, d4, d5]) rfl rfl rfl rfl (fun _ => rfl) (fun x38 ex38 rx38 => ?_)
                have w := w x38 ex38 rx38
                refine r_goto (t := 167) rfl rfl ?_
                exact ih10  x37 x38  rx37 rx38 (Nat.lt_of_lt_of_le w.2 (Nat.le_of_lt_succ q10)) w.1
              refine r_ic (t := 185) (pc1 := 181) rfl rfl rfl (rgh _ _ _) (rgk rfl) (fun c39 => ?_) (fun c39 => ?_)
              · have w := w.1 c39
                refine r_n (pc1 := 186) [.int (J 1), .int (J x8)] _ rfl rfl ?_
                refine r_n (pc1 := 187) [.int (J x9), .int (J 1), .int (J x8)] _ rfl rfl ?_
                refine r_ishl (pc1 := 188) rfl rfl ?_
                exact Q36  (ishl 1 x9)  (rgt _) w
              · have w := w.2 c39
                refine r_n (pc1 := 182) [.int (J 0), .int (J x8)] _ rfl rfl ?_
                refine r_goto (t := 188) rfl rfl ?_
                exact Q36  0  (rgk rfl) w
        exact Q10 _  0 0  (rgk rfl) (rgk rfl) (Nat.lt_succ_self _) w
      · have w := w.2 c88
        refine r_aldn (pc1 := 9) rfl rfl rfl ?_
        refine r_gfC (pc1 := 12) (q := 464) rfl rfl rfl t6 (lyk t6 rfl) rfl rfl (lyR t6 rfl rfl) ?_
        refine r_n (pc1 := 13) [.int (J x1), rv 464] _ rfl rfl ?_
        refine r_n (pc1 := 14) [.int (J 0), .int (J x1), rv 464] _ rfl rfl ?_
        obtain ⟨c41, w⟩ := w
        refine r_iast (pc1 := 15) rfl rfl t6 (lyk t6 rfl) rx1 c41.1 (lt_len (lyn t6 rfl) c41.2) (fun h42 eh42 t42 u42 => ?_)
        have w := w h42 eh42 t42 u42
        have s42 := HX_trans s6 u42
        refine r_aldn (pc1 := 16) rfl rfl rfl ?_
        refine r_n (pc1 := 17) [.int (J x1), rv p0] _ rfl rfl ?_
        obtain ⟨c43, w⟩ := w
        obtain ⟨c44, w⟩ := w
        refine r_ial (pc1 := 18) rfl rfl t42 c43 rx1 c44.1 c44.2 ?_
        refine r_n (pc1 := 19) [.int (J (-1)), .int (J (hI h42 p0 x1.toNat))] _ rfl rfl ?_
        obtain ⟨J50, j50, w⟩ := w
        have Q50 : ∀ (d45 : Option Value) (d46 : Option Value) (d47 : Option Value) (d48 : Option Value) (h49 : XH), HT h49 → HX h h49 → J50 h49 → RR sc goal fs 203 157 [some (rv 437), some (rv p0), some (.int (J x1)), d45, d46, d47, d48] [] h49 := by
          intro d45 d46 d47 d48 h49 t49 s49 z50
          have w := j50 h49 t49 s49 z50
          refine r_inc (pc1 := 160) (g := fun zz => [some (rv 437), some (rv p0), some (.int (J zz)), d45, d46, d47, d48]) rfl rfl rfl rfl (fun _ => xput1_rv rfl rfl) (fun x51 ex51 rx51 => ?_)
          have w := w x51 ex51 rx51
          refine r_goto (t := 2) rfl rfl ?_
          exact ih7 _ _ _ _ x51 h49 t49 s49 rx51 (Nat.lt_of_lt_of_le w.2 (Nat.le_of_lt_succ q7)) w.1
        refine r_ic (t := 25) (pc1 := 22) rfl rfl rfl (rgh _ _ _) (rgk rfl) (fun c87 => ?_) (fun c87 => ?_)
        · have w := w.1 c87
          refine r_aldn (pc1 := 26) rfl rfl rfl ?_
          refine r_aldn (pc1 := 27) rfl rfl rfl ?_
          refine r_n (pc1 := 28) [.int (J x1), rv p0, rv 437] _ rfl rfl ?_
          refine r_iv rfl rfl rfl rfl rfl rfl t42 (lyk t42 rfl) rfl (xe_of (xa_r (xa_r (xa_i xa_0))) rfl rfl) (r_d0 hd rfl) (a_X14_slotIn p0 x1 (r_d1 hd rfl) rx1 w t42 (fun x52 rx52 w => ?_))
          refine r_fI (pc1 := 31) rfl ?_
          have w := w rx52
          refine r_istn (pc1 := 32) (ls1 := [some (rv 437), some (rv p0), some (.int (J x1)), some (.int (J x52)), d3, d4, d5]) rfl rfl rfl rfl ?_
          refine r_n (pc1 := 33) [.int (J 0)] _ rfl rfl ?_
          refine r_ist (pc1 := 35) (ls1 := [some (rv 437), some (rv p0), some (.int (J x1)), some (.int (J x52)), some (.int (J 0)), d4, d5]) rfl rfl rfl rfl ?_
          obtain ⟨I57, m57, w, y57⟩ := w
          have Q57 : ∀ (n : Nat) (d54 : Option Value) (d55 : Option Value) (x53 : Int) (h56 : XH), HT h56 → HX h h56 → rg x53 → m57 x53 h56 < n → I57 x53 h56 → RR sc goal fs 203 35 [some (rv 437), some (rv p0), some (.int (J x1)), some (.int (J x52)), some (.int (J x53)), d54, d55] [] h56 := by
            intro n
            induction n with
            | zero => intro d54 d55 x53 h56 t56 s56 rx53 q57 _; exact absurd q57 (Nat.not_lt_zero _)
            | succ n ih57 =>
              intro d54 d55 x53 h56 t56 s56 rx53 q57 z57
              have w := y57 x53 h56 t56 s56 rx53 z57
              refine r_n (pc1 := 37) [.int (J x53)] _ rfl rfl ?_
              refine r_aldn (pc1 := 38) rfl rfl rfl ?_
              refine r_n (pc1 := 39) [.int (J x52), rv 437, .int (J x53)] _ rfl rfl ?_
              refine r_n (pc1 := 41) [.int (J 7), .int (J x52), rv 437, .int (J x53)] _ rfl rfl ?_
              refine r_iv rfl rfl rfl rfl rfl rfl t56 (lyk t56 rfl) rfl (xe_of (xa_r (xa_i (xa_i xa_0))) rfl rfl) (r_d0 hd rfl) (a_X14_ver x52 7 (r_d1 hd rfl) rx52 (rgk rfl) w t56 (fun x58 rx58 w => ?_))
              refine r_fI (pc1 := 44) rfl ?_
              have w := w rx58
              refine r_ic (t := 157) (pc1 := 47) rfl rfl rfl rx53 rx58 (fun c86 => ?_) (fun c86 => ?_)
              · have w := w.1 c86
                exact Q50 _ _ _ _  h56 t56 s56  w
              · have w := w.2 c86
                refine r_n (pc1 := 48) [.int (J 0)] _ rfl rfl ?_
                refine r_ist (pc1 := 50) (ls1 := [some (rv 437), some (rv p0), some (.int (J x1)), some (.int (J x52)), some (.int (J x53)), some (.int (J 0)), d55]) rfl rfl rfl rfl ?_
                obtain ⟨I62, m62, w, y62⟩ := w
                have Q62 : ∀ (n : Nat) (d60 : Option Value) (x59 : Int) (h61 : XH), HT h61 → HX h h61 → rg x59 → m62 x59 h61 < n → I62 x59 h61 → RR sc goal fs 203 50 [some (rv 437), some (rv p0), some (.int (J x1)), some (.int (J x52)), some (.int (J x53)), some (.int (J x59)), d60] [] h61 := by
                  intro n
                  induction n with
                  | zero => intro d60 x59 h61 t61 s61 rx59 q62 _; exact absurd q62 (Nat.not_lt_zero _)
                  | succ n ih62 =>
                    intro d60 x59 h61 t61 s61 rx59 q62 z62
                    have w := y62 x59 h61 t61 s61 rx59 z62
                    refine r_n (pc1 := 52) [.int (J x59)] _ rfl rfl ?_
                    refine r_n (pc1 := 54) [.int (J 12), .int (J x59)] _ rfl rfl ?_
                    obtain ⟨J63, j63, w⟩ := w
                    have Q63 : J63 → RR sc goal fs 203 151 [some (rv 437), some (rv p0), some (.int (J x1)), some (.int (J x52)), some (.int (J x53)), some (.int (J x59)), d60] [] h61 := by
                      intro z63
                      have w := j63 z63
                      refine r_inc (pc1 := 154) (g := fun zz => [some (rv 437), some (rv p0), some (.int (J x1)), some (.int (J x52)), some (.int (J zz)), some (.int (J x59)), d60]) rfl rfl rfl rfl (fun _ => rfl) (fun x64 ex64 rx64 => ?_)
                      have w := w x64 ex64 rx64
                      refine r_goto (t := 35) rfl rfl ?_
                      exact ih57 _ _ x64 h61 t61 s61 rx64 (Nat.lt_of_lt_of_le w.2 (Nat.le_of_lt_succ q57)) w.1
                    refine r_ic (t := 151) (pc1 := 57) rfl rfl rfl rx59 (rgk rfl) (fun c85 => ?_) (fun c85 => ?_)
                    · have w := w.1 c85
                      exact Q63     w
                    · have w := w.2 c85
                      refine r_aldn (pc1 := 58) rfl rfl rfl ?_
                      refine r_n (pc1 := 59) [.int (J x52), rv 437] _ rfl rfl ?_
                      refine r_n (pc1 := 61) [.int (J 11), .int (J x52), rv 437] _ rfl rfl ?_
                      refine r_iv rfl rfl rfl rfl rfl rfl t61 (lyk t61 rfl) rfl (xe_of (xa_r (xa_i (xa_i xa_0))) rfl rfl) (r_d0 hd rfl) (a_X14_ver x52 11 (r_d1 hd rfl) rx52 (rgk rfl) w t61 (fun x65 rx65 w => ?_))
                      refine r_fI (pc1 := 64) rfl ?_
                      have w := w rx65
                      refine r_n (pc1 := 66) [.int (J x53), .int (J x65)] _ rfl rfl ?_
                      refine r_ishr (pc1 := 67) rfl rfl ?_
                      refine r_n (pc1 := 68) [.int (J 1), .int (J (ishr x65 x53))] _ rfl rfl ?_
                      refine r_iand (pc1 := 69) rfl rfl ?_
                      refine r_n (pc1 := 70) [.int (J 1), .int (J (iand (ishr x65 x53) 1))] _ rfl rfl ?_
                      refine r_ic (t := 151) (pc1 := 73) rfl rfl rfl (rgt _) (rgk rfl) (fun c84 => ?_) (fun c84 => ?_)
                      · have w := w.1 c84
                        exact Q63     w
                      · have w := w.2 c84
                        refine r_n (pc1 := 75) [.int (J x59)] _ rfl rfl ?_
                        refine r_n (pc1 := 76) [.int (J x1), .int (J x59)] _ rfl rfl ?_
                        obtain ⟨J67, j67, w⟩ := w
                        have Q67 : ∀ (x66 : Int), rg x66 → J67 x66 → RR sc goal fs 203 121 [some (rv 437), some (rv p0), some (.int (J x1)), some (.int (J x52)), some (.int (J x53)), some (.int (J x59)), d60] [.int (J x66)] h61 := by
                          intro x66 rx66 z67
                          have w := j67 x66 rx66 z67
                          refine r_ist (pc1 := 123) (ls1 := [some (rv 437), some (rv p0), some (.int (J x1)), some (.int (J x52)), some (.int (J x53)), some (.int (J x59)), some (.int (J x66))]) rfl rfl rfl rfl ?_
                          refine r_aldn (pc1 := 124) rfl rfl rfl ?_
                          refine r_gfC (pc1 := 127) (q := 464) rfl rfl rfl t61 (lyk t61 rfl) rfl rfl (lyR t61 rfl rfl) ?_
                          refine r_n (pc1 := 128) [.int (J x1), rv 464] _ rfl rfl ?_
                          refine r_dup2 (pc1 := 129) rfl rfl ?_
                          refine r_ial (pc1 := 130) rfl rfl t61 (lyk t61 rfl) rx1 c41.1 (lt_len (lyn t61 rfl) c41.2) ?_
                          refine r_n (pc1 := 132) [.int (J x66), .int (J (hI h61 464 x1.toNat)), .int (J x1), rv 464] _ rfl rfl ?_
                          obtain ⟨J69, j69, w⟩ := w
                          have Q69 : ∀ (x68 : Int), rg x68 → J69 x68 → RR sc goal fs 203 143 [some (rv 437), some (rv p0), some (.int (J x1)), some (.int (J x52)), some (.int (J x53)), some (.int (J x59)), some (.int (J x66))] [.int (J x68), .int (J (hI h61 464 x1.toNat)), .int (J x1), rv 464] h61 := by
                            intro x68 rx68 z69
                            have w := j69 x68 rx68 z69
                            refine r_ior (pc1 := 144) rfl rfl ?_
                            refine r_iast (pc1 := 145) rfl rfl t61 (lyk t61 rfl) rx1 c41.1 (lt_len (lyn t61 rfl) c41.2) (fun h70 eh70 t70 u70 => ?_)
                            have w := w h70 eh70 t70 u70
                            have s70 := HX_trans s61 u70
                            refine r_inc (pc1 := 148) (g := fun zz => [some (rv 437), some (rv p0), some (.int (J x1)), some (.int (J x52)), some (.int (J x53)), some (.int (J zz)), some (.int (J x66))]) rfl rfl rfl rfl (fun _ => rfl) (fun x71 ex71 rx71 => ?_)
                            have w := w x71 ex71 rx71
                            refine r_goto (t := 50) rfl rfl ?_
                            exact ih62 _ x71 h70 t70 s70 rx71 (Nat.lt_of_lt_of_le w.2 (Nat.le_of_lt_succ q62)) w.1
                          refine r_iz (t := 142) (pc1 := 135) rfl rfl rfl rx66 (fun c72 => ?_) (fun c72 => ?_)
                          · have w := w.1 c72
                            refine r_n (pc1 := 143) [.int (J 0), .int (J (hI h61 464 x1.toNat)), .int (J x1), rv 464] _ rfl rfl ?_
                            exact Q69  0  (rgk rfl) w
                          · have w := w.2 c72
                            refine r_n (pc1 := 136) [.int (J 1), .int (J (hI h61 464 x1.toNat)), .int (J x1), rv 464] _ rfl rfl ?_
                            refine r_n (pc1 := 138) [.int (J x59), .int (J 1), .int (J (hI h61 464 x1.toNat)), .int (J x1), rv 464] _ rfl rfl ?_
                            refine r_ishl (pc1 := 139) rfl rfl ?_
                            refine r_goto (t := 143) rfl rfl ?_
                            exact Q69  (ishl 1 x59)  (rgt _) w
                        obtain ⟨J73, j73, w⟩ := w
                        have Q73 : J73 → RR sc goal fs 203 120 [some (rv 437), some (rv p0), some (.int (J x1)), some (.int (J x52)), some (.int (J x53)), some (.int (J x59)), d60] [] h61 := by
                          intro z73
                          have w := j73 z73
                          refine r_n (pc1 := 121) [.int (J 0)] _ rfl rfl ?_
                          exact Q67  0  (rgk rfl) w
                        refine r_ic (t := 120) (pc1 := 79) rfl rfl rfl rx59 rx1 (fun c83 => ?_) (fun c83 => ?_)
                        · have w := w.1 c83
                          exact Q73     w
                        · have w := w.2 c83
                          refine r_aldn (pc1 := 80) rfl rfl rfl ?_
                          refine r_n (pc1 := 82) [.int (J x59), rv p0] _ rfl rfl ?_
                          obtain ⟨c74, w⟩ := w
                          obtain ⟨c75, w⟩ := w
                          refine r_ial (pc1 := 83) rfl rfl t61 c74 rx59 c75.1 c75.2 ?_
                          refine r_n (pc1 := 84) [.int (J (-1)), .int (J (hI h61 p0 x59.toNat))] _ rfl rfl ?_
                          refine r_ic (t := 120) (pc1 := 87) rfl rfl rfl (rgh _ _ _) (rgk rfl) (fun c82 => ?_) (fun c82 => ?_)
                          · have w := w.1 c82
                            exact Q73     w
                          · have w := w.2 c82
                            refine r_aldn (pc1 := 88) rfl rfl rfl ?_
                            refine r_aldn (pc1 := 89) rfl rfl rfl ?_
                            refine r_gfR (pc1 := 92) rfl rfl rfl t61 (lyk t61 rfl) rfl rfl ?_
                            refine r_aldn (pc1 := 93) rfl rfl rfl ?_
                            refine r_n (pc1 := 94) [.int (J x52), rv 437, rv (hR h61 437 6), rv 437] _ rfl rfl ?_
                            refine r_n (pc1 := 96) [.int (J 8), .int (J x52), rv 437, rv (hR h61 437 6), rv 437] _ rfl rfl ?_
                            refine r_n (pc1 := 98) [.int (J x53), .int (J 8), .int (J x52), rv 437, rv (hR h61 437 6), rv 437] _ rfl rfl ?_
                            refine r_iadd (pc1 := 99) rfl rfl ?_
                            refine r_iv rfl rfl rfl rfl rfl rfl t61 (lyk t61 rfl) rfl (xe_of (xa_r (xa_i (xa_i xa_0))) rfl rfl) (r_d0 hd rfl) (a_X14_ver x52 (wr (8 + x53)) (r_d1 hd rfl) rx52 (rgw _) w t61 (fun x76 rx76 w => ?_))
                            refine r_fI (pc1 := 102) rfl ?_
                            have w := w rx76
                            obtain ⟨c77, w⟩ := w
                            obtain ⟨c78, w⟩ := w
                            refine r_aal (pc1 := 103) (u := 6) rfl rfl t61 c77 rfl rfl rx76 c78.1 c78.2 ?_
                            refine r_aldn (pc1 := 104) rfl rfl rfl ?_
                            refine r_aldn (pc1 := 105) rfl rfl rfl ?_
                            refine r_n (pc1 := 107) [.int (J x59), rv p0, rv 437, rv (hR h61 (hR h61 437 6) x76.toNat), rv 437] _ rfl rfl ?_
                            refine r_iv rfl rfl rfl rfl rfl rfl t61 (lyk t61 rfl) rfl (xe_of (xa_r (xa_r (xa_i xa_0))) rfl rfl) (r_d0 hd rfl) (a_X14_slotIn p0 x59 (r_d1 hd rfl) rx59 w t61 (fun x79 rx79 w => ?_))
                            refine r_fI (pc1 := 110) rfl ?_
                            have w := w rx79
                            refine r_iv rfl rfl rfl rfl rfl rfl t61 (lyk t61 rfl) rfl (xe_of (xa_r (xa_r (xa_i xa_0))) rfl rfl) (r_d0 hd rfl) (a_X14_meets (hR h61 (hR h61 437 6) x76.toNat) x79 (r_d1 hd rfl) rx79 w t61 (fun x80 rx80 vx80 w => ?_))
                            refine r_fI (pc1 := 113) rfl ?_
                            have w := w rx80 vx80
                            refine r_iz (t := 120) (pc1 := 116) rfl rfl rfl rx80 (fun c81 => ?_) (fun c81 => ?_)
                            · have w := w.1 c81
                              exact Q73     w
                            · have w := w.2 c81
                              refine r_n (pc1 := 117) [.int (J 1)] _ rfl rfl ?_
                              refine r_goto (t := 121) rfl rfl ?_
                              exact Q67  1  (rgk rfl) w
                exact Q62 _ _ 0 h56 t56 s56 (rgk rfl) (Nat.lt_succ_self _) w
          exact Q57 _ _ _ 0 h42 t42 s42 (rgk rfl) (Nat.lt_succ_self _) w
        · have w := w.2 c87
          refine r_goto (t := 157) rfl rfl ?_
          exact Q50 _ _ _ _  h42 t42 s42  w
  exact Q7 _ _ _ _ _ 0 h t0 (HX_refl h) (rgk rfl) (Nat.lt_succ_self _) w
def w_X14_coming (p0 : Nat) (p1 : Nat) (K : Nat → XH → Prop) (h : XH) : Prop :=
  (∀ (a1 : Nat) (h2 : XH), a1 = h.length → h2 = nA h 0 12 → HT h2 → HX h h2 → hk h2 a1 = 100 → hn h2 a1 = 12 → (∃ (I7 : Int → Int → XH → Prop) (m7 : Int → Int → XH → Nat), I7 0 0 h2 ∧ ∀ (x3 : Int) (x4 : Int) (h6 : XH), HT h6 → HX h h6 → rg x3 → rg x4 → I7 x3 x4 h6 → (((hI h6 437 61 ≤ x4 → ((0 ≤ x3 ∧ x3 < 67108864) ∧ ∀ (a9 : Nat) (h10 : XH), a9 = h6.length → h10 = nA h6 0 x3.toNat → HT h10 → HX h6 h10 → hk h10 a9 = 100 → hn h10 a9 = x3.toNat → hk h10 a1 = 100 ∧ (¬ a1 = a9 ∧ (0 : Int) ≤ 0 ∧ (0 : Int) ≤ 0 ∧ (0 : Int) ≤ x3 ∧ ((0 + x3 : Int)) ≤ (hn h10 a1 : Int) ∧ ((0 + x3 : Int)) ≤ (hn h10 a9 : Int)) ∧ ∀ h13 : XH, h13 = cA h10 a1 0 a9 0 x3.toNat → HT h13 → HX h10 h13 → K a9 h13)) ∧ (¬ (hI h6 437 61 ≤ x4) → ((0 ≤ x4 ∧ x4 < 12) ∧ ∀ x15 : Int, x15 = hI h6 465 x4.toNat → rg x15 → w_X14_codeIn p0 x15 (fun x16 => rg x16 → (w_X14_codeIn p1 x15 (fun x17 => rg x17 → (∃ J20 : Int → XH → Prop, (∀ (x18 : Int) (h19 : XH), HT h19 → HX h h19 → rg x18 → J20 x18 h19 → (∀ x21 : Int, x21 = wr (x4 + 1) → rg x21 → (I7 x18 x21 h19 ∧ m7 x18 x21 h19 < m7 x3 x4 h6))) ∧ ((x16 = x17 → J20 x3 h6) ∧ (¬ (x16 = x17) → (hk h6 a1 = 100 ∧ (0 ≤ x3 ∧ x3 < (hn h6 a1 : Int)) ∧ ∀ h24 : XH, h24 = sI h6 a1 x3.toNat x15 → HT h24 → HX h6 h24 → ∀ x25 : Int, x25 = wr (x3 + 1) → rg x25 → J20 x25 h24))))) h6)) h6))))))
set_option maxHeartbeats 4000000 in
theorem a_X14_coming {sc : Nat × (Nat → Int32)} {goal : XO → XH → Prop} {fs : List XF} {h : XH} (p0 : Nat) (p1 : Nat) {K : Nat → XH → Prop} (hd : fs.length + 1 ≤ 1000) (w : w_X14_coming p0 p1 K h) (t0 : HT h) (k : ∀ (r : Nat) (h1 : XH), HT h1 → HX h h1 → K r h1 → XFin xP sc goal fs (.inl (some (rv r))) h1) : RR sc goal fs 186 0 [some (rv 437), some (rv p0), some (rv p1), none, none, none, none] [] h := by
  unfold w_X14_coming at w
  refine r_n (pc1 := 2) [.int (J 12)] _ rfl rfl ?_
  refine r_na (pc1 := 4) (u := 0) (m := 2) rfl rfl rfl t0 rfl (rgk rfl) (by decide) (by decide) (fun a1 h2 ea1 eh2 t2 u2 ca1 la1 => ?_)
  have w := w a1 h2 ea1 eh2 t2 u2 ca1 la1
  have s2 := HX_trans (HX_refl h) u2
  refine r_astn (pc1 := 5) (ls1 := [some (rv 437), some (rv p0), some (rv p1), some (rv a1), none, none, none]) rfl rfl rfl (xput1_rv rfl rfl) ?_
  refine r_n (pc1 := 6) [.int (J 0)] _ rfl rfl ?_
  refine r_ist (pc1 := 8) (ls1 := [some (rv 437), some (rv p0), some (rv p1), some (rv a1), some (.int (J 0)), none, none]) rfl rfl rfl (xput1_rv rfl rfl) ?_
  refine r_n (pc1 := 9) [.int (J 0)] _ rfl rfl ?_
  refine r_ist (pc1 := 11) (ls1 := [some (rv 437), some (rv p0), some (rv p1), some (rv a1), some (.int (J 0)), some (.int (J 0)), none]) rfl rfl rfl rfl ?_
  obtain ⟨I7, m7, w, y7⟩ := w
  have Q7 : ∀ (n : Nat) (d5 : Option Value) (x3 : Int) (x4 : Int) (h6 : XH), HT h6 → HX h h6 → rg x3 → rg x4 → m7 x3 x4 h6 < n → I7 x3 x4 h6 → RR sc goal fs 186 11 [some (rv 437), some (rv p0), some (rv p1), some (rv a1), some (.int (J x3)), some (.int (J x4)), d5] [] h6 := by
    intro n
    induction n with
    | zero => intro d5 x3 x4 h6 t6 s6 rx3 rx4 q7 _; exact absurd q7 (Nat.not_lt_zero _)
    | succ n ih7 =>
      intro d5 x3 x4 h6 t6 s6 rx3 rx4 q7 z7
      have w := y7 x3 x4 h6 t6 s6 rx3 rx4 z7
      refine r_n (pc1 := 13) [.int (J x4)] _ rfl rfl ?_
      refine r_aldn (pc1 := 14) rfl rfl rfl ?_
      refine r_gfI (pc1 := 17) rfl rfl rfl t6 (lyk t6 rfl) rfl rfl ?_
      refine r_ic (t := 59) (pc1 := 20) rfl rfl rfl rx4 (rgh _ _ _) (fun c27 => ?_) (fun c27 => ?_)
      · have w := w.1 c27
        refine r_n (pc1 := 61) [.int (J x3)] _ rfl rfl ?_
        obtain ⟨c8, w⟩ := w
        refine r_na (pc1 := 63) (u := 0) (m := 2) rfl rfl rfl t6 rfl rx3 c8.1 c8.2 (fun a9 h10 ea9 eh10 t10 u10 ca9 la9 => ?_)
        have w := w a9 h10 ea9 eh10 t10 u10 ca9 la9
        have s10 := HX_trans s6 u10
        refine r_ast (pc1 := 65) (ls1 := [some (rv 437), some (rv p0), some (rv p1), some (rv a1), some (.int (J x3)), some (rv a9), d5]) rfl rfl rfl rfl ?_
        refine r_aldn (pc1 := 66) rfl rfl rfl ?_
        refine r_n (pc1 := 67) [.int (J 0), rv a1] _ rfl rfl ?_
        refine r_ald (pc1 := 69) rfl rfl rfl ?_
        refine r_n (pc1 := 70) [.int (J 0), rv a9, .int (J 0), rv a1] _ rfl rfl ?_
        refine r_n (pc1 := 72) [.int (J x3), .int (J 0), rv a9, .int (J 0), rv a1] _ rfl rfl ?_
        obtain ⟨c11, w⟩ := w
        obtain ⟨c12, w⟩ := w
        refine r_cp (pc1 := 75) (u := 0) rfl rfl rfl rfl t10 c11 ca9 (by decide) (rgk rfl) (rgk rfl) rx3 rfl rfl c12 (fun h13 eh13 t13 u13 => ?_)
        have w := w h13 eh13 t13 u13
        have s13 := HX_trans s10 u13
        refine r_ald (pc1 := 77) rfl rfl rfl ?_
        exact r_retR rfl rfl rfl xok_A xokr_A (k _ _ t13 s13 w)
      · have w := w.2 c27
        refine r_aldn (pc1 := 21) rfl rfl rfl ?_
        refine r_gfC (pc1 := 24) (q := 465) rfl rfl rfl t6 (lyk t6 rfl) rfl rfl (lyR t6 rfl rfl) ?_
        refine r_n (pc1 := 26) [.int (J x4), rv 465] _ rfl rfl ?_
        obtain ⟨c14, w⟩ := w
        refine r_ial (pc1 := 27) rfl rfl t6 (lyk t6 rfl) rx4 c14.1 (lt_len (lyn t6 rfl) c14.2) ?_
        refine r_vI (rgh _ _ _) (fun x15 ex15 rx15 => ?_)
        have w := w x15 ex15 rx15
        refine r_ist (pc1 := 29) (ls1 := [some (rv 437), some (rv p0), some (rv p1), some (rv a1), some (.int (J x3)), some (.int (J x4)), some (.int (J x15))]) rfl rfl rfl rfl ?_
        refine r_aldn (pc1 := 30) rfl rfl rfl ?_
        refine r_n (pc1 := 32) [.int (J x15), rv p0] _ rfl rfl ?_
        refine r_iq rfl rfl rfl rfl rfl rfl (xe_of (xa_r (xa_i xa_0)) rfl rfl) (r_d0 hd rfl) (a_X14_codeIn p0 x15 (r_d1 hd rfl) rx15 w t6 (fun x16 rx16 w => ?_))
        refine r_fI (pc1 := 35) rfl ?_
        have w := w rx16
        refine r_aldn (pc1 := 36) rfl rfl rfl ?_
        refine r_n (pc1 := 38) [.int (J x15), rv p1, .int (J x16)] _ rfl rfl ?_
        refine r_iq rfl rfl rfl rfl rfl rfl (xe_of (xa_r (xa_i xa_0)) rfl rfl) (r_d0 hd rfl) (a_X14_codeIn p1 x15 (r_d1 hd rfl) rx15 w t6 (fun x17 rx17 w => ?_))
        refine r_fI (pc1 := 41) rfl ?_
        have w := w rx17
        obtain ⟨J20, j20, w⟩ := w
        have Q20 : ∀ (x18 : Int) (h19 : XH), HT h19 → HX h h19 → rg x18 → J20 x18 h19 → RR sc goal fs 186 53 [some (rv 437), some (rv p0), some (rv p1), some (rv a1), some (.int (J x18)), some (.int (J x4)), some (.int (J x15))] [] h19 := by
          intro x18 h19 t19 s19 rx18 z20
          have w := j20 x18 h19 t19 s19 rx18 z20
          refine r_inc (pc1 := 56) (g := fun zz => [some (rv 437), some (rv p0), some (rv p1), some (rv a1), some (.int (J x18)), some (.int (J zz)), some (.int (J x15))]) rfl rfl rfl rfl (fun _ => rfl) (fun x21 ex21 rx21 => ?_)
          have w := w x21 ex21 rx21
          refine r_goto (t := 11) rfl rfl ?_
          exact ih7 _ x18 x21 h19 t19 s19 rx18 rx21 (Nat.lt_of_lt_of_le w.2 (Nat.le_of_lt_succ q7)) w.1
        refine r_ic (t := 53) (pc1 := 44) rfl rfl rfl rx16 rx17 (fun c26 => ?_) (fun c26 => ?_)
        · have w := w.1 c26
          exact Q20  x3 h6 t6 s6 rx3 w
        · have w := w.2 c26
          refine r_aldn (pc1 := 45) rfl rfl rfl ?_
          refine r_n (pc1 := 47) [.int (J x3), rv a1] _ rfl rfl ?_
          refine r_n (pc1 := 49) [.int (J x15), .int (J x3), rv a1] _ rfl rfl ?_
          obtain ⟨c22, w⟩ := w
          obtain ⟨c23, w⟩ := w
          refine r_iast (pc1 := 50) rfl rfl t6 c22 rx3 c23.1 c23.2 (fun h24 eh24 t24 u24 => ?_)
          have w := w h24 eh24 t24 u24
          have s24 := HX_trans s6 u24
          refine r_inc (pc1 := 53) (g := fun zz => [some (rv 437), some (rv p0), some (rv p1), some (rv a1), some (.int (J zz)), some (.int (J x4)), some (.int (J x15))]) rfl rfl rfl rfl (fun _ => xput1_rv rfl rfl) (fun x25 ex25 rx25 => ?_)
          have w := w x25 ex25 rx25
          exact Q20  x25 h24 t24 s24 rx25 w
  exact Q7 _ _ 0 0 h2 t2 s2 (rgk rfl) (rgk rfl) (Nat.lt_succ_self _) w
def w_X14_fetches  (K : Int → XH → Prop) (h : XH) : Prop :=
  (∀ h1 : XH, h1 = sI h 437 5 0 → HT h1 → HX h h1 → w_X14_goalSet (fun a2 h3 => HT h3 → HX h1 h3 → (w_X14_findScripts a2 (fun h4 => HT h4 → HX h3 h4 → (∃ J7 : Int → XH → Prop, (∀ (x5 : Int) (h6 : XH), HT h6 → HX h h6 → rg x5 → J7 x5 h6 → (K x5 h6)) ∧ ((0 ≤ hI h4 437 61 → (w_X14_installedSet (fun a8 h9 => HT h9 → HX h4 h9 → (w_X14_coming a2 a8 (fun a10 h11 => HT h11 → HX h9 h11 → (hk h11 a10 = 100 ∧ (hn h11 a10 : Int) < 2147483648 ∧ J7 (hn h11 a10 : Int) h11)) h9)) h4)) ∧ (¬ (0 ≤ hI h4 437 61) → (J7 (-1) h4))))) h3)) h1)
set_option maxHeartbeats 4000000 in
theorem a_X14_fetches {sc : Nat × (Nat → Int32)} {goal : XO → XH → Prop} {fs : List XF} {h : XH}  {K : Int → XH → Prop} (hd : fs.length + 5 ≤ 1000) (w : w_X14_fetches  K h) (t0 : HT h) (k : ∀ (r : Int) (h1 : XH), HT h1 → HX h h1 → rg r → K r h1 → XFin xP sc goal fs (.inl (some (.int (J r)))) h1) : RR sc goal fs 199 0 [some (rv 437), none] [] h := by
  unfold w_X14_fetches at w
  refine r_aldn (pc1 := 1) rfl rfl rfl ?_
  refine r_n (pc1 := 2) [.int (J 0), rv 437] _ rfl rfl ?_
  refine r_pfI (pc1 := 5) rfl rfl rfl t0 (lyk t0 rfl) rfl rfl rfl (fun h1 eh1 t1 u1 => ?_)
  have w := w h1 eh1 t1 u1
  have s1 := HX_trans (HX_refl h) u1
  refine r_aldn (pc1 := 6) rfl rfl rfl ?_
  refine r_iv rfl rfl rfl rfl rfl rfl t1 (lyk t1 rfl) rfl (xe_of (xa_r xa_0) rfl rfl) (r_d0 hd rfl) (a_X14_goalSet  (r_d1 hd rfl)  w t1 (fun a2 h3 t3 u3 w => ?_))
  refine r_fR (pc1 := 9) rfl ?_
  have s3 := HX_trans s1 u3
  have w := w t3 u3
  refine r_astn (pc1 := 10) (ls1 := [some (rv 437), some (rv a2)]) rfl rfl rfl rfl ?_
  refine r_aldn (pc1 := 11) rfl rfl rfl ?_
  refine r_aldn (pc1 := 12) rfl rfl rfl ?_
  refine r_iv rfl rfl rfl rfl rfl rfl t3 (lyk t3 rfl) rfl (xe_of (xa_r (xa_r xa_0)) rfl rfl) (r_d0 hd rfl) (a_X14_findScripts a2 (r_d1 hd rfl)  w t3 (fun h4 t4 u4 w => ?_))
  refine r_fV (pc1 := 15) rfl ?_
  have s4 := HX_trans s3 u4
  have w := w t4 u4
  refine r_aldn (pc1 := 16) rfl rfl rfl ?_
  refine r_gfI (pc1 := 19) rfl rfl rfl t4 (lyk t4 rfl) rfl rfl ?_
  obtain ⟨J7, j7, w⟩ := w
  have Q7 : ∀ (x5 : Int) (h6 : XH), HT h6 → HX h h6 → rg x5 → J7 x5 h6 → RR sc goal fs 199 36 [some (rv 437), some (rv a2)] [.int (J x5)] h6 := by
    intro x5 h6 t6 s6 rx5 z7
    have w := j7 x5 h6 t6 s6 rx5 z7
    exact r_retI rfl rfl rfl (k _ _ t6 s6 rx5 w)
  refine r_iz (t := 26) (pc1 := 22) rfl rfl rfl (rgh _ _ _) (fun c14 => ?_) (fun c14 => ?_)
  · have w := w.1 c14
    refine r_aldn (pc1 := 27) rfl rfl rfl ?_
    refine r_aldn (pc1 := 28) rfl rfl rfl ?_
    refine r_aldn (pc1 := 29) rfl rfl rfl ?_
    refine r_iv rfl rfl rfl rfl rfl rfl t4 (lyk t4 rfl) rfl (xe_of (xa_r xa_0) rfl rfl) (r_d0 hd rfl) (a_X14_installedSet  (r_d1 hd rfl)  w t4 (fun a8 h9 t9 u9 w => ?_))
    refine r_fR (pc1 := 32) rfl ?_
    have s9 := HX_trans s4 u9
    have w := w t9 u9
    refine r_iv rfl rfl rfl rfl rfl rfl t9 (lyk t9 rfl) rfl (xe_of (xa_r (xa_r (xa_r xa_0))) rfl rfl) (r_d0 hd rfl) (a_X14_coming a2 a8 (r_d1 hd rfl)  w t9 (fun a10 h11 t11 u11 w => ?_))
    refine r_fR (pc1 := 35) rfl ?_
    have s11 := HX_trans s9 u11
    have w := w t11 u11
    obtain ⟨c12, w⟩ := w
    obtain ⟨c13, w⟩ := w
    refine r_len (pc1 := 36) (u := 0) rfl rfl t11 c12 (by decide) (fun rc13 => ?_) c13
    exact Q7  (hn h11 a10 : Int) h11 t11 s11 rc13 w
  · have w := w.2 c14
    refine r_n (pc1 := 23) [.int (J (-1))] _ rfl rfl ?_
    refine r_goto (t := 36) rfl rfl ?_
    exact Q7  (-1) h4 t4 s4 (rgk rfl) w
def w_X14_mirrorFor (p0 : Int) (p1 : Int) (p2 : Int) (K : Int → XH → Prop) (h : XH) : Prop :=
  (∀ x1 : Int, x1 = hI h 438 3 → rg x1 → (∃ (I5 : Int → XH → Prop) (m5 : Int → XH → Nat), I5 0 h ∧ ∀ (x2 : Int) (h4 : XH), HT h4 → HX h h4 → rg x2 → I5 x2 h4 → (((x1 ≤ x2 → (K (-1) h4)) ∧ (¬ (x1 ≤ x2) → (¬ x1 = 0 ∧ ∀ x7 : Int, x7 = irem (wr (p1 + x2)) x1 → rg x7 → w_X14_offered x7 p0 (fun x8 => rg x8 → ((0 ≤ x8 ∧ x8 < 1957) ∧ ∃ J11 : XH → Prop, (∀ (h10 : XH), HT h10 → HX h h10 → J11 h10 → (∀ x12 : Int, x12 = wr (x2 + 1) → rg x12 → (I5 x12 h10 ∧ m5 x12 h10 < m5 x2 h4))) ∧ ((¬ hI h4 438 x8.toNat = 1 → J11 h4) ∧ (¬ (¬ hI h4 438 x8.toNat = 1) → (w_X14_offered x7 p0 (fun x13 => rg x13 → (∀ x14 : Int, x14 = wr (x13 + 1) → rg x14 → (0 ≤ x14 ∧ x14 < 1957) ∧ w_X14_ver p0 4 (fun x16 => rg x16 → (((¬ hI h4 438 x14.toNat = x16 → (∀ x17 : Int, x17 = wr (1714 + (wr (81 * x7))) → rg x17 → (0 ≤ x17 ∧ x17 < 1957) ∧ ∃ J20 : Int → Prop, (∀ (x19 : Int), rg x19 → J20 x19 → (∀ h21 : XH, h21 = sI h4 438 x17.toNat (wr ((hI h4 438 x17.toNat) + x19)) → HT h21 → HX h4 h21 → J11 h21)) ∧ ((p2 = 0 → (J20 0)) ∧ (¬ (p2 = 0) → (J20 1))))) ∧ (¬ (¬ hI h4 438 x14.toNat = x16) → (K x7 h4))))) h4)) h4))))) h4))))))
set_option maxHeartbeats 4000000 in
theorem a_X14_mirrorFor {sc : Nat × (Nat → Int32)} {goal : XO → XH → Prop} {fs : List XF} {h : XH} (p0 : Int) (p1 : Int) (p2 : Int) {K : Int → XH → Prop} (hd : fs.length + 1 ≤ 1000) (rp0 : rg p0) (rp1 : rg p1) (rp2 : rg p2) (w : w_X14_mirrorFor p0 p1 p2 K h) (t0 : HT h) (k : ∀ (r : Int) (h1 : XH), HT h1 → HX h h1 → rg r → K r h1 → XFin xP sc goal fs (.inl (some (.int (J r)))) h1) : RR sc goal fs 257 0 [some (rv 437), some (.int (J p0)), some (.int (J p1)), some (.int (J p2)), none, none, none] [] h := by
  unfold w_X14_mirrorFor at w
  refine r_aldn (pc1 := 1) rfl rfl rfl ?_
  refine r_gfC (pc1 := 4) (q := 438) rfl rfl rfl t0 (lyk t0 rfl) rfl rfl (lyR t0 rfl rfl) ?_
  refine r_n (pc1 := 5) [.int (J 3), rv 438] _ rfl rfl ?_
  refine r_ial (pc1 := 6) rfl rfl t0 (lyk t0 rfl) (rgk rfl) (by decide) (lt_len (lyn t0 rfl) (by decide)) ?_
  refine r_vI (rgh _ _ _) (fun x1 ex1 rx1 => ?_)
  have w := w x1 ex1 rx1
  refine r_ist (pc1 := 8) (ls1 := [some (rv 437), some (.int (J p0)), some (.int (J p1)), some (.int (J p2)), some (.int (J x1)), none, none]) rfl rfl rfl rfl ?_
  refine r_n (pc1 := 9) [.int (J 0)] _ rfl rfl ?_
  refine r_ist (pc1 := 11) (ls1 := [some (rv 437), some (.int (J p0)), some (.int (J p1)), some (.int (J p2)), some (.int (J x1)), some (.int (J 0)), none]) rfl rfl rfl rfl ?_
  obtain ⟨I5, m5, w, y5⟩ := w
  have Q5 : ∀ (n : Nat) (d3 : Option Value) (x2 : Int) (h4 : XH), HT h4 → HX h h4 → rg x2 → m5 x2 h4 < n → I5 x2 h4 → RR sc goal fs 257 11 [some (rv 437), some (.int (J p0)), some (.int (J p1)), some (.int (J p2)), some (.int (J x1)), some (.int (J x2)), d3] [] h4 := by
    intro n
    induction n with
    | zero => intro d3 x2 h4 t4 s4 rx2 q5 _; exact absurd q5 (Nat.not_lt_zero _)
    | succ n ih5 =>
      intro d3 x2 h4 t4 s4 rx2 q5 z5
      have w := y5 x2 h4 t4 s4 rx2 z5
      refine r_n (pc1 := 13) [.int (J x2)] _ rfl rfl ?_
      refine r_n (pc1 := 15) [.int (J x1), .int (J x2)] _ rfl rfl ?_
      refine r_ic (t := 99) (pc1 := 18) rfl rfl rfl rx2 rx1 (fun c25 => ?_) (fun c25 => ?_)
      · have w := w.1 c25
        refine r_n (pc1 := 100) [.int (J (-1))] _ rfl rfl ?_
        exact r_retI rfl rfl rfl (k _ _ t4 s4 (rgk rfl) w)
      · have w := w.2 c25
        refine r_n (pc1 := 19) [.int (J p1)] _ rfl rfl ?_
        refine r_n (pc1 := 21) [.int (J x2), .int (J p1)] _ rfl rfl ?_
        refine r_iadd (pc1 := 22) rfl rfl ?_
        refine r_n (pc1 := 24) [.int (J x1), .int (J (wr (p1 + x2)))] _ rfl rfl ?_
        obtain ⟨c6, w⟩ := w
        refine r_irem (pc1 := 25) rfl rfl rx1 c6 ?_
        refine r_vI (rgt _) (fun x7 ex7 rx7 => ?_)
        have w := w x7 ex7 rx7
        refine r_ist (pc1 := 27) (ls1 := [some (rv 437), some (.int (J p0)), some (.int (J p1)), some (.int (J p2)), some (.int (J x1)), some (.int (J x2)), some (.int (J x7))]) rfl rfl rfl rfl ?_
        refine r_aldn (pc1 := 28) rfl rfl rfl ?_
        refine r_gfC (pc1 := 31) (q := 438) rfl rfl rfl t4 (lyk t4 rfl) rfl rfl (lyR t4 rfl rfl) ?_
        refine r_n (pc1 := 33) [.int (J x7), rv 438] _ rfl rfl ?_
        refine r_n (pc1 := 34) [.int (J p0), .int (J x7), rv 438] _ rfl rfl ?_
        refine r_iq rfl rfl rfl rfl rfl rfl (xe_of (xa_i (xa_i xa_0)) rfl rfl) (r_d0 hd rfl) (a_X14_offered x7 p0 (r_d1 hd rfl) rx7 rp0 w t4 (fun x8 rx8 w => ?_))
        refine r_fI (pc1 := 37) rfl ?_
        have w := w rx8
        obtain ⟨c9, w⟩ := w
        refine r_ial (pc1 := 38) rfl rfl t4 (lyk t4 rfl) rx8 c9.1 (lt_len (lyn t4 rfl) c9.2) ?_
        refine r_n (pc1 := 39) [.int (J 1), .int (J (hI h4 438 x8.toNat))] _ rfl rfl ?_
        obtain ⟨J11, j11, w⟩ := w
        have Q11 : ∀ (h10 : XH), HT h10 → HX h h10 → J11 h10 → RR sc goal fs 257 93 [some (rv 437), some (.int (J p0)), some (.int (J p1)), some (.int (J p2)), some (.int (J x1)), some (.int (J x2)), some (.int (J x7))] [] h10 := by
          intro h10 t10 s10 z11
          have w := j11 h10 t10 s10 z11
          refine r_inc (pc1 := 96) (g := fun zz => [some (rv 437), some (.int (J p0)), some (.int (J p1)), some (.int (J p2)), some (.int (J x1)), some (.int (J zz)), some (.int (J x7))]) rfl rfl rfl rfl (fun _ => rfl) (fun x12 ex12 rx12 => ?_)
          have w := w x12 ex12 rx12
          refine r_goto (t := 11) rfl rfl ?_
          exact ih5 _ x12 h10 t10 s10 rx12 (Nat.lt_of_lt_of_le w.2 (Nat.le_of_lt_succ q5)) w.1
        refine r_ic (t := 93) (pc1 := 42) rfl rfl rfl (rgh _ _ _) (rgk rfl) (fun c24 => ?_) (fun c24 => ?_)
        · have w := w.1 c24
          exact Q11   h4 t4 s4  w
        · have w := w.2 c24
          refine r_aldn (pc1 := 43) rfl rfl rfl ?_
          refine r_gfC (pc1 := 46) (q := 438) rfl rfl rfl t4 (lyk t4 rfl) rfl rfl (lyR t4 rfl rfl) ?_
          refine r_n (pc1 := 48) [.int (J x7), rv 438] _ rfl rfl ?_
          refine r_n (pc1 := 49) [.int (J p0), .int (J x7), rv 438] _ rfl rfl ?_
          refine r_iq rfl rfl rfl rfl rfl rfl (xe_of (xa_i (xa_i xa_0)) rfl rfl) (r_d0 hd rfl) (a_X14_offered x7 p0 (r_d1 hd rfl) rx7 rp0 w t4 (fun x13 rx13 w => ?_))
          refine r_fI (pc1 := 52) rfl ?_
          have w := w rx13
          refine r_n (pc1 := 53) [.int (J 1), .int (J x13), rv 438] _ rfl rfl ?_
          refine r_iadd (pc1 := 54) rfl rfl ?_
          refine r_vI (rgw _) (fun x14 ex14 rx14 => ?_)
          have w := w x14 ex14 rx14
          obtain ⟨c15, w⟩ := w
          refine r_ial (pc1 := 55) rfl rfl t4 (lyk t4 rfl) rx14 c15.1 (lt_len (lyn t4 rfl) c15.2) ?_
          refine r_aldn (pc1 := 56) rfl rfl rfl ?_
          refine r_n (pc1 := 57) [.int (J p0), rv 437, .int (J (hI h4 438 x14.toNat))] _ rfl rfl ?_
          refine r_n (pc1 := 58) [.int (J 4), .int (J p0), rv 437, .int (J (hI h4 438 x14.toNat))] _ rfl rfl ?_
          refine r_iv rfl rfl rfl rfl rfl rfl t4 (lyk t4 rfl) rfl (xe_of (xa_r (xa_i (xa_i xa_0))) rfl rfl) (r_d0 hd rfl) (a_X14_ver p0 4 (r_d1 hd rfl) rp0 (rgk rfl) w t4 (fun x16 rx16 w => ?_))
          refine r_fI (pc1 := 61) rfl ?_
          have w := w rx16
          refine r_ic (t := 67) (pc1 := 64) rfl rfl rfl (rgh _ _ _) rx16 (fun c23 => ?_) (fun c23 => ?_)
          · have w := w.1 c23
            refine r_aldn (pc1 := 68) rfl rfl rfl ?_
            refine r_gfC (pc1 := 71) (q := 438) rfl rfl rfl t4 (lyk t4 rfl) rfl rfl (lyR t4 rfl rfl) ?_
            refine r_n (pc1 := 74) [.int (J 1714), rv 438] _ rfl rfl ?_
            refine r_n (pc1 := 76) [.int (J 81), .int (J 1714), rv 438] _ rfl rfl ?_
            refine r_n (pc1 := 78) [.int (J x7), .int (J 81), .int (J 1714), rv 438] _ rfl rfl ?_
            refine r_imul (pc1 := 79) rfl rfl ?_
            refine r_iadd (pc1 := 80) rfl rfl ?_
            refine r_vI (rgw _) (fun x17 ex17 rx17 => ?_)
            have w := w x17 ex17 rx17
            refine r_dup2 (pc1 := 81) rfl rfl ?_
            obtain ⟨c18, w⟩ := w
            refine r_ial (pc1 := 82) rfl rfl t4 (lyk t4 rfl) rx17 c18.1 (lt_len (lyn t4 rfl) c18.2) ?_
            refine r_n (pc1 := 83) [.int (J p2), .int (J (hI h4 438 x17.toNat)), .int (J x17), rv 438] _ rfl rfl ?_
            obtain ⟨J20, j20, w⟩ := w
            have Q20 : ∀ (x19 : Int), rg x19 → J20 x19 → RR sc goal fs 257 91 [some (rv 437), some (.int (J p0)), some (.int (J p1)), some (.int (J p2)), some (.int (J x1)), some (.int (J x2)), some (.int (J x7))] [.int (J x19), .int (J (hI h4 438 x17.toNat)), .int (J x17), rv 438] h4 := by
              intro x19 rx19 z20
              have w := j20 x19 rx19 z20
              refine r_iadd (pc1 := 92) rfl rfl ?_
              refine r_iast (pc1 := 93) rfl rfl t4 (lyk t4 rfl) rx17 c18.1 (lt_len (lyn t4 rfl) c18.2) (fun h21 eh21 t21 u21 => ?_)
              have w := w h21 eh21 t21 u21
              have s21 := HX_trans s4 u21
              exact Q11   h21 t21 s21  w
            refine r_iz (t := 90) (pc1 := 86) rfl rfl rfl rp2 (fun c22 => ?_) (fun c22 => ?_)
            · have w := w.1 c22
              refine r_n (pc1 := 91) [.int (J 0), .int (J (hI h4 438 x17.toNat)), .int (J x17), rv 438] _ rfl rfl ?_
              exact Q20  0  (rgk rfl) w
            · have w := w.2 c22
              refine r_n (pc1 := 87) [.int (J 1), .int (J (hI h4 438 x17.toNat)), .int (J x17), rv 438] _ rfl rfl ?_
              refine r_goto (t := 91) rfl rfl ?_
              exact Q20  1  (rgk rfl) w
          · have w := w.2 c23
            refine r_n (pc1 := 66) [.int (J x7)] _ rfl rfl ?_
            exact r_retI rfl rfl rfl (k _ _ t4 s4 rx7 w)
  exact Q5 _ _ 0 h t0 (HX_refl h) (rgk rfl) (Nat.lt_succ_self _) w
def w_X14_fetchAt (p0 : Int) (p1 : Int) (K : Int → XH → Prop) (h : XH) : Prop :=
  (∀ h1 : XH, h1 = sI h 437 5 0 → HT h1 → HX h h1 → w_X14_goalSet (fun a2 h3 => HT h3 → HX h1 h3 → (w_X14_findScripts a2 (fun h4 => HT h4 → HX h3 h4 → (∃ J6 : Int → Prop, (∀ (x5 : Int), rg x5 → J6 x5 → (w_X14_refused x5 1 (fun x7 h8 => HT h8 → HX h4 h8 → rg x7 → (x7 = 0 ∨ x7 = 1) → (((x7 = 0 → (w_X14_installedSet (fun a9 h10 => HT h10 → HX h8 h10 → (w_X14_coming a2 a9 (fun a11 h12 => HT h12 → HX h10 h12 → (hk h12 a11 = 100 ∧ (hn h12 a11 : Int) < 2147483648 ∧ w_X14_within p0 0 (wr ((hn h12 a11 : Int) - 1)) (fun x15 => rg x15 → (x15 = 0 ∨ x15 = 1) → (w_X14_refused x15 2 (fun x16 h17 => HT h17 → HX h12 h17 → rg x16 → (x16 = 0 ∨ x16 = 1) → (((x16 = 0 → (((¬ p1 = 0 → (∀ x18 : Int, x18 = hI h17 438 2 → rg x18 → (∃ (I23 : Int → Int → Int → XH → Prop) (m23 : Int → Int → Int → XH → Nat), I23 x18 (-1) 0 h17 ∧ ∀ (x19 : Int) (x20 : Int) (x21 : Int) (h22 : XH), HT h22 → HX h h22 → rg x19 → rg x20 → rg x21 → I23 x19 x20 x21 h22 → (((p0 < x21 → (K x20 h22)) ∧ (¬ (p0 < x21) → (hk h22 a11 = 100 ∧ (0 ≤ x21 ∧ x21 < (hn h22 a11 : Int)) ∧ w_X14_slotIn a2 (hI h22 a11 x21.toNat) (fun x26 => rg x26 → (w_X14_mirrorFor x26 x19 0 (fun x27 h28 => HT h28 → HX h22 h28 → rg x27 → (∃ J30 : Int → Prop, (∀ (x29 : Int), rg x29 → J30 x29 → (∀ x31 : Int, x31 = wr (x19 + x29) → rg x31 → ∀ x32 : Int, x32 = wr (x21 + 1) → rg x32 → (I23 x31 x27 x32 h28 ∧ m23 x31 x27 x32 h28 < m23 x19 x20 x21 h22))) ∧ ((¬ x27 = (-1) → (J30 1)) ∧ (¬ (¬ x27 = (-1)) → (J30 0))))) h22)) h22))))))) ∧ (¬ (¬ p1 = 0) → ((0 ≤ p0 ∧ p0 < (hn h17 a11 : Int)) ∧ K (hI h17 a11 p0.toNat) h17))))) ∧ (¬ (x16 = 0) → (K 0 h17))))) h12)) h12)) h10)) h8)) ∧ (¬ (x7 = 0) → (K 0 h8))))) h4)) ∧ ((hI h4 437 61 < 0 → (J6 0)) ∧ (¬ (hI h4 437 61 < 0) → (J6 1))))) h3)) h1)
set_option maxHeartbeats 4000000 in
theorem a_X14_fetchAt {sc : Nat × (Nat → Int32)} {goal : XO → XH → Prop} {fs : List XF} {h : XH} (p0 : Int) (p1 : Int) {K : Int → XH → Prop} (hd : fs.length + 5 ≤ 1000) (rp0 : rg p0) (rp1 : rg p1) (w : w_X14_fetchAt p0 p1 K h) (t0 : HT h) (k : ∀ (r : Int) (h1 : XH), HT h1 → HX h h1 → rg r → K r h1 → XFin xP sc goal fs (.inl (some (.int (J r)))) h1) : RR sc goal fs 198 0 [some (rv 437), some (.int (J p0)), some (.int (J p1)), none, none, none, none, none] [] h := by
  unfold w_X14_fetchAt at w
  refine r_aldn (pc1 := 1) rfl rfl rfl ?_
  refine r_n (pc1 := 2) [.int (J 0), rv 437] _ rfl rfl ?_
  refine r_pfI (pc1 := 5) rfl rfl rfl t0 (lyk t0 rfl) rfl rfl rfl (fun h1 eh1 t1 u1 => ?_)
  have w := w h1 eh1 t1 u1
  have s1 := HX_trans (HX_refl h) u1
  refine r_aldn (pc1 := 6) rfl rfl rfl ?_
  refine r_iv rfl rfl rfl rfl rfl rfl t1 (lyk t1 rfl) rfl (xe_of (xa_r xa_0) rfl rfl) (r_d0 hd rfl) (a_X14_goalSet  (r_d1 hd rfl)  w t1 (fun a2 h3 t3 u3 w => ?_))
  refine r_fR (pc1 := 9) rfl ?_
  have s3 := HX_trans s1 u3
  have w := w t3 u3
  refine r_astn (pc1 := 10) (ls1 := [some (rv 437), some (.int (J p0)), some (.int (J p1)), some (rv a2), none, none, none, none]) rfl rfl rfl rfl ?_
  refine r_aldn (pc1 := 11) rfl rfl rfl ?_
  refine r_aldn (pc1 := 12) rfl rfl rfl ?_
  refine r_iv rfl rfl rfl rfl rfl rfl t3 (lyk t3 rfl) rfl (xe_of (xa_r (xa_r xa_0)) rfl rfl) (r_d0 hd rfl) (a_X14_findScripts a2 (r_d1 hd rfl)  w t3 (fun h4 t4 u4 w => ?_))
  refine r_fV (pc1 := 15) rfl ?_
  have s4 := HX_trans s3 u4
  have w := w t4 u4
  refine r_aldn (pc1 := 16) rfl rfl rfl ?_
  refine r_aldn (pc1 := 17) rfl rfl rfl ?_
  refine r_gfI (pc1 := 20) rfl rfl rfl t4 (lyk t4 rfl) rfl rfl ?_
  obtain ⟨J6, j6, w⟩ := w
  have Q6 : ∀ (x5 : Int), rg x5 → J6 x5 → RR sc goal fs 198 28 [some (rv 437), some (.int (J p0)), some (.int (J p1)), some (rv a2), none, none, none, none] [.int (J x5), rv 437] h4 := by
    intro x5 rx5 z6
    have w := j6 x5 rx5 z6
    refine r_n (pc1 := 29) [.int (J 1), .int (J x5), rv 437] _ rfl rfl ?_
    refine r_iv rfl rfl rfl rfl rfl rfl t4 (lyk t4 rfl) rfl (xe_of (xa_r (xa_i (xa_i xa_0))) rfl rfl) (r_d0 hd rfl) (a_X14_refused x5 1 (r_d1 hd rfl) rx5 (rgk rfl) w t4 (fun x7 h8 t8 u8 rx7 vx7 w => ?_))
    refine r_fI (pc1 := 32) rfl ?_
    have s8 := HX_trans s4 u8
    have w := w t8 u8
    have w := w rx7 vx7
    refine r_iz (t := 37) (pc1 := 35) rfl rfl rfl rx7 (fun c38 => ?_) (fun c38 => ?_)
    · have w := w.1 c38
      refine r_aldn (pc1 := 38) rfl rfl rfl ?_
      refine r_aldn (pc1 := 39) rfl rfl rfl ?_
      refine r_aldn (pc1 := 40) rfl rfl rfl ?_
      refine r_iv rfl rfl rfl rfl rfl rfl t8 (lyk t8 rfl) rfl (xe_of (xa_r xa_0) rfl rfl) (r_d0 hd rfl) (a_X14_installedSet  (r_d1 hd rfl)  w t8 (fun a9 h10 t10 u10 w => ?_))
      refine r_fR (pc1 := 43) rfl ?_
      have s10 := HX_trans s8 u10
      have w := w t10 u10
      refine r_iv rfl rfl rfl rfl rfl rfl t10 (lyk t10 rfl) rfl (xe_of (xa_r (xa_r (xa_r xa_0))) rfl rfl) (r_d0 hd rfl) (a_X14_coming a2 a9 (r_d1 hd rfl)  w t10 (fun a11 h12 t12 u12 w => ?_))
      refine r_fR (pc1 := 46) rfl ?_
      have s12 := HX_trans s10 u12
      have w := w t12 u12
      refine r_ast (pc1 := 48) (ls1 := [some (rv 437), some (.int (J p0)), some (.int (J p1)), some (rv a2), some (rv a11), none, none, none]) rfl rfl rfl (xput1_rv rfl rfl) ?_
      refine r_aldn (pc1 := 49) rfl rfl rfl ?_
      refine r_n (pc1 := 50) [.int (J p0), rv 437] _ rfl rfl ?_
      refine r_n (pc1 := 51) [.int (J 0), .int (J p0), rv 437] _ rfl rfl ?_
      refine r_ald (pc1 := 53) rfl rfl rfl ?_
      obtain ⟨c13, w⟩ := w
      obtain ⟨c14, w⟩ := w
      refine r_len (pc1 := 54) (u := 0) rfl rfl t12 c13 (by decide) (fun rc14 => ?_) c14
      refine r_n (pc1 := 55) [.int (J 1), .int (J (hn h12 a11 : Int)), .int (J 0), .int (J p0), rv 437] _ rfl rfl ?_
      refine r_isub (pc1 := 56) rfl rfl ?_
      refine r_iq rfl rfl rfl rfl rfl rfl (xe_of (xa_i (xa_i (xa_i xa_0))) rfl rfl) (r_d0 hd rfl) (a_X14_within p0 0 (wr ((hn h12 a11 : Int) - 1)) (r_d1 hd rfl) rp0 (rgk rfl) (rgw _) w t12 (fun x15 rx15 vx15 w => ?_))
      refine r_fI (pc1 := 59) rfl ?_
      have w := w rx15 vx15
      refine r_n (pc1 := 60) [.int (J 2), .int (J x15), rv 437] _ rfl rfl ?_
      refine r_iv rfl rfl rfl rfl rfl rfl t12 (lyk t12 rfl) rfl (xe_of (xa_r (xa_i (xa_i xa_0))) rfl rfl) (r_d0 hd rfl) (a_X14_refused x15 2 (r_d1 hd rfl) rx15 (rgk rfl) w t12 (fun x16 h17 t17 u17 rx16 vx16 w => ?_))
      refine r_fI (pc1 := 63) rfl ?_
      have s17 := HX_trans s12 u17
      have w := w t17 u17
      have w := w rx16 vx16
      refine r_iz (t := 68) (pc1 := 66) rfl rfl rfl rx16 (fun c37 => ?_) (fun c37 => ?_)
      · have w := w.1 c37
        refine r_n (pc1 := 69) [.int (J p1)] _ rfl rfl ?_
        refine r_iz (t := 77) (pc1 := 72) rfl rfl rfl rp1 (fun c36 => ?_) (fun c36 => ?_)
        · have w := w.1 c36
          refine r_aldn (pc1 := 78) rfl rfl rfl ?_
          refine r_gfC (pc1 := 81) (q := 438) rfl rfl rfl t17 (lyk t17 rfl) rfl rfl (lyR t17 rfl rfl) ?_
          refine r_n (pc1 := 82) [.int (J 2), rv 438] _ rfl rfl ?_
          refine r_ial (pc1 := 83) rfl rfl t17 (lyk t17 rfl) (rgk rfl) (by decide) (lt_len (lyn t17 rfl) (by decide)) ?_
          refine r_vI (rgh _ _ _) (fun x18 ex18 rx18 => ?_)
          have w := w x18 ex18 rx18
          refine r_ist (pc1 := 85) (ls1 := [some (rv 437), some (.int (J p0)), some (.int (J p1)), some (rv a2), some (rv a11), some (.int (J x18)), none, none]) rfl rfl rfl (xput1_rv rfl rfl) ?_
          refine r_n (pc1 := 86) [.int (J (-1))] _ rfl rfl ?_
          refine r_ist (pc1 := 88) (ls1 := [some (rv 437), some (.int (J p0)), some (.int (J p1)), some (rv a2), some (rv a11), some (.int (J x18)), some (.int (J (-1))), none]) rfl rfl rfl rfl ?_
          refine r_n (pc1 := 89) [.int (J 0)] _ rfl rfl ?_
          refine r_ist (pc1 := 91) (ls1 := [some (rv 437), some (.int (J p0)), some (.int (J p1)), some (rv a2), some (rv a11), some (.int (J x18)), some (.int (J (-1))), some (.int (J 0))]) rfl rfl rfl rfl ?_
          obtain ⟨I23, m23, w, y23⟩ := w
          have Q23 : ∀ (n : Nat)  (x19 : Int) (x20 : Int) (x21 : Int) (h22 : XH), HT h22 → HX h h22 → rg x19 → rg x20 → rg x21 → m23 x19 x20 x21 h22 < n → I23 x19 x20 x21 h22 → RR sc goal fs 198 91 [some (rv 437), some (.int (J p0)), some (.int (J p1)), some (rv a2), some (rv a11), some (.int (J x19)), some (.int (J x20)), some (.int (J x21))] [] h22 := by
            intro n
            induction n with
            | zero => intro x19 x20 x21 h22 t22 s22 rx19 rx20 rx21 q23 _; exact absurd q23 (Nat.not_lt_zero _)
            | succ n ih23 =>
              intro x19 x20 x21 h22 t22 s22 rx19 rx20 rx21 q23 z23
              have w := y23 x19 x20 x21 h22 t22 s22 rx19 rx20 rx21 z23
              refine r_n (pc1 := 93) [.int (J x21)] _ rfl rfl ?_
              refine r_n (pc1 := 94) [.int (J p0), .int (J x21)] _ rfl rfl ?_
              refine r_ic (t := 138) (pc1 := 97) rfl rfl rfl rx21 rp0 (fun c34 => ?_) (fun c34 => ?_)
              · have w := w.1 c34
                refine r_n (pc1 := 140) [.int (J x20)] _ rfl rfl ?_
                exact r_retI rfl rfl rfl (k _ _ t22 s22 rx20 w)
              · have w := w.2 c34
                refine r_aldn (pc1 := 98) rfl rfl rfl ?_
                refine r_aldn (pc1 := 99) rfl rfl rfl ?_
                refine r_aldn (pc1 := 100) rfl rfl rfl ?_
                refine r_ald (pc1 := 102) rfl rfl rfl ?_
                refine r_n (pc1 := 104) [.int (J x21), rv a11, rv a2, rv 437, rv 437] _ rfl rfl ?_
                obtain ⟨c24, w⟩ := w
                obtain ⟨c25, w⟩ := w
                refine r_ial (pc1 := 105) rfl rfl t22 c24 rx21 c25.1 c25.2 ?_
                refine r_iv rfl rfl rfl rfl rfl rfl t22 (lyk t22 rfl) rfl (xe_of (xa_r (xa_r (xa_i xa_0))) rfl rfl) (r_d0 hd rfl) (a_X14_slotIn a2 (hI h22 a11 x21.toNat) (r_d1 hd rfl) (rgh _ _ _) w t22 (fun x26 rx26 w => ?_))
                refine r_fI (pc1 := 108) rfl ?_
                have w := w rx26
                refine r_n (pc1 := 110) [.int (J x19), .int (J x26), rv 437] _ rfl rfl ?_
                refine r_n (pc1 := 111) [.int (J 0), .int (J x19), .int (J x26), rv 437] _ rfl rfl ?_
                refine r_iv rfl rfl rfl rfl rfl rfl t22 (lyk t22 rfl) rfl (xe_of (xa_r (xa_i (xa_i (xa_i xa_0)))) rfl rfl) (r_d0 hd rfl) (a_X14_mirrorFor x26 x19 0 (r_d1 hd rfl) rx26 rx19 (rgk rfl) w t22 (fun x27 h28 t28 u28 rx27 w => ?_))
                refine r_fI (pc1 := 114) rfl ?_
                have s28 := HX_trans s22 u28
                have w := w t28 u28
                have w := w rx27
                refine r_ist (pc1 := 116) (ls1 := [some (rv 437), some (.int (J p0)), some (.int (J p1)), some (rv a2), some (rv a11), some (.int (J x19)), some (.int (J x27)), some (.int (J x21))]) rfl rfl rfl rfl ?_
                refine r_n (pc1 := 118) [.int (J x19)] _ rfl rfl ?_
                refine r_n (pc1 := 120) [.int (J x27), .int (J x19)] _ rfl rfl ?_
                refine r_n (pc1 := 121) [.int (J (-1)), .int (J x27), .int (J x19)] _ rfl rfl ?_
                obtain ⟨J30, j30, w⟩ := w
                have Q30 : ∀ (x29 : Int), rg x29 → J30 x29 → RR sc goal fs 198 129 [some (rv 437), some (.int (J p0)), some (.int (J p1)), some (rv a2), some (rv a11), some (.int (J x19)), some (.int (J x27)), some (.int (J x21))] [.int (J x29), .int (J x19)] h28 := by
                  intro x29 rx29 z30
                  have w := j30 x29 rx29 z30
                  refine r_iadd (pc1 := 130) rfl rfl ?_
                  refine r_vI (rgw _) (fun x31 ex31 rx31 => ?_)
                  have w := w x31 ex31 rx31
                  refine r_ist (pc1 := 132) (ls1 := [some (rv 437), some (.int (J p0)), some (.int (J p1)), some (rv a2), some (rv a11), some (.int (J x31)), some (.int (J x27)), some (.int (J x21))]) rfl rfl rfl (xput1_rv rfl rfl) ?_
                  refine r_inc (pc1 := 135) (g := fun zz => [some (rv 437), some (.int (J p0)), some (.int (J p1)), some (rv a2), some (rv a11), some (.int (J x31)), some (.int (J x27)), some (.int (J zz))]) rfl rfl rfl rfl (fun _ => rfl) (fun x32 ex32 rx32 => ?_)
                  have w := w x32 ex32 rx32
                  refine r_goto (t := 91) rfl rfl ?_
                  exact ih23  x31 x27 x32 h28 t28 s28 rx31 rx27 rx32 (Nat.lt_of_lt_of_le w.2 (Nat.le_of_lt_succ q23)) w.1
                refine r_ic (t := 128) (pc1 := 124) rfl rfl rfl rx27 (rgk rfl) (fun c33 => ?_) (fun c33 => ?_)
                · have w := w.1 c33
                  refine r_n (pc1 := 129) [.int (J 1), .int (J x19)] _ rfl rfl ?_
                  exact Q30  1  (rgk rfl) w
                · have w := w.2 c33
                  refine r_n (pc1 := 125) [.int (J 0), .int (J x19)] _ rfl rfl ?_
                  refine r_goto (t := 129) rfl rfl ?_
                  exact Q30  0  (rgk rfl) w
          exact Q23 _  x18 (-1) 0 h17 t17 s17 rx18 (rgk rfl) (rgk rfl) (Nat.lt_succ_self _) w
        · have w := w.2 c36
          refine r_ald (pc1 := 74) rfl rfl rfl ?_
          refine r_n (pc1 := 75) [.int (J p0), rv a11] _ rfl rfl ?_
          obtain ⟨c35, w⟩ := w
          refine r_ial (pc1 := 76) rfl rfl t17 (HXk u17 c13 rfl) rp0 c35.1 c35.2 ?_
          exact r_retI rfl rfl rfl (k _ _ t17 s17 (rgh _ _ _) w)
      · have w := w.2 c37
        refine r_n (pc1 := 67) [.int (J 0)] _ rfl rfl ?_
        exact r_retI rfl rfl rfl (k _ _ t17 s17 (rgk rfl) w)
    · have w := w.2 c38
      refine r_n (pc1 := 36) [.int (J 0)] _ rfl rfl ?_
      exact r_retI rfl rfl rfl (k _ _ t8 s8 (rgk rfl) w)
  refine r_iz (t := 27) (pc1 := 23) rfl rfl rfl (rgh _ _ _) (fun c39 => ?_) (fun c39 => ?_)
  · have w := w.1 c39
    refine r_n (pc1 := 28) [.int (J 0), rv 437] _ rfl rfl ?_
    exact Q6  0  (rgk rfl) w
  · have w := w.2 c39
    refine r_n (pc1 := 24) [.int (J 1), rv 437] _ rfl rfl ?_
    refine r_goto (t := 28) rfl rfl ?_
    exact Q6  1  (rgk rfl) w
def w_X12_plan  (K : Int → XH → Prop) (E : Nat → XH → Prop) (h : XH) : Prop :=
  (w_X12_checkGoalSound (fun h1 => HT h1 → HX h h1 → (w_X2_findSteps (fun h2 => HT h2 → HX h1 h2 → (K (hI h2 79 11) h2)) h1)) E h)
set_option maxHeartbeats 4000000 in
theorem a_X12_plan {sc : Nat × (Nat → Int32)} {goal : XO → XH → Prop} {fs : List XF} {h : XH}  {K : Int → XH → Prop} {E : Nat → XH → Prop} (hd : fs.length + 7 ≤ 1000) (w : w_X12_plan  K E h) (t0 : HT h) (k : ∀ (r : Int) (h1 : XH), HT h1 → HX h h1 → rg r → K r h1 → XFin xP sc goal fs (.inl (some (.int (J r)))) h1) (kE : ∀ (x : Nat) (h1 : XH), HT h1 → HX h h1 → E x h1 → XFin xP sc goal fs (.inr x) h1) : RR sc goal fs 139 0 [some (rv 2)] [] h := by
  unfold w_X12_plan at w
  refine r_aldn (pc1 := 1) rfl rfl rfl ?_
  refine r_iv rfl rfl rfl rfl rfl rfl t0 (lyk t0 rfl) rfl (xe_of (xa_r xa_0) rfl rfl) (r_d0 hd rfl) (a_X12_checkGoalSound  (r_d1 hd rfl)  w t0 (fun h1 t1 u1 w => ?_) (fun x y ty uy w => r_finx rfl rfl (kE x y ty (HX_trans (HX_refl h) uy) w)))
  refine r_fV (pc1 := 4) rfl ?_
  have s1 := HX_trans (HX_refl h) u1
  have w := w t1 u1
  refine r_aldn (pc1 := 5) rfl rfl rfl ?_
  refine r_gfC (pc1 := 8) (q := 79) rfl rfl rfl t1 (lyk t1 rfl) rfl rfl (lyR t1 rfl rfl) ?_
  refine r_iv rfl rfl rfl rfl rfl rfl t1 (lyk t1 rfl) rfl (xe_of (xa_r xa_0) rfl rfl) (r_d0 hd rfl) (a_X2_findSteps  (r_d1 hd rfl)  w t1 (fun h2 t2 u2 w => ?_))
  refine r_fV (pc1 := 11) rfl ?_
  have s2 := HX_trans s1 u2
  have w := w t2 u2
  refine r_aldn (pc1 := 12) rfl rfl rfl ?_
  refine r_gfC (pc1 := 15) (q := 79) rfl rfl rfl t2 (lyk t2 rfl) rfl rfl (lyR t2 rfl rfl) ?_
  refine r_gfI (pc1 := 18) rfl rfl rfl t2 (lyk t2 rfl) rfl rfl ?_
  exact r_retI rfl rfl rfl (k _ _ t2 s2 (rgh _ _ _) w)
def w_L_plan  (K : Int → XH → Prop) (h : XH) : Prop :=
  (w_X12_plan (fun x1 h2 => HT h2 → HX h h2 → rg x1 → (∀ h5 : XH, h5 = sL h2 467 0 (i2l x1) → HT h5 → HX h2 h5 → (K 0 h5))) (fun y4 h3 => ((y4 = 0 ∧ K 1 h3))) h)
set_option maxHeartbeats 4000000 in
theorem a_L_plan {sc : Nat × (Nat → Int32)} {goal : XO → XH → Prop} {fs : List XF} {h : XH}  {K : Int → XH → Prop} (hd : fs.length + 8 ≤ 1000) (w : w_L_plan  K h) (t0 : HT h) (k : ∀ (r : Int) (h1 : XH), HT h1 → HX h h1 → rg r → K r h1 → XFin xP sc goal fs (.inl (some (.int (J r)))) h1) : RR sc goal fs 54 0 [some (rv 2), some (rv 467), none] [] h := by
  unfold w_L_plan at w
  refine r_aldn (pc1 := 1) rfl rfl rfl ?_
  refine r_n (pc1 := 2) [.int (J 0), rv 467] _ rfl rfl ?_
  refine r_aldn (pc1 := 3) rfl rfl rfl ?_
  refine r_iv rfl rfl rfl rfl rfl rfl t0 (lyk t0 rfl) rfl (xe_of (xa_r xa_0) rfl rfl) (r_d0 hd rfl) (a_X12_plan  (r_d1 hd rfl)  w t0 (fun x1 h2 t2 u2 rx1 w => ?_) (fun y4 h3 ty uy w => ?_))
  · refine r_fI (pc1 := 6) rfl ?_
    have s2 := HX_trans (HX_refl h) u2
    have w := w t2 u2
    have w := w rx1
    refine r_i2l (pc1 := 7) rfl rfl ?_
    refine r_last (pc1 := 8) rfl rfl t2 (lyk t2 rfl) (rgk rfl) (by decide) (lt_len (lyn t2 rfl) (by decide)) (fun h5 eh5 t5 u5 => ?_)
    have w := w h5 eh5 t5 u5
    have s5 := HX_trans s2 u5
    refine r_goto (t := 14) rfl rfl ?_
    refine r_n (pc1 := 15) [.int (J 0)] _ rfl rfl ?_
    exact r_retI rfl rfl rfl (k _ _ t5 s5 (rgk rfl) w)
  · obtain ⟨rfl, w⟩ := w
    exact r_fink (z := 1) rfl (by decide) rfl rfl (k _ _ ty (HX_trans (HX_refl h) uy) (rgk rfl) w)
def w_X14_findSteps (p0 : Nat) (p1 : Nat) (K : XH → Prop) (h : XH) : Prop :=
  (∀ (a1 : Nat) (h2 : XH), a1 = h.length → h2 = nA h 0 12 → HT h2 → HX h h2 → hk h2 a1 = 100 → hn h2 a1 = 12 → hk h2 p0 = 100 ∧ (¬ p0 = a1 ∧ (0 : Int) ≤ 0 ∧ (0 : Int) ≤ 0 ∧ (0 : Int) ≤ 12 ∧ ((0 + 12 : Int)) ≤ (hn h2 p0 : Int) ∧ ((0 + 12 : Int)) ≤ (hn h2 a1 : Int)) ∧ ∀ h5 : XH, h5 = cA h2 p0 0 a1 0 12 → HT h5 → HX h2 h5 → (∃ (I8 : Int → Int → Prop) (m8 : Int → Int → Nat), I8 0 0 ∧ ∀ (x6 : Int) (x7 : Int), rg x6 → rg x7 → I8 x6 x7 → (((12 ≤ x7 → (∀ h9 : XH, h9 = sI h5 437 63 0 → HT h9 → HX h5 h9 → (∃ (I14 : Int → XH → Prop) (m14 : Int → XH → Nat), I14 x6 h9 ∧ ∀ (x10 : Int) (h13 : XH), HT h13 → HX h h13 → rg x10 → I14 x10 h13 → (((x10 = 0 → (K h13)) ∧ (¬ (x10 = 0) → ((∃ (I18 : Int → Int → XH → Prop) (m18 : Int → Int → XH → Nat), I18 0 0 h13 ∧ ∀ (x15 : Int) (x16 : Int) (h17 : XH), HT h17 → HX h h17 → rg x15 → rg x16 → I18 x15 x16 h17 → (∃ J19 : Prop, (J19 → (∃ J21 : Int → Prop, (∀ (x20 : Int), rg x20 → J21 x20 → ((0 ≤ hI h17 437 63 ∧ hI h17 437 63 < 12) ∧ ∀ h23 : XH, h23 = sI h17 466 (hI h17 437 63).toNat x20 → HT h23 → HX h17 h23 → ∀ h24 : XH, h24 = sI h23 437 63 (wr ((hI h23 437 63) + 1)) → HT h24 → HX h23 h24 → ∀ x25 : Int, x25 = iand x10 (ixor x20 (-1)) → rg x25 → (I14 x25 h24 ∧ m14 x25 h24 < m14 x10 h13))) ∧ ((¬ x15 = 0 → (J21 x15)) ∧ (¬ (¬ x15 = 0) → (J21 x10))))) ∧ ((12 ≤ x16 → J19) ∧ (¬ (12 ≤ x16) → (((¬ x15 = 0 → J19) ∧ (¬ (¬ x15 = 0) → (∃ J29 : Int → XH → Prop, (∀ (x27 : Int) (h28 : XH), HT h28 → HX h h28 → rg x27 → J29 x27 h28 → (∀ x30 : Int, x30 = wr (x16 + 1) → rg x30 → (I18 x27 x30 h28 ∧ m18 x27 x30 h28 < m18 x15 x16 h17))) ∧ ((¬ iand (ishr x10 x16) 1 = 1 → J29 x15 h17) ∧ (¬ (¬ iand (ishr x10 x16) 1 = 1) → (hk h17 p1 = 100 ∧ (0 ≤ x16 ∧ x16 < (hn h17 p1 : Int)) ∧ hk h17 a1 = 100 ∧ (0 ≤ x16 ∧ x16 < (hn h17 a1 : Int)) ∧ ∀ h35 : XH, h35 = sI h17 a1 x16.toNat (hI h17 p1 x16.toNat) → HT h35 → HX h17 h35 → w_X14_isSoundSet a1 (fun x36 => rg x36 → (x36 = 0 ∨ x36 = 1) → (∃ J38 : Int → Prop, (∀ (x37 : Int), rg x37 → J38 x37 → (∃ J40 : Int → Prop, (∀ (x39 : Int), rg x39 → J40 x39 → ((0 ≤ x16 ∧ x16 < (hn h35 a1 : Int)) ∧ ∀ h42 : XH, h42 = sI h35 a1 x16.toNat x39 → HT h42 → HX h35 h42 → J29 x37 h42)) ∧ ((¬ x37 = 0 → ((0 ≤ x16 ∧ x16 < (hn h35 p1 : Int)) ∧ J40 (hI h35 p1 x16.toNat))) ∧ (¬ (¬ x37 = 0) → (hk h35 p0 = 100 ∧ (0 ≤ x16 ∧ x16 < (hn h35 p0 : Int)) ∧ J40 (hI h35 p0 x16.toNat)))))) ∧ ((x36 = 0 → (J38 0)) ∧ (¬ (x36 = 0) → (J38 (ishl 1 x16)))))) h35)))))))))))))))))) ∧ (¬ (12 ≤ x7) → ((0 ≤ x7 ∧ x7 < (hn h5 p0 : Int)) ∧ hk h5 p1 = 100 ∧ (0 ≤ x7 ∧ x7 < (hn h5 p1 : Int)) ∧ ∃ J56 : Int → Prop, (∀ (x55 : Int), rg x55 → J56 x55 → (∀ x57 : Int, x57 = ior x6 x55 → rg x57 → ∀ x58 : Int, x58 = wr (x7 + 1) → rg x58 → (I8 x57 x58 ∧ m8 x57 x58 < m8 x6 x7))) ∧ ((¬ hI h5 p0 x7.toNat = hI h5 p1 x7.toNat → (J56 (ishl 1 x7))) ∧ (¬ (¬ hI h5 p0 x7.toNat = hI h5 p1 x7.toNat) → (J56 0)))))))))
set_option maxHeartbeats 4000000 in
theorem a_X14_findSteps {sc : Nat × (Nat → Int32)} {goal : XO → XH → Prop} {fs : List XF} {h : XH} (p0 : Nat) (p1 : Nat) {K : XH → Prop} (hd : fs.length + 7 ≤ 1000) (w : w_X14_findSteps p0 p1 K h) (t0 : HT h) (k : ∀ (h1 : XH), HT h1 → HX h h1 → K h1 → XFin xP sc goal fs (.inl none) h1) : RR sc goal fs 204 0 [some (rv 437), some (rv p0), some (rv p1), none, none, none, none] [] h := by
  unfold w_X14_findSteps at w
  refine r_n (pc1 := 2) [.int (J 12)] _ rfl rfl ?_
  refine r_na (pc1 := 4) (u := 0) (m := 2) rfl rfl rfl t0 rfl (rgk rfl) (by decide) (by decide) (fun a1 h2 ea1 eh2 t2 u2 ca1 la1 => ?_)
  have w := w a1 h2 ea1 eh2 t2 u2 ca1 la1
  have s2 := HX_trans (HX_refl h) u2
  refine r_astn (pc1 := 5) (ls1 := [some (rv 437), some (rv p0), some (rv p1), some (rv a1), none, none, none]) rfl rfl rfl (xput1_rv rfl rfl) ?_
  refine r_aldn (pc1 := 6) rfl rfl rfl ?_
  refine r_n (pc1 := 7) [.int (J 0), rv p0] _ rfl rfl ?_
  refine r_aldn (pc1 := 8) rfl rfl rfl ?_
  refine r_n (pc1 := 9) [.int (J 0), rv a1, .int (J 0), rv p0] _ rfl rfl ?_
  refine r_n (pc1 := 11) [.int (J 12), .int (J 0), rv a1, .int (J 0), rv p0] _ rfl rfl ?_
  obtain ⟨c3, w⟩ := w
  obtain ⟨c4, w⟩ := w
  refine r_cp (pc1 := 14) (u := 0) rfl rfl rfl rfl t2 c3 ca1 (by decide) (rgk rfl) (rgk rfl) (rgk rfl) rfl rfl c4 (fun h5 eh5 t5 u5 => ?_)
  have w := w h5 eh5 t5 u5
  have s5 := HX_trans s2 u5
  refine r_n (pc1 := 15) [.int (J 0)] _ rfl rfl ?_
  refine r_ist (pc1 := 17) (ls1 := [some (rv 437), some (rv p0), some (rv p1), some (rv a1), some (.int (J 0)), none, none]) rfl rfl rfl (xput1_rv rfl rfl) ?_
  refine r_n (pc1 := 18) [.int (J 0)] _ rfl rfl ?_
  refine r_ist (pc1 := 20) (ls1 := [some (rv 437), some (rv p0), some (rv p1), some (rv a1), some (.int (J 0)), some (.int (J 0)), none]) rfl rfl rfl rfl ?_
  obtain ⟨I8, m8, w, y8⟩ := w
  have Q8 : ∀ (n : Nat)  (x6 : Int) (x7 : Int), rg x6 → rg x7 → m8 x6 x7 < n → I8 x6 x7 → RR sc goal fs 204 20 [some (rv 437), some (rv p0), some (rv p1), some (rv a1), some (.int (J x6)), some (.int (J x7)), none] [] h5 := by
    intro n
    induction n with
    | zero => intro x6 x7 rx6 rx7 q8 _; exact absurd q8 (Nat.not_lt_zero _)
    | succ n ih8 =>
      intro x6 x7 rx6 rx7 q8 z8
      have w := y8 x6 x7 rx6 rx7 z8
      refine r_n (pc1 := 22) [.int (J x7)] _ rfl rfl ?_
      refine r_n (pc1 := 24) [.int (J 12), .int (J x7)] _ rfl rfl ?_
      refine r_ic (t := 57) (pc1 := 27) rfl rfl rfl rx7 (rgk rfl) (fun c60 => ?_) (fun c60 => ?_)
      · have w := w.1 c60
        refine r_aldn (pc1 := 58) rfl rfl rfl ?_
        refine r_n (pc1 := 59) [.int (J 0), rv 437] _ rfl rfl ?_
        refine r_pfI (pc1 := 62) rfl rfl rfl t5 (lyk t5 rfl) rfl rfl rfl (fun h9 eh9 t9 u9 => ?_)
        have w := w h9 eh9 t9 u9
        have s9 := HX_trans s5 u9
        obtain ⟨I14, m14, w, y14⟩ := w
        have Q14 : ∀ (n : Nat) (d11 : Option Value) (d12 : Option Value) (x10 : Int) (h13 : XH), HT h13 → HX h h13 → rg x10 → m14 x10 h13 < n → I14 x10 h13 → RR sc goal fs 204 62 [some (rv 437), some (rv p0), some (rv p1), some (rv a1), some (.int (J x10)), d11, d12] [] h13 := by
          intro n
          induction n with
          | zero => intro d11 d12 x10 h13 t13 s13 rx10 q14 _; exact absurd q14 (Nat.not_lt_zero _)
          | succ n ih14 =>
            intro d11 d12 x10 h13 t13 s13 rx10 q14 z14
            have w := y14 x10 h13 t13 s13 rx10 z14
            refine r_n (pc1 := 64) [.int (J x10)] _ rfl rfl ?_
            refine r_iz (t := 195) (pc1 := 67) rfl rfl rfl rx10 (fun c51 => ?_) (fun c51 => ?_)
            · have w := w.1 c51
              exact r_retV rfl rfl rfl (k _ t13 s13 w)
            · have w := w.2 c51
              refine r_n (pc1 := 68) [.int (J 0)] _ rfl rfl ?_
              refine r_ist (pc1 := 70) (ls1 := [some (rv 437), some (rv p0), some (rv p1), some (rv a1), some (.int (J x10)), some (.int (J 0)), d12]) rfl rfl rfl rfl ?_
              refine r_n (pc1 := 71) [.int (J 0)] _ rfl rfl ?_
              refine r_ist (pc1 := 73) (ls1 := [some (rv 437), some (rv p0), some (rv p1), some (rv a1), some (.int (J x10)), some (.int (J 0)), some (.int (J 0))]) rfl rfl rfl rfl ?_
              obtain ⟨I18, m18, w, y18⟩ := w
              have Q18 : ∀ (n : Nat)  (x15 : Int) (x16 : Int) (h17 : XH), HT h17 → HX h h17 → rg x15 → rg x16 → m18 x15 x16 h17 < n → I18 x15 x16 h17 → RR sc goal fs 204 73 [some (rv 437), some (rv p0), some (rv p1), some (rv a1), some (.int (J x10)), some (.int (J x15)), some (.int (J x16))] [] h17 := by
                intro n
                induction n with
                | zero => intro x15 x16 h17 t17 s17 rx15 rx16 q18 _; exact absurd q18 (Nat.not_lt_zero _)
                | succ n ih18 =>
                  intro x15 x16 h17 t17 s17 rx15 rx16 q18 z18
                  have w := y18 x15 x16 h17 t17 s17 rx15 rx16 z18
                  refine r_n (pc1 := 75) [.int (J x16)] _ rfl rfl ?_
                  refine r_n (pc1 := 77) [.int (J 12), .int (J x16)] _ rfl rfl ?_
                  obtain ⟨J19, j19, w⟩ := w
                  have Q19 : J19 → RR sc goal fs 204 148 [some (rv 437), some (rv p0), some (rv p1), some (rv a1), some (.int (J x10)), some (.int (J x15)), some (.int (J x16))] [] h17 := by
                    intro z19
                    have w := j19 z19
                    refine r_n (pc1 := 150) [.int (J x15)] _ rfl rfl ?_
                    obtain ⟨J21, j21, w⟩ := w
                    have Q21 : ∀ (x20 : Int), rg x20 → J21 x20 → RR sc goal fs 204 160 [some (rv 437), some (rv p0), some (rv p1), some (rv a1), some (.int (J x10)), some (.int (J x15)), some (.int (J x16))] [.int (J x20)] h17 := by
                      intro x20 rx20 z21
                      have w := j21 x20 rx20 z21
                      refine r_ist (pc1 := 162) (ls1 := [some (rv 437), some (rv p0), some (rv p1), some (rv a1), some (.int (J x10)), some (.int (J x20)), some (.int (J x16))]) rfl rfl rfl rfl ?_
                      refine r_aldn (pc1 := 163) rfl rfl rfl ?_
                      refine r_gfC (pc1 := 166) (q := 466) rfl rfl rfl t17 (lyk t17 rfl) rfl rfl (lyR t17 rfl rfl) ?_
                      refine r_aldn (pc1 := 167) rfl rfl rfl ?_
                      refine r_gfI (pc1 := 170) rfl rfl rfl t17 (lyk t17 rfl) rfl rfl ?_
                      refine r_n (pc1 := 172) [.int (J x20), .int (J (hI h17 437 63)), rv 466] _ rfl rfl ?_
                      obtain ⟨c22, w⟩ := w
                      refine r_iast (pc1 := 173) rfl rfl t17 (lyk t17 rfl) (rgh _ _ _) c22.1 (lt_len (lyn t17 rfl) c22.2) (fun h23 eh23 t23 u23 => ?_)
                      have w := w h23 eh23 t23 u23
                      have s23 := HX_trans s17 u23
                      refine r_aldn (pc1 := 174) rfl rfl rfl ?_
                      refine r_dupR (pc1 := 175) rfl rfl ?_
                      refine r_gfI (pc1 := 178) rfl rfl rfl t23 (lyk t23 rfl) rfl rfl ?_
                      refine r_n (pc1 := 179) [.int (J 1), .int (J (hI h23 437 63)), rv 437] _ rfl rfl ?_
                      refine r_iadd (pc1 := 180) rfl rfl ?_
                      refine r_pfI (pc1 := 183) rfl rfl rfl t23 (lyk t23 rfl) rfl rfl rfl (fun h24 eh24 t24 u24 => ?_)
                      have w := w h24 eh24 t24 u24
                      have s24 := HX_trans s23 u24
                      refine r_n (pc1 := 185) [.int (J x10)] _ rfl rfl ?_
                      refine r_n (pc1 := 187) [.int (J x20), .int (J x10)] _ rfl rfl ?_
                      refine r_n (pc1 := 188) [.int (J (-1)), .int (J x20), .int (J x10)] _ rfl rfl ?_
                      refine r_ixor (pc1 := 189) rfl rfl ?_
                      refine r_iand (pc1 := 190) rfl rfl ?_
                      refine r_vI (rgt _) (fun x25 ex25 rx25 => ?_)
                      have w := w x25 ex25 rx25
                      refine r_ist (pc1 := 192) (ls1 := [some (rv 437), some (rv p0), some (rv p1), some (rv a1), some (.int (J x25)), some (.int (J x20)), some (.int (J x16))]) rfl rfl rfl (xput1_rv rfl rfl) ?_
                      refine r_goto (t := 62) rfl rfl ?_
                      exact ih14 _ _ x25 h24 t24 s24 rx25 (Nat.lt_of_lt_of_le w.2 (Nat.le_of_lt_succ q14)) w.1
                    refine r_iz (t := 158) (pc1 := 153) rfl rfl rfl rx15 (fun c26 => ?_) (fun c26 => ?_)
                    · have w := w.1 c26
                      refine r_n (pc1 := 160) [.int (J x15)] _ rfl rfl ?_
                      exact Q21  x15  rx15 w
                    · have w := w.2 c26
                      refine r_n (pc1 := 155) [.int (J x10)] _ rfl rfl ?_
                      refine r_goto (t := 160) rfl rfl ?_
                      exact Q21  x10  rx10 w
                  refine r_ic (t := 148) (pc1 := 80) rfl rfl rfl rx16 (rgk rfl) (fun c50 => ?_) (fun c50 => ?_)
                  · have w := w.1 c50
                    exact Q19     w
                  · have w := w.2 c50
                    refine r_n (pc1 := 82) [.int (J x15)] _ rfl rfl ?_
                    refine r_iz (t := 148) (pc1 := 85) rfl rfl rfl rx15 (fun c49 => ?_) (fun c49 => ?_)
                    · have w := w.1 c49
                      exact Q19     w
                    · have w := w.2 c49
                      refine r_n (pc1 := 87) [.int (J x10)] _ rfl rfl ?_
                      refine r_n (pc1 := 89) [.int (J x16), .int (J x10)] _ rfl rfl ?_
                      refine r_ishr (pc1 := 90) rfl rfl ?_
                      refine r_n (pc1 := 91) [.int (J 1), .int (J (ishr x10 x16))] _ rfl rfl ?_
                      refine r_iand (pc1 := 92) rfl rfl ?_
                      refine r_n (pc1 := 93) [.int (J 1), .int (J (iand (ishr x10 x16) 1))] _ rfl rfl ?_
                      obtain ⟨J29, j29, w⟩ := w
                      have Q29 : ∀ (x27 : Int) (h28 : XH), HT h28 → HX h h28 → rg x27 → J29 x27 h28 → RR sc goal fs 204 142 [some (rv 437), some (rv p0), some (rv p1), some (rv a1), some (.int (J x10)), some (.int (J x27)), some (.int (J x16))] [] h28 := by
                        intro x27 h28 t28 s28 rx27 z29
                        have w := j29 x27 h28 t28 s28 rx27 z29
                        refine r_inc (pc1 := 145) (g := fun zz => [some (rv 437), some (rv p0), some (rv p1), some (rv a1), some (.int (J x10)), some (.int (J x27)), some (.int (J zz))]) rfl rfl rfl rfl (fun _ => rfl) (fun x30 ex30 rx30 => ?_)
                        have w := w x30 ex30 rx30
                        refine r_goto (t := 73) rfl rfl ?_
                        exact ih18  x27 x30 h28 t28 s28 rx27 rx30 (Nat.lt_of_lt_of_le w.2 (Nat.le_of_lt_succ q18)) w.1
                      refine r_ic (t := 142) (pc1 := 96) rfl rfl rfl (rgt _) (rgk rfl) (fun c48 => ?_) (fun c48 => ?_)
                      · have w := w.1 c48
                        exact Q29  x15 h17 t17 s17 rx15 w
                      · have w := w.2 c48
                        refine r_aldn (pc1 := 97) rfl rfl rfl ?_
                        refine r_n (pc1 := 99) [.int (J x16), rv a1] _ rfl rfl ?_
                        refine r_aldn (pc1 := 100) rfl rfl rfl ?_
                        refine r_n (pc1 := 102) [.int (J x16), rv p1, .int (J x16), rv a1] _ rfl rfl ?_
                        obtain ⟨c31, w⟩ := w
                        obtain ⟨c32, w⟩ := w
                        refine r_ial (pc1 := 103) rfl rfl t17 c31 rx16 c32.1 c32.2 ?_
                        obtain ⟨c33, w⟩ := w
                        obtain ⟨c34, w⟩ := w
                        refine r_iast (pc1 := 104) rfl rfl t17 c33 rx16 c34.1 c34.2 (fun h35 eh35 t35 u35 => ?_)
                        have w := w h35 eh35 t35 u35
                        have s35 := HX_trans s17 u35
                        refine r_aldn (pc1 := 105) rfl rfl rfl ?_
                        refine r_aldn (pc1 := 106) rfl rfl rfl ?_
                        refine r_iv rfl rfl rfl rfl rfl rfl t35 (lyk t35 rfl) rfl (xe_of (xa_r (xa_r xa_0)) rfl rfl) (r_d0 hd rfl) (a_X14_isSoundSet a1 (r_d1 hd rfl)  w t35 (fun x36 rx36 vx36 w => ?_))
                        refine r_fI (pc1 := 109) rfl ?_
                        have w := w rx36 vx36
                        obtain ⟨J38, j38, w⟩ := w
                        have Q38 : ∀ (x37 : Int), rg x37 → J38 x37 → RR sc goal fs 204 120 [some (rv 437), some (rv p0), some (rv p1), some (rv a1), some (.int (J x10)), some (.int (J x15)), some (.int (J x16))] [.int (J x37)] h35 := by
                          intro x37 rx37 z38
                          have w := j38 x37 rx37 z38
                          refine r_ist (pc1 := 122) (ls1 := [some (rv 437), some (rv p0), some (rv p1), some (rv a1), some (.int (J x10)), some (.int (J x37)), some (.int (J x16))]) rfl rfl rfl rfl ?_
                          refine r_aldn (pc1 := 123) rfl rfl rfl ?_
                          refine r_n (pc1 := 125) [.int (J x16), rv a1] _ rfl rfl ?_
                          refine r_n (pc1 := 127) [.int (J x37), .int (J x16), rv a1] _ rfl rfl ?_
                          obtain ⟨J40, j40, w⟩ := w
                          have Q40 : ∀ (x39 : Int), rg x39 → J40 x39 → RR sc goal fs 204 141 [some (rv 437), some (rv p0), some (rv p1), some (rv a1), some (.int (J x10)), some (.int (J x37)), some (.int (J x16))] [.int (J x39), .int (J x16), rv a1] h35 := by
                            intro x39 rx39 z40
                            have w := j40 x39 rx39 z40
                            obtain ⟨c41, w⟩ := w
                            refine r_iast (pc1 := 142) rfl rfl t35 (HXk u35 c33 rfl) rx16 c41.1 c41.2 (fun h42 eh42 t42 u42 => ?_)
                            have w := w h42 eh42 t42 u42
                            have s42 := HX_trans s35 u42
                            exact Q29  x37 h42 t42 s42 rx37 w
                          refine r_iz (t := 137) (pc1 := 130) rfl rfl rfl rx37 (fun c46 => ?_) (fun c46 => ?_)
                          · have w := w.1 c46
                            refine r_aldn (pc1 := 138) rfl rfl rfl ?_
                            refine r_n (pc1 := 140) [.int (J x16), rv p1, .int (J x16), rv a1] _ rfl rfl ?_
                            obtain ⟨c43, w⟩ := w
                            refine r_ial (pc1 := 141) rfl rfl t35 (HXk u35 c31 rfl) rx16 c43.1 c43.2 ?_
                            exact Q40  (hI h35 p1 x16.toNat)  (rgh _ _ _) w
                          · have w := w.2 c46
                            refine r_aldn (pc1 := 131) rfl rfl rfl ?_
                            refine r_n (pc1 := 133) [.int (J x16), rv p0, .int (J x16), rv a1] _ rfl rfl ?_
                            obtain ⟨c44, w⟩ := w
                            obtain ⟨c45, w⟩ := w
                            refine r_ial (pc1 := 134) rfl rfl t35 c44 rx16 c45.1 c45.2 ?_
                            refine r_goto (t := 141) rfl rfl ?_
                            exact Q40  (hI h35 p0 x16.toNat)  (rgh _ _ _) w
                        refine r_iz (t := 119) (pc1 := 112) rfl rfl rfl rx36 (fun c47 => ?_) (fun c47 => ?_)
                        · have w := w.1 c47
                          refine r_n (pc1 := 120) [.int (J 0)] _ rfl rfl ?_
                          exact Q38  0  (rgk rfl) w
                        · have w := w.2 c47
                          refine r_n (pc1 := 113) [.int (J 1)] _ rfl rfl ?_
                          refine r_n (pc1 := 115) [.int (J x16), .int (J 1)] _ rfl rfl ?_
                          refine r_ishl (pc1 := 116) rfl rfl ?_
                          refine r_goto (t := 120) rfl rfl ?_
                          exact Q38  (ishl 1 x16)  (rgt _) w
              exact Q18 _  0 0 h13 t13 s13 (rgk rfl) (rgk rfl) (Nat.lt_succ_self _) w
        exact Q14 _ _ _ x6 h9 t9 s9 rx6 (Nat.lt_succ_self _) w
      · have w := w.2 c60
        refine r_n (pc1 := 29) [.int (J x6)] _ rfl rfl ?_
        refine r_aldn (pc1 := 30) rfl rfl rfl ?_
        refine r_n (pc1 := 32) [.int (J x7), rv p0, .int (J x6)] _ rfl rfl ?_
        obtain ⟨c52, w⟩ := w
        refine r_ial (pc1 := 33) rfl rfl t5 (HXk u5 c3 rfl) rx7 c52.1 c52.2 ?_
        refine r_aldn (pc1 := 34) rfl rfl rfl ?_
        refine r_n (pc1 := 36) [.int (J x7), rv p1, .int (J (hI h5 p0 x7.toNat)), .int (J x6)] _ rfl rfl ?_
        obtain ⟨c53, w⟩ := w
        obtain ⟨c54, w⟩ := w
        refine r_ial (pc1 := 37) rfl rfl t5 c53 rx7 c54.1 c54.2 ?_
        obtain ⟨J56, j56, w⟩ := w
        have Q56 : ∀ (x55 : Int), rg x55 → J56 x55 → RR sc goal fs 204 48 [some (rv 437), some (rv p0), some (rv p1), some (rv a1), some (.int (J x6)), some (.int (J x7)), none] [.int (J x55), .int (J x6)] h5 := by
          intro x55 rx55 z56
          have w := j56 x55 rx55 z56
          refine r_ior (pc1 := 49) rfl rfl ?_
          refine r_vI (rgt _) (fun x57 ex57 rx57 => ?_)
          have w := w x57 ex57 rx57
          refine r_ist (pc1 := 51) (ls1 := [some (rv 437), some (rv p0), some (rv p1), some (rv a1), some (.int (J x57)), some (.int (J x7)), none]) rfl rfl rfl (xput1_rv rfl rfl) ?_
          refine r_inc (pc1 := 54) (g := fun zz => [some (rv 437), some (rv p0), some (rv p1), some (rv a1), some (.int (J x57)), some (.int (J zz)), none]) rfl rfl rfl rfl (fun _ => rfl) (fun x58 ex58 rx58 => ?_)
          have w := w x58 ex58 rx58
          refine r_goto (t := 20) rfl rfl ?_
          exact ih8  x57 x58  rx57 rx58 (Nat.lt_of_lt_of_le w.2 (Nat.le_of_lt_succ q8)) w.1
        refine r_ic (t := 44) (pc1 := 40) rfl rfl rfl (rgh _ _ _) (rgh _ _ _) (fun c59 => ?_) (fun c59 => ?_)
        · have w := w.1 c59
          refine r_n (pc1 := 45) [.int (J 1), .int (J x6)] _ rfl rfl ?_
          refine r_n (pc1 := 47) [.int (J x7), .int (J 1), .int (J x6)] _ rfl rfl ?_
          refine r_ishl (pc1 := 48) rfl rfl ?_
          exact Q56  (ishl 1 x7)  (rgt _) w
        · have w := w.2 c59
          refine r_n (pc1 := 41) [.int (J 0), .int (J x6)] _ rfl rfl ?_
          refine r_goto (t := 48) rfl rfl ?_
          exact Q56  0  (rgk rfl) w
  exact Q8 _  0 0  (rgk rfl) (rgk rfl) (Nat.lt_succ_self _) w
def w_X14_plan  (K : Int → XH → Prop) (h : XH) : Prop :=
  (∀ h1 : XH, h1 = sI h 437 5 0 → HT h1 → HX h h1 → w_X14_goalSet (fun a2 h3 => HT h3 → HX h1 h3 → (w_X14_isSoundSet a2 (fun x4 => rg x4 → (x4 = 0 ∨ x4 = 1) → (w_X14_refused x4 1 (fun x5 h6 => HT h6 → HX h3 h6 → rg x5 → (x5 = 0 ∨ x5 = 1) → (((x5 = 0 → (w_X14_installedSet (fun a7 h8 => HT h8 → HX h6 h8 → (w_X14_findSteps a7 a2 (fun h9 => HT h9 → HX h8 h9 → (K (hI h9 437 63) h9)) h8)) h6)) ∧ (¬ (x5 = 0) → (K 0 h6))))) h3)) h3)) h1)
set_option maxHeartbeats 4000000 in
theorem a_X14_plan {sc : Nat × (Nat → Int32)} {goal : XO → XH → Prop} {fs : List XF} {h : XH}  {K : Int → XH → Prop} (hd : fs.length + 8 ≤ 1000) (w : w_X14_plan  K h) (t0 : HT h) (k : ∀ (r : Int) (h1 : XH), HT h1 → HX h h1 → rg r → K r h1 → XFin xP sc goal fs (.inl (some (.int (J r)))) h1) : RR sc goal fs 270 0 [some (rv 437), none] [] h := by
  unfold w_X14_plan at w
  refine r_aldn (pc1 := 1) rfl rfl rfl ?_
  refine r_n (pc1 := 2) [.int (J 0), rv 437] _ rfl rfl ?_
  refine r_pfI (pc1 := 5) rfl rfl rfl t0 (lyk t0 rfl) rfl rfl rfl (fun h1 eh1 t1 u1 => ?_)
  have w := w h1 eh1 t1 u1
  have s1 := HX_trans (HX_refl h) u1
  refine r_aldn (pc1 := 6) rfl rfl rfl ?_
  refine r_iv rfl rfl rfl rfl rfl rfl t1 (lyk t1 rfl) rfl (xe_of (xa_r xa_0) rfl rfl) (r_d0 hd rfl) (a_X14_goalSet  (r_d1 hd rfl)  w t1 (fun a2 h3 t3 u3 w => ?_))
  refine r_fR (pc1 := 9) rfl ?_
  have s3 := HX_trans s1 u3
  have w := w t3 u3
  refine r_astn (pc1 := 10) (ls1 := [some (rv 437), some (rv a2)]) rfl rfl rfl rfl ?_
  refine r_aldn (pc1 := 11) rfl rfl rfl ?_
  refine r_aldn (pc1 := 12) rfl rfl rfl ?_
  refine r_aldn (pc1 := 13) rfl rfl rfl ?_
  refine r_iv rfl rfl rfl rfl rfl rfl t3 (lyk t3 rfl) rfl (xe_of (xa_r (xa_r xa_0)) rfl rfl) (r_d0 hd rfl) (a_X14_isSoundSet a2 (r_d1 hd rfl)  w t3 (fun x4 rx4 vx4 w => ?_))
  refine r_fI (pc1 := 16) rfl ?_
  have w := w rx4 vx4
  refine r_n (pc1 := 17) [.int (J 1), .int (J x4), rv 437] _ rfl rfl ?_
  refine r_iv rfl rfl rfl rfl rfl rfl t3 (lyk t3 rfl) rfl (xe_of (xa_r (xa_i (xa_i xa_0))) rfl rfl) (r_d0 hd rfl) (a_X14_refused x4 1 (r_d1 hd rfl) rx4 (rgk rfl) w t3 (fun x5 h6 t6 u6 rx5 vx5 w => ?_))
  refine r_fI (pc1 := 20) rfl ?_
  have s6 := HX_trans s3 u6
  have w := w t6 u6
  have w := w rx5 vx5
  refine r_iz (t := 25) (pc1 := 23) rfl rfl rfl rx5 (fun c10 => ?_) (fun c10 => ?_)
  · have w := w.1 c10
    refine r_aldn (pc1 := 26) rfl rfl rfl ?_
    refine r_aldn (pc1 := 27) rfl rfl rfl ?_
    refine r_iv rfl rfl rfl rfl rfl rfl t6 (lyk t6 rfl) rfl (xe_of (xa_r xa_0) rfl rfl) (r_d0 hd rfl) (a_X14_installedSet  (r_d1 hd rfl)  w t6 (fun a7 h8 t8 u8 w => ?_))
    refine r_fR (pc1 := 30) rfl ?_
    have s8 := HX_trans s6 u8
    have w := w t8 u8
    refine r_aldn (pc1 := 31) rfl rfl rfl ?_
    refine r_iv rfl rfl rfl rfl rfl rfl t8 (lyk t8 rfl) rfl (xe_of (xa_r (xa_r (xa_r xa_0))) rfl rfl) (r_d0 hd rfl) (a_X14_findSteps a7 a2 (r_d1 hd rfl)  w t8 (fun h9 t9 u9 w => ?_))
    refine r_fV (pc1 := 34) rfl ?_
    have s9 := HX_trans s8 u9
    have w := w t9 u9
    refine r_aldn (pc1 := 35) rfl rfl rfl ?_
    refine r_gfI (pc1 := 38) rfl rfl rfl t9 (lyk t9 rfl) rfl rfl ?_
    exact r_retI rfl rfl rfl (k _ _ t9 s9 (rgh _ _ _) w)
  · have w := w.2 c10
    refine r_n (pc1 := 24) [.int (J 0)] _ rfl rfl ?_
    exact r_retI rfl rfl rfl (k _ _ t6 s6 (rgk rfl) w)
def w_X12_planAt (p0 : Int) (K : Int → XH → Prop) (E : Nat → XH → Prop) (h : XH) : Prop :=
  (w_X12_checkGoalSound (fun h1 => HT h1 → HX h h1 → (w_X2_findSteps (fun h2 => HT h2 → HX h1 h2 → (∃ J3 : Prop, (J3 → (E 2 (nT h2))) ∧ ((p0 < 0 → J3) ∧ (¬ (p0 < 0) → (((p0 < hI h2 79 11 → ((0 ≤ p0 ∧ p0 < 12) ∧ K (hI h2 85 p0.toNat) h2)) ∧ (¬ (p0 < hI h2 79 11) → J3))))))) h1)) E h)
set_option maxHeartbeats 4000000 in
theorem a_X12_planAt {sc : Nat × (Nat → Int32)} {goal : XO → XH → Prop} {fs : List XF} {h : XH} (p0 : Int) {K : Int → XH → Prop} {E : Nat → XH → Prop} (hd : fs.length + 7 ≤ 1000) (rp0 : rg p0) (w : w_X12_planAt p0 K E h) (t0 : HT h) (k : ∀ (r : Int) (h1 : XH), HT h1 → HX h h1 → rg r → K r h1 → XFin xP sc goal fs (.inl (some (.int (J r)))) h1) (kE : ∀ (x : Nat) (h1 : XH), HT h1 → HX h h1 → E x h1 → XFin xP sc goal fs (.inr x) h1) : RR sc goal fs 140 0 [some (rv 2), some (.int (J p0))] [] h := by
  unfold w_X12_planAt at w
  refine r_aldn (pc1 := 1) rfl rfl rfl ?_
  refine r_iv rfl rfl rfl rfl rfl rfl t0 (lyk t0 rfl) rfl (xe_of (xa_r xa_0) rfl rfl) (r_d0 hd rfl) (a_X12_checkGoalSound  (r_d1 hd rfl)  w t0 (fun h1 t1 u1 w => ?_) (fun x y ty uy w => r_finx rfl rfl (kE x y ty (HX_trans (HX_refl h) uy) w)))
  refine r_fV (pc1 := 4) rfl ?_
  have s1 := HX_trans (HX_refl h) u1
  have w := w t1 u1
  refine r_aldn (pc1 := 5) rfl rfl rfl ?_
  refine r_gfC (pc1 := 8) (q := 79) rfl rfl rfl t1 (lyk t1 rfl) rfl rfl (lyR t1 rfl rfl) ?_
  refine r_iv rfl rfl rfl rfl rfl rfl t1 (lyk t1 rfl) rfl (xe_of (xa_r xa_0) rfl rfl) (r_d0 hd rfl) (a_X2_findSteps  (r_d1 hd rfl)  w t1 (fun h2 t2 u2 w => ?_))
  refine r_fV (pc1 := 11) rfl ?_
  have s2 := HX_trans s1 u2
  have w := w t2 u2
  refine r_n (pc1 := 12) [.int (J p0)] _ rfl rfl ?_
  obtain ⟨J3, j3, w⟩ := w
  have Q3 : J3 → RR sc goal fs 140 26 [some (rv 2), some (.int (J p0))] [] h2 := by
    intro z3
    have w := j3 z3
    exact r_thr rfl rfl rfl rfl rfl rfl (kE _ _ (HT_nT t2).1 (HX_trans s2 (HT_nT t2).2) w)
  refine r_iz (t := 26) (pc1 := 15) rfl rfl rfl rp0 (fun c6 => ?_) (fun c6 => ?_)
  · have w := w.1 c6
    exact Q3     w
  · have w := w.2 c6
    refine r_n (pc1 := 16) [.int (J p0)] _ rfl rfl ?_
    refine r_aldn (pc1 := 17) rfl rfl rfl ?_
    refine r_gfC (pc1 := 20) (q := 79) rfl rfl rfl t2 (lyk t2 rfl) rfl rfl (lyR t2 rfl rfl) ?_
    refine r_gfI (pc1 := 23) rfl rfl rfl t2 (lyk t2 rfl) rfl rfl ?_
    refine r_ic (t := 37) (pc1 := 26) rfl rfl rfl rp0 (rgh _ _ _) (fun c5 => ?_) (fun c5 => ?_)
    · have w := w.1 c5
      refine r_aldn (pc1 := 38) rfl rfl rfl ?_
      refine r_gfC (pc1 := 41) (q := 79) rfl rfl rfl t2 (lyk t2 rfl) rfl rfl (lyR t2 rfl rfl) ?_
      refine r_gfC (pc1 := 44) (q := 85) rfl rfl rfl t2 (lyk t2 rfl) rfl rfl (lyR t2 rfl rfl) ?_
      refine r_n (pc1 := 45) [.int (J p0), rv 85] _ rfl rfl ?_
      obtain ⟨c4, w⟩ := w
      refine r_ial (pc1 := 46) rfl rfl t2 (lyk t2 rfl) rp0 c4.1 (lt_len (lyn t2 rfl) c4.2) ?_
      exact r_retI rfl rfl rfl (k _ _ t2 s2 (rgh _ _ _) w)
    · have w := w.2 c5
      exact Q3     w
def w_L_planAt (p1 : Int) (K : Int → XH → Prop) (h : XH) : Prop :=
  (w_X12_planAt p1 (fun x1 h2 => HT h2 → HX h h2 → rg x1 → (∀ h5 : XH, h5 = sL h2 467 0 (i2l x1) → HT h5 → HX h2 h5 → (K 0 h5))) (fun y4 h3 => ((y4 = 0 ∧ K 1 h3) ∨ (y4 = 2 ∧ K 2 h3))) h)
set_option maxHeartbeats 4000000 in
theorem a_L_planAt {sc : Nat × (Nat → Int32)} {goal : XO → XH → Prop} {fs : List XF} {h : XH} (p1 : Int) {K : Int → XH → Prop} (hd : fs.length + 8 ≤ 1000) (rp1 : rg p1) (w : w_L_planAt p1 K h) (t0 : HT h) (k : ∀ (r : Int) (h1 : XH), HT h1 → HX h h1 → rg r → K r h1 → XFin xP sc goal fs (.inl (some (.int (J r)))) h1) : RR sc goal fs 55 0 [some (rv 2), some (.int (J p1)), some (rv 467), none] [] h := by
  unfold w_L_planAt at w
  refine r_aldn (pc1 := 1) rfl rfl rfl ?_
  refine r_n (pc1 := 2) [.int (J 0), rv 467] _ rfl rfl ?_
  refine r_aldn (pc1 := 3) rfl rfl rfl ?_
  refine r_n (pc1 := 4) [.int (J p1), rv 2, .int (J 0), rv 467] _ rfl rfl ?_
  refine r_iv rfl rfl rfl rfl rfl rfl t0 (lyk t0 rfl) rfl (xe_of (xa_r (xa_i xa_0)) rfl rfl) (r_d0 hd rfl) (a_X12_planAt p1 (r_d1 hd rfl) rp1 w t0 (fun x1 h2 t2 u2 rx1 w => ?_) (fun y4 h3 ty uy w => ?_))
  · refine r_fI (pc1 := 7) rfl ?_
    have s2 := HX_trans (HX_refl h) u2
    have w := w t2 u2
    have w := w rx1
    refine r_i2l (pc1 := 8) rfl rfl ?_
    refine r_last (pc1 := 9) rfl rfl t2 (lyk t2 rfl) (rgk rfl) (by decide) (lt_len (lyn t2 rfl) (by decide)) (fun h5 eh5 t5 u5 => ?_)
    have w := w h5 eh5 t5 u5
    have s5 := HX_trans s2 u5
    refine r_goto (t := 18) rfl rfl ?_
    refine r_n (pc1 := 19) [.int (J 0)] _ rfl rfl ?_
    exact r_retI rfl rfl rfl (k _ _ t5 s5 (rgk rfl) w)
  · rcases w with ⟨rfl, w⟩ | w
    · exact r_fink (z := 1) rfl (by decide) rfl rfl (k _ _ ty (HX_trans (HX_refl h) uy) (rgk rfl) w)
    obtain ⟨rfl, w⟩ := w
    exact r_fink (z := 2) rfl (by decide) rfl rfl (k _ _ ty (HX_trans (HX_refl h) uy) (rgk rfl) w)
def w_X14_planAt (p0 : Int) (K : Int → XH → Prop) (h : XH) : Prop :=
  (∀ h1 : XH, h1 = sI h 437 5 0 → HT h1 → HX h h1 → w_X14_goalSet (fun a2 h3 => HT h3 → HX h1 h3 → (w_X14_isSoundSet a2 (fun x4 => rg x4 → (x4 = 0 ∨ x4 = 1) → (w_X14_refused x4 1 (fun x5 h6 => HT h6 → HX h3 h6 → rg x5 → (x5 = 0 ∨ x5 = 1) → (((x5 = 0 → (w_X14_installedSet (fun a7 h8 => HT h8 → HX h6 h8 → (w_X14_findSteps a7 a2 (fun h9 => HT h9 → HX h8 h9 → (w_X14_within p0 0 (wr ((hI h9 437 63) - 1)) (fun x10 => rg x10 → (x10 = 0 ∨ x10 = 1) → (w_X14_refused x10 2 (fun x11 h12 => HT h12 → HX h9 h12 → rg x11 → (x11 = 0 ∨ x11 = 1) → (∃ J14 : Int → Prop, (∀ (x13 : Int), rg x13 → J14 x13 → (K x13 h12)) ∧ ((x11 = 0 → ((0 ≤ p0 ∧ p0 < 12) ∧ J14 (hI h12 466 p0.toNat))) ∧ (¬ (x11 = 0) → (J14 0))))) h9)) h9)) h8)) h6)) ∧ (¬ (x5 = 0) → (K 0 h6))))) h3)) h3)) h1)
set_option maxHeartbeats 4000000 in
theorem a_X14_planAt {sc : Nat × (Nat → Int32)} {goal : XO → XH → Prop} {fs : List XF} {h : XH} (p0 : Int) {K : Int → XH → Prop} (hd : fs.length + 8 ≤ 1000) (rp0 : rg p0) (w : w_X14_planAt p0 K h) (t0 : HT h) (k : ∀ (r : Int) (h1 : XH), HT h1 → HX h h1 → rg r → K r h1 → XFin xP sc goal fs (.inl (some (.int (J r)))) h1) : RR sc goal fs 271 0 [some (rv 437), some (.int (J p0)), none] [] h := by
  unfold w_X14_planAt at w
  refine r_aldn (pc1 := 1) rfl rfl rfl ?_
  refine r_n (pc1 := 2) [.int (J 0), rv 437] _ rfl rfl ?_
  refine r_pfI (pc1 := 5) rfl rfl rfl t0 (lyk t0 rfl) rfl rfl rfl (fun h1 eh1 t1 u1 => ?_)
  have w := w h1 eh1 t1 u1
  have s1 := HX_trans (HX_refl h) u1
  refine r_aldn (pc1 := 6) rfl rfl rfl ?_
  refine r_iv rfl rfl rfl rfl rfl rfl t1 (lyk t1 rfl) rfl (xe_of (xa_r xa_0) rfl rfl) (r_d0 hd rfl) (a_X14_goalSet  (r_d1 hd rfl)  w t1 (fun a2 h3 t3 u3 w => ?_))
  refine r_fR (pc1 := 9) rfl ?_
  have s3 := HX_trans s1 u3
  have w := w t3 u3
  refine r_astn (pc1 := 10) (ls1 := [some (rv 437), some (.int (J p0)), some (rv a2)]) rfl rfl rfl rfl ?_
  refine r_aldn (pc1 := 11) rfl rfl rfl ?_
  refine r_aldn (pc1 := 12) rfl rfl rfl ?_
  refine r_aldn (pc1 := 13) rfl rfl rfl ?_
  refine r_iv rfl rfl rfl rfl rfl rfl t3 (lyk t3 rfl) rfl (xe_of (xa_r (xa_r xa_0)) rfl rfl) (r_d0 hd rfl) (a_X14_isSoundSet a2 (r_d1 hd rfl)  w t3 (fun x4 rx4 vx4 w => ?_))
  refine r_fI (pc1 := 16) rfl ?_
  have w := w rx4 vx4
  refine r_n (pc1 := 17) [.int (J 1), .int (J x4), rv 437] _ rfl rfl ?_
  refine r_iv rfl rfl rfl rfl rfl rfl t3 (lyk t3 rfl) rfl (xe_of (xa_r (xa_i (xa_i xa_0))) rfl rfl) (r_d0 hd rfl) (a_X14_refused x4 1 (r_d1 hd rfl) rx4 (rgk rfl) w t3 (fun x5 h6 t6 u6 rx5 vx5 w => ?_))
  refine r_fI (pc1 := 20) rfl ?_
  have s6 := HX_trans s3 u6
  have w := w t6 u6
  have w := w rx5 vx5
  refine r_iz (t := 25) (pc1 := 23) rfl rfl rfl rx5 (fun c17 => ?_) (fun c17 => ?_)
  · have w := w.1 c17
    refine r_aldn (pc1 := 26) rfl rfl rfl ?_
    refine r_aldn (pc1 := 27) rfl rfl rfl ?_
    refine r_iv rfl rfl rfl rfl rfl rfl t6 (lyk t6 rfl) rfl (xe_of (xa_r xa_0) rfl rfl) (r_d0 hd rfl) (a_X14_installedSet  (r_d1 hd rfl)  w t6 (fun a7 h8 t8 u8 w => ?_))
    refine r_fR (pc1 := 30) rfl ?_
    have s8 := HX_trans s6 u8
    have w := w t8 u8
    refine r_aldn (pc1 := 31) rfl rfl rfl ?_
    refine r_iv rfl rfl rfl rfl rfl rfl t8 (lyk t8 rfl) rfl (xe_of (xa_r (xa_r (xa_r xa_0))) rfl rfl) (r_d0 hd rfl) (a_X14_findSteps a7 a2 (r_d1 hd rfl)  w t8 (fun h9 t9 u9 w => ?_))
    refine r_fV (pc1 := 34) rfl ?_
    have s9 := HX_trans s8 u9
    have w := w t9 u9
    refine r_aldn (pc1 := 35) rfl rfl rfl ?_
    refine r_n (pc1 := 36) [.int (J p0), rv 437] _ rfl rfl ?_
    refine r_n (pc1 := 37) [.int (J 0), .int (J p0), rv 437] _ rfl rfl ?_
    refine r_aldn (pc1 := 38) rfl rfl rfl ?_
    refine r_gfI (pc1 := 41) rfl rfl rfl t9 (lyk t9 rfl) rfl rfl ?_
    refine r_n (pc1 := 42) [.int (J 1), .int (J (hI h9 437 63)), .int (J 0), .int (J p0), rv 437] _ rfl rfl ?_
    refine r_isub (pc1 := 43) rfl rfl ?_
    refine r_iq rfl rfl rfl rfl rfl rfl (xe_of (xa_i (xa_i (xa_i xa_0))) rfl rfl) (r_d0 hd rfl) (a_X14_within p0 0 (wr ((hI h9 437 63) - 1)) (r_d1 hd rfl) rp0 (rgk rfl) (rgw _) w t9 (fun x10 rx10 vx10 w => ?_))
    refine r_fI (pc1 := 46) rfl ?_
    have w := w rx10 vx10
    refine r_n (pc1 := 47) [.int (J 2), .int (J x10), rv 437] _ rfl rfl ?_
    refine r_iv rfl rfl rfl rfl rfl rfl t9 (lyk t9 rfl) rfl (xe_of (xa_r (xa_i (xa_i xa_0))) rfl rfl) (r_d0 hd rfl) (a_X14_refused x10 2 (r_d1 hd rfl) rx10 (rgk rfl) w t9 (fun x11 h12 t12 u12 rx11 vx11 w => ?_))
    refine r_fI (pc1 := 50) rfl ?_
    have s12 := HX_trans s9 u12
    have w := w t12 u12
    have w := w rx11 vx11
    obtain ⟨J14, j14, w⟩ := w
    have Q14 : ∀ (x13 : Int), rg x13 → J14 x13 → RR sc goal fs 271 63 [some (rv 437), some (.int (J p0)), some (rv a2)] [.int (J x13)] h12 := by
      intro x13 rx13 z14
      have w := j14 x13 rx13 z14
      exact r_retI rfl rfl rfl (k _ _ t12 s12 rx13 w)
    refine r_iz (t := 57) (pc1 := 53) rfl rfl rfl rx11 (fun c16 => ?_) (fun c16 => ?_)
    · have w := w.1 c16
      refine r_aldn (pc1 := 58) rfl rfl rfl ?_
      refine r_gfC (pc1 := 61) (q := 466) rfl rfl rfl t12 (lyk t12 rfl) rfl rfl (lyR t12 rfl rfl) ?_
      refine r_n (pc1 := 62) [.int (J p0), rv 466] _ rfl rfl ?_
      obtain ⟨c15, w⟩ := w
      refine r_ial (pc1 := 63) rfl rfl t12 (lyk t12 rfl) rp0 c15.1 (lt_len (lyn t12 rfl) c15.2) ?_
      exact Q14  (hI h12 466 p0.toNat)  (rgh _ _ _) w
    · have w := w.2 c16
      refine r_n (pc1 := 54) [.int (J 0)] _ rfl rfl ?_
      refine r_goto (t := 63) rfl rfl ?_
      exact Q14  0  (rgk rfl) w
  · have w := w.2 c17
    refine r_n (pc1 := 24) [.int (J 0)] _ rfl rfl ?_
    exact r_retI rfl rfl rfl (k _ _ t6 s6 (rgk rfl) w)
def w_X14_goesWrong (p0 : Int) (p1 : Int) (p2 : Int) (K : Int → XH → Prop) (h : XH) : Prop :=
  (w_X14_putRoot 288 p0 (fun h1 => HT h1 → HX h h1 → (w_X14_putRoot 289 p1 (fun h2 => HT h2 → HX h1 h2 → (w_X14_putRoot 290 p2 (fun h3 => HT h3 → HX h2 h3 → (K (-1) h3)) h2)) h1)) h)
set_option maxHeartbeats 4000000 in
theorem a_X14_goesWrong {sc : Nat × (Nat → Int32)} {goal : XO → XH → Prop} {fs : List XF} {h : XH} (p0 : Int) (p1 : Int) (p2 : Int) {K : Int → XH → Prop} (hd : fs.length + 1 ≤ 1000) (rp0 : rg p0) (rp1 : rg p1) (rp2 : rg p2) (w : w_X14_goesWrong p0 p1 p2 K h) (t0 : HT h) (k : ∀ (r : Int) (h1 : XH), HT h1 → HX h h1 → rg r → K r h1 → XFin xP sc goal fs (.inl (some (.int (J r)))) h1) : RR sc goal fs 212 0 [some (rv 437), some (.int (J p0)), some (.int (J p1)), some (.int (J p2))] [] h := by
  unfold w_X14_goesWrong at w
  refine r_aldn (pc1 := 1) rfl rfl rfl ?_
  refine r_n (pc1 := 4) [.int (J 288), rv 437] _ rfl rfl ?_
  refine r_n (pc1 := 5) [.int (J p0), .int (J 288), rv 437] _ rfl rfl ?_
  refine r_iv rfl rfl rfl rfl rfl rfl t0 (lyk t0 rfl) rfl (xe_of (xa_r (xa_i (xa_i xa_0))) rfl rfl) (r_d0 hd rfl) (a_X14_putRoot 288 p0 (r_d1 hd rfl) (rgk rfl) rp0 w t0 (fun h1 t1 u1 w => ?_))
  refine r_fV (pc1 := 8) rfl ?_
  have s1 := HX_trans (HX_refl h) u1
  have w := w t1 u1
  refine r_aldn (pc1 := 9) rfl rfl rfl ?_
  refine r_n (pc1 := 12) [.int (J 289), rv 437] _ rfl rfl ?_
  refine r_n (pc1 := 13) [.int (J p1), .int (J 289), rv 437] _ rfl rfl ?_
  refine r_iv rfl rfl rfl rfl rfl rfl t1 (lyk t1 rfl) rfl (xe_of (xa_r (xa_i (xa_i xa_0))) rfl rfl) (r_d0 hd rfl) (a_X14_putRoot 289 p1 (r_d1 hd rfl) (rgk rfl) rp1 w t1 (fun h2 t2 u2 w => ?_))
  refine r_fV (pc1 := 16) rfl ?_
  have s2 := HX_trans s1 u2
  have w := w t2 u2
  refine r_aldn (pc1 := 17) rfl rfl rfl ?_
  refine r_n (pc1 := 20) [.int (J 290), rv 437] _ rfl rfl ?_
  refine r_n (pc1 := 21) [.int (J p2), .int (J 290), rv 437] _ rfl rfl ?_
  refine r_iv rfl rfl rfl rfl rfl rfl t2 (lyk t2 rfl) rfl (xe_of (xa_r (xa_i (xa_i xa_0))) rfl rfl) (r_d0 hd rfl) (a_X14_putRoot 290 p2 (r_d1 hd rfl) (rgk rfl) rp2 w t2 (fun h3 t3 u3 w => ?_))
  refine r_fV (pc1 := 24) rfl ?_
  have s3 := HX_trans s2 u3
  have w := w t3 u3
  refine r_n (pc1 := 25) [.int (J (-1))] _ rfl rfl ?_
  exact r_retI rfl rfl rfl (k _ _ t3 s3 (rgk rfl) w)
def w_X14_sizeOf (p0 : Nat) (K : Int → Prop) (h : XH) : Prop :=
  ((∃ (I3 : Int → Int → Prop) (m3 : Int → Int → Nat), I3 0 0 ∧ ∀ (x1 : Int) (x2 : Int), rg x1 → rg x2 → I3 x1 x2 → (((12 ≤ x2 → (K x1)) ∧ (¬ (12 ≤ x2) → (hk h p0 = 100 ∧ (0 ≤ x2 ∧ x2 < (hn h p0 : Int)) ∧ ∃ J7 : Int → Prop, (∀ (x6 : Int), rg x6 → J7 x6 → (∀ x8 : Int, x8 = wr (x1 + x6) → rg x8 → ∀ x9 : Int, x9 = wr (x2 + 1) → rg x9 → (I3 x8 x9 ∧ m3 x8 x9 < m3 x1 x2))) ∧ ((¬ hI h p0 x2.toNat = (-1) → (w_X14_slotIn p0 x2 (fun x10 => rg x10 → (w_X14_ver x10 3 (fun x11 => rg x11 → J7 x11) h)) h)) ∧ (¬ (¬ hI h p0 x2.toNat = (-1)) → (J7 0)))))))))
set_option maxHeartbeats 4000000 in
theorem a_X14_sizeOf {sc : Nat × (Nat → Int32)} {goal : XO → XH → Prop} {fs : List XF} {h : XH} (p0 : Nat) {K : Int → Prop} (hd : fs.length + 3 ≤ 1000) (w : w_X14_sizeOf p0 K h) (t0 : HT h) (k : ∀ (r : Int), rg r → K r → XFin xP sc goal fs (.inl (some (.int (J r)))) h) : RR sc goal fs 300 0 [some (rv 437), some (rv p0), none, none] [] h := by
  unfold w_X14_sizeOf at w
  refine r_n (pc1 := 1) [.int (J 0)] _ rfl rfl ?_
  refine r_istn (pc1 := 2) (ls1 := [some (rv 437), some (rv p0), some (.int (J 0)), none]) rfl rfl rfl (xput1_rv rfl rfl) ?_
  refine r_n (pc1 := 3) [.int (J 0)] _ rfl rfl ?_
  refine r_istn (pc1 := 4) (ls1 := [some (rv 437), some (rv p0), some (.int (J 0)), some (.int (J 0))]) rfl rfl rfl rfl ?_
  obtain ⟨I3, m3, w, y3⟩ := w
  have Q3 : ∀ (n : Nat)  (x1 : Int) (x2 : Int), rg x1 → rg x2 → m3 x1 x2 < n → I3 x1 x2 → RR sc goal fs 300 4 [some (rv 437), some (rv p0), some (.int (J x1)), some (.int (J x2))] [] h := by
    intro n
    induction n with
    | zero => intro x1 x2 rx1 rx2 q3 _; exact absurd q3 (Nat.not_lt_zero _)
    | succ n ih3 =>
      intro x1 x2 rx1 rx2 q3 z3
      have w := y3 x1 x2 rx1 rx2 z3
      refine r_n (pc1 := 5) [.int (J x2)] _ rfl rfl ?_
      refine r_n (pc1 := 7) [.int (J 12), .int (J x2)] _ rfl rfl ?_
      refine r_ic (t := 41) (pc1 := 10) rfl rfl rfl rx2 (rgk rfl) (fun c13 => ?_) (fun c13 => ?_)
      · have w := w.1 c13
        refine r_n (pc1 := 42) [.int (J x1)] _ rfl rfl ?_
        exact r_retI rfl rfl rfl (k _ rx1 w)
      · have w := w.2 c13
        refine r_n (pc1 := 11) [.int (J x1)] _ rfl rfl ?_
        refine r_aldn (pc1 := 12) rfl rfl rfl ?_
        refine r_n (pc1 := 13) [.int (J x2), rv p0, .int (J x1)] _ rfl rfl ?_
        obtain ⟨c4, w⟩ := w
        obtain ⟨c5, w⟩ := w
        refine r_ial (pc1 := 14) rfl rfl t0 c4 rx2 c5.1 c5.2 ?_
        refine r_n (pc1 := 15) [.int (J (-1)), .int (J (hI h p0 x2.toNat)), .int (J x1)] _ rfl rfl ?_
        obtain ⟨J7, j7, w⟩ := w
        have Q7 : ∀ (x6 : Int), rg x6 → J7 x6 → RR sc goal fs 300 33 [some (rv 437), some (rv p0), some (.int (J x1)), some (.int (J x2))] [.int (J x6), .int (J x1)] h := by
          intro x6 rx6 z7
          have w := j7 x6 rx6 z7
          refine r_iadd (pc1 := 34) rfl rfl ?_
          refine r_vI (rgw _) (fun x8 ex8 rx8 => ?_)
          have w := w x8 ex8 rx8
          refine r_istn (pc1 := 35) (ls1 := [some (rv 437), some (rv p0), some (.int (J x8)), some (.int (J x2))]) rfl rfl rfl (xput1_rv rfl rfl) ?_
          refine r_inc (pc1 := 38) (g := fun zz => [some (rv 437), some (rv p0), some (.int (J x8)), some (.int (J zz))]) rfl rfl rfl rfl (fun _ => rfl) (fun x9 ex9 rx9 => ?_)
          have w := w x9 ex9 rx9
          refine r_goto (t := 4) rfl rfl ?_
          exact ih3  x8 x9  rx8 rx9 (Nat.lt_of_lt_of_le w.2 (Nat.le_of_lt_succ q3)) w.1
        refine r_ic (t := 22) (pc1 := 18) rfl rfl rfl (rgh _ _ _) (rgk rfl) (fun c12 => ?_) (fun c12 => ?_)
        · have w := w.1 c12
          refine r_aldn (pc1 := 23) rfl rfl rfl ?_
          refine r_aldn (pc1 := 24) rfl rfl rfl ?_
          refine r_aldn (pc1 := 25) rfl rfl rfl ?_
          refine r_n (pc1 := 26) [.int (J x2), rv p0, rv 437, rv 437, .int (J x1)] _ rfl rfl ?_
          refine r_iv rfl rfl rfl rfl rfl rfl t0 (lyk t0 rfl) rfl (xe_of (xa_r (xa_r (xa_i xa_0))) rfl rfl) (r_d0 hd rfl) (a_X14_slotIn p0 x2 (r_d1 hd rfl) rx2 w t0 (fun x10 rx10 w => ?_))
          refine r_fI (pc1 := 29) rfl ?_
          have w := w rx10
          refine r_n (pc1 := 30) [.int (J 3), .int (J x10), rv 437, .int (J x1)] _ rfl rfl ?_
          refine r_iv rfl rfl rfl rfl rfl rfl t0 (lyk t0 rfl) rfl (xe_of (xa_r (xa_i (xa_i xa_0))) rfl rfl) (r_d0 hd rfl) (a_X14_ver x10 3 (r_d1 hd rfl) rx10 (rgk rfl) w t0 (fun x11 rx11 w => ?_))
          refine r_fI (pc1 := 33) rfl ?_
          have w := w rx11
          exact Q7  x11  rx11 w
        · have w := w.2 c12
          refine r_n (pc1 := 19) [.int (J 0), .int (J x1)] _ rfl rfl ?_
          refine r_goto (t := 33) rfl rfl ?_
          exact Q7  0  (rgk rfl) w
  exact Q3 _  0 0  (rgk rfl) (rgk rfl) (Nat.lt_succ_self _) w
