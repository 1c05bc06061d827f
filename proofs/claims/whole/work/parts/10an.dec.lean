/-! printed by dec.py: what each method wants, and that the machine keeps it -/ 
def w_X14_tellOf (p0 : Int) (K : XH → Prop) (h : XH) : Prop :=
  (w_X14_versionsOf p0 (fun a1 h2 => HT h2 → HX h h2 → (hk h2 a1 = 100 ∧ (hn h2 a1 : Int) < 2147483648 ∧ ∀ x5 : Int, x5 = (hn h2 a1 : Int) → rg x5 → (∃ (I17 : BitVec 64 → Int → XH → Prop) (m17 : BitVec 64 → Int → XH → Nat), I17 (0#64) 0 h2 ∧ ∀ (b6 : BitVec 64) (x7 : Int) (h16 : XH), HT h16 → HX h h16 → rg x7 → I17 b6 x7 h16 → (((x5 ≤ x7 → (w_X14_optionBit p0 (fun b18 => (w_X14_add 6 p0 (-1) b6 b18 (fun h19 => HT h19 → HX h16 h19 → ((∃ (I23 : Int → XH → Prop) (m23 : Int → XH → Nat), I23 0 h19 ∧ ∀ (x20 : Int) (h22 : XH), HT h22 → HX h h22 → rg x20 → I23 x20 h22 → (hk h22 a1 = 100 ∧ (hn h22 a1 : Int) < 2147483648 ∧ (((hn h22 a1 : Int) ≤ x20 → (K h22)) ∧ (¬ ((hn h22 a1 : Int) ≤ x20) → (∀ x26 : Int, x26 = wr (x20 + 1) → rg x26 → (∃ (I29 : Int → XH → Prop) (m29 : Int → XH → Nat), I29 x26 h22 ∧ ∀ (x27 : Int) (h28 : XH), HT h28 → HX h h28 → rg x27 → I29 x27 h28 → (hk h28 a1 = 100 ∧ (hn h28 a1 : Int) < 2147483648 ∧ (((hn h28 a1 : Int) ≤ x27 → (∀ x32 : Int, x32 = wr (x20 + 1) → rg x32 → (I23 x32 h28 ∧ m23 x32 h28 < m23 x20 h22))) ∧ (¬ ((hn h28 a1 : Int) ≤ x27) → ((0 ≤ x20 ∧ x20 < (hn h28 a1 : Int)) ∧ w_X14_ver (hI h28 a1 x20.toNat) 1 (fun x34 => rg x34 → (w_X14_bit (hI h28 a1 x20.toNat) (fun b35 => ((0 ≤ x27 ∧ x27 < (hn h28 a1 : Int)) ∧ w_X14_bit (hI h28 a1 x27.toNat) (fun b37 => (w_X14_add 7 p0 x34 (0#64) (b35 ||| b37) (fun h38 => HT h38 → HX h28 h38 → (∀ x39 : Int, x39 = wr (x27 + 1) → rg x39 → (I29 x39 h38 ∧ m29 x39 h38 < m29 x27 h28))) h28)) h28)) h28)) h28)))))))))))) h16)) h16)) ∧ (¬ (x5 ≤ x7) → (hk h16 a1 = 100 ∧ (0 ≤ x7 ∧ x7 < (hn h16 a1 : Int)) ∧ ∀ x44 : Int, x44 = hI h16 a1 x7.toNat → rg x44 → w_X14_ver x44 1 (fun x45 => rg x45 → ((∃ (I48 : Int → XH → Prop) (m48 : Int → XH → Nat), I48 0 h16 ∧ ∀ (x46 : Int) (h47 : XH), HT h47 → HX h h47 → rg x46 → I48 x46 h47 → (w_X14_ver x44 7 (fun x49 => rg x49 → (((x49 ≤ x46 → ((∃ (I57 : Int → XH → Prop) (m57 : Int → XH → Nat), I57 0 h47 ∧ ∀ (x50 : Int) (h56 : XH), HT h56 → HX h h56 → rg x50 → I57 x50 h56 → (w_X14_ver x44 12 (fun x58 => rg x58 → (((x58 ≤ x50 → (w_X14_ver x44 6 (fun x59 => rg x59 → (∃ J62 : BitVec 64 → XH → Prop, (∀ (b60 : BitVec 64) (h61 : XH), HT h61 → HX h h61 → J62 b60 h61 → (∀ x63 : Int, x63 = wr (x7 + 1) → rg x63 → (I17 b60 x63 h61 ∧ m17 b60 x63 h61 < m17 b6 x7 h16))) ∧ ((x59 ≤ 0 → J62 b6 h56) ∧ (¬ (x59 ≤ 0) → (w_X14_ver x44 6 (fun x64 => rg x64 → (∀ x65 : Int, x65 = wr (x64 - 1) → rg x65 → hk h56 (hR h56 437 6) = 106 ∧ (0 ≤ x65 ∧ x65 < (hn h56 (hR h56 437 6) : Int)) ∧ w_X14_bit x44 (fun b68 => (w_X14_optionBit p0 (fun b69 => (w_X14_addNeed 5 p0 x45 (hR h56 (hR h56 437 6) x65.toNat) (b68 ||| b69) (fun h70 => HT h70 → HX h56 h70 → (w_X14_bit x44 (fun b71 => (∀ b72 : BitVec 64, b72 = b6 ||| b71 → J62 b72 h70)) h70)) h56)) h56)) h56)) h56))))) h56)) ∧ (¬ (x58 ≤ x50) → ((∃ (I80 : Int → XH → Prop) (m80 : Int → XH → Nat), I80 0 h56 ∧ ∀ (x74 : Int) (h79 : XH), HT h79 → HX h h79 → rg x74 → I80 x74 h79 → (((hI h79 438 0 ≤ x74 → (∀ x81 : Int, x81 = wr (x50 + 1) → rg x81 → (I57 x81 h79 ∧ m57 x81 h79 < m57 x50 h56))) ∧ (¬ (hI h79 438 0 ≤ x74) → (w_X14_versionsOf x74 (fun a82 h83 => HT h83 → HX h79 h83 → (hk h83 a82 = 100 ∧ (hn h83 a82 : Int) < 2147483648 ∧ ∀ x86 : Int, x86 = (hn h83 a82 : Int) → rg x86 → (∃ (I90 : Int → XH → Prop) (m90 : Int → XH → Nat), I90 0 h83 ∧ ∀ (x87 : Int) (h89 : XH), HT h89 → HX h h89 → rg x87 → I90 x87 h89 → (((x86 ≤ x87 → (∀ x91 : Int, x91 = wr (x74 + 1) → rg x91 → (I80 x91 h89 ∧ m80 x91 h89 < m80 x74 h79))) ∧ (¬ (x86 ≤ x87) → (hk h89 a82 = 100 ∧ (0 ≤ x87 ∧ x87 < (hn h89 a82 : Int)) ∧ ∀ x94 : Int, x94 = hI h89 a82 x87.toNat → rg x94 → ∃ J96 : XH → Prop, (∀ (h95 : XH), HT h95 → HX h h95 → J96 h95 → (∀ x97 : Int, x97 = wr (x87 + 1) → rg x97 → (I90 x97 h95 ∧ m90 x97 h95 < m90 x87 h89))) ∧ ((x94 = x44 → J96 h89) ∧ (¬ (x94 = x44) → (w_X14_ver x44 (wr (13 + x50)) (fun x98 => rg x98 → (hk h89 (hR h89 437 6) = 106 ∧ (0 ≤ x98 ∧ x98 < (hn h89 (hR h89 437 6) : Int)) ∧ w_X14_meets (hR h89 (hR h89 437 6) x98.toNat) x94 (fun x101 => rg x101 → (x101 = 0 ∨ x101 = 1) → (((x101 = 0 → J96 h89) ∧ (¬ (x101 = 0) → (w_X14_bit x44 (fun b102 => (w_X14_bit x94 (fun b103 => (w_X14_add 4 p0 x45 (0#64) (b102 ||| b103) (fun h104 => HT h104 → HX h89 h104 → J96 h104) h89)) h89)) h89))))) h89)) h89)))))))))) h79)))))))))) h56)))) ∧ (¬ (x49 ≤ x46) → (w_X14_ver x44 (wr (8 + x46)) (fun x110 => rg x110 → (hk h47 (hR h47 437 6) = 106 ∧ (0 ≤ x110 ∧ x110 < (hn h47 (hR h47 437 6) : Int)) ∧ w_X14_bit x44 (fun b113 => (w_X14_addNeed 3 p0 x45 (hR h47 (hR h47 437 6) x110.toNat) b113 (fun h114 => HT h114 → HX h47 h114 → (∀ x115 : Int, x115 = wr (x46 + 1) → rg x115 → (I48 x115 h114 ∧ m48 x115 h114 < m48 x46 h47))) h47)) h47)) h47))))) h47)))) h16))))))) h)
set_option maxHeartbeats 4000000 in
theorem a_X14_tellOf {sc : Nat × (Nat → Int32)} {goal : XO → XH → Prop} {fs : List XF} {h : XH} (p0 : Int) {K : XH → Prop} (hd : fs.length + 5 ≤ 1000) (rp0 : rg p0) (w : w_X14_tellOf p0 K h) (t0 : HT h) (k : ∀ (h1 : XH), HT h1 → HX h h1 → K h1 → XFin xP sc goal fs (.inl none) h1) : RR sc goal fs 311 0 [some (rv 437), some (.int (J p0)), none, none, none, none, none, none, none, none, none, none, none, none, none, none] [] h := by
  unfold w_X14_tellOf at w
  refine r_aldn (pc1 := 1) rfl rfl rfl ?_
  refine r_n (pc1 := 2) [.int (J p0), rv 437] _ rfl rfl ?_
  refine r_iv rfl rfl rfl rfl rfl rfl t0 (lyk t0 rfl) rfl (xe_of (xa_r (xa_i xa_0)) rfl rfl) (r_d0 hd rfl) (a_X14_versionsOf p0 (r_d1 hd rfl) rp0 w t0 (fun a1 h2 t2 u2 w => ?_))
  refine r_fR (pc1 := 5) rfl ?_
  have s2 := HX_trans (HX_refl h) u2
  have w := w t2 u2
  refine r_astn (pc1 := 6) (ls1 := [some (rv 437), some (.int (J p0)), some (rv a1), none, none, none, none, none, none, none, none, none, none, none, none, none]) rfl rfl rfl rfl ?_
  refine r_n (pc1 := 7) [.long (G (0#64))] _ rfl rfl ?_
  refine r_lstn (pc1 := 8) (ls1 := [some (rv 437), some (.int (J p0)), some (rv a1), some (.long (G (0#64))), none, none, none, none, none, none, none, none, none, none, none, none]) rfl rfl rfl (xput2_rv rfl rfl) ?_
  refine r_aldn (pc1 := 9) rfl rfl rfl ?_
  refine r_ast (pc1 := 11) (ls1 := [some (rv 437), some (.int (J p0)), some (rv a1), some (.long (G (0#64))), none, some (rv a1), none, none, none, none, none, none, none, none, none, none]) rfl rfl rfl rfl ?_
  refine r_ald (pc1 := 13) rfl rfl rfl ?_
  obtain ⟨c3, w⟩ := w
  obtain ⟨c4, w⟩ := w
  refine r_len (pc1 := 14) (u := 0) rfl rfl t2 c3 (by decide) (fun rc4 => ?_) c4
  refine r_vI rc4 (fun x5 ex5 rx5 => ?_)
  have w := w x5 ex5 rx5
  refine r_ist (pc1 := 16) (ls1 := [some (rv 437), some (.int (J p0)), some (rv a1), some (.long (G (0#64))), none, some (rv a1), some (.int (J x5)), none, none, none, none, none, none, none, none, none]) rfl rfl rfl (xput1_rv rfl rfl) ?_
  refine r_n (pc1 := 17) [.int (J 0)] _ rfl rfl ?_
  refine r_ist (pc1 := 19) (ls1 := [some (rv 437), some (.int (J p0)), some (rv a1), some (.long (G (0#64))), none, some (rv a1), some (.int (J x5)), some (.int (J 0)), none, none, none, none, none, none, none, none]) rfl rfl rfl rfl ?_
  obtain ⟨I17, m17, w, y17⟩ := w
  have Q17 : ∀ (n : Nat) (d8 : Option Value) (d9 : Option Value) (d10 : Option Value) (d11 : Option Value) (d12 : Option Value) (d13 : Option Value) (d14 : Option Value) (d15 : Option Value) (b6 : BitVec 64) (x7 : Int) (h16 : XH), HT h16 → HX h h16 → rg x7 → m17 b6 x7 h16 < n → I17 b6 x7 h16 → RR sc goal fs 311 19 [some (rv 437), some (.int (J p0)), some (rv a1), some (.long (G b6)), none, some (rv a1), some (.int (J x5)), some (.int (J x7)), d8, d9, d10, d11, d12, d13, d14, d15] [] h16 := by
    intro n
    induction n with
    | zero => intro d8 d9 d10 d11 d12 d13 d14 d15 b6 x7 h16 t16 s16 rx7 q17 _; exact absurd q17 (Nat.not_lt_zero _)
    | succ n ih17 =>
      intro d8 d9 d10 d11 d12 d13 d14 d15 b6 x7 h16 t16 s16 rx7 q17 z17
      have w := y17 b6 x7 h16 t16 s16 rx7 z17
      refine r_n (pc1 := 21) [.int (J x7)] _ rfl rfl ?_
      refine r_n (pc1 := 23) [.int (J x5), .int (J x7)] _ rfl rfl ?_
      refine r_ic (t := 281) (pc1 := 26) rfl rfl rfl rx7 rx5 (fun c117 => ?_) (fun c117 => ?_)
      · have w := w.1 c117
        refine r_aldn (pc1 := 282) rfl rfl rfl ?_
        refine r_n (pc1 := 284) [.int (J 6), rv 437] _ rfl rfl ?_
        refine r_n (pc1 := 285) [.int (J p0), .int (J 6), rv 437] _ rfl rfl ?_
        refine r_n (pc1 := 286) [.int (J (-1)), .int (J p0), .int (J 6), rv 437] _ rfl rfl ?_
        refine r_n (pc1 := 287) [.long (G b6), .int (J (-1)), .int (J p0), .int (J 6), rv 437] _ rfl rfl ?_
        refine r_n (pc1 := 288) [.int (J p0), .long (G b6), .int (J (-1)), .int (J p0), .int (J 6), rv 437] _ rfl rfl ?_
        refine r_iq rfl rfl rfl rfl rfl rfl (xe_of (xa_i xa_0) rfl rfl) (r_d0 hd rfl) (a_X14_optionBit p0 (r_d1 hd rfl) rp0 w t16 (fun b18 w => ?_))
        refine r_fL (pc1 := 291) rfl ?_
        refine r_iv rfl rfl rfl rfl rfl rfl t16 (lyk t16 rfl) rfl (xe_of (xa_r (xa_i (xa_i (xa_i (xa_l (xa_l xa_0)))))) rfl rfl) (r_d0 hd rfl) (a_X14_add 6 p0 (-1) b6 b18 (r_d1 hd rfl) (rgk rfl) rp0 (rgk rfl) w t16 (fun h19 t19 u19 w => ?_))
        refine r_fV (pc1 := 294) rfl ?_
        have s19 := HX_trans s16 u19
        have w := w t19 u19
        refine r_n (pc1 := 295) [.int (J 0)] _ rfl rfl ?_
        refine r_ist (pc1 := 297) (ls1 := [some (rv 437), some (.int (J p0)), some (rv a1), some (.long (G b6)), none, some (.int (J 0)), some (.int (J x5)), some (.int (J x7)), d8, d9, d10, d11, d12, d13, d14, d15]) rfl rfl rfl rfl ?_
        obtain ⟨I23, m23, w, y23⟩ := w
        have Q23 : ∀ (n : Nat) (d21 : Option Value) (x20 : Int) (h22 : XH), HT h22 → HX h h22 → rg x20 → m23 x20 h22 < n → I23 x20 h22 → RR sc goal fs 311 297 [some (rv 437), some (.int (J p0)), some (rv a1), some (.long (G b6)), none, some (.int (J x20)), d21, some (.int (J x7)), d8, d9, d10, d11, d12, d13, d14, d15] [] h22 := by
          intro n
          induction n with
          | zero => intro d21 x20 h22 t22 s22 rx20 q23 _; exact absurd q23 (Nat.not_lt_zero _)
          | succ n ih23 =>
            intro d21 x20 h22 t22 s22 rx20 q23 z23
            have w := y23 x20 h22 t22 s22 rx20 z23
            refine r_n (pc1 := 299) [.int (J x20)] _ rfl rfl ?_
            refine r_aldn (pc1 := 300) rfl rfl rfl ?_
            obtain ⟨c24, w⟩ := w
            obtain ⟨c25, w⟩ := w
            refine r_len (pc1 := 301) (u := 0) rfl rfl t22 c24 (by decide) (fun rc25 => ?_) c25
            refine r_ic (t := 361) (pc1 := 304) rfl rfl rfl rx20 rc25 (fun c41 => ?_) (fun c41 => ?_)
            · have w := w.1 c41
              exact r_retV rfl rfl rfl (k _ t22 s22 w)
            · have w := w.2 c41
              refine r_n (pc1 := 306) [.int (J x20)] _ rfl rfl ?_
              refine r_n (pc1 := 307) [.int (J 1), .int (J x20)] _ rfl rfl ?_
              refine r_iadd (pc1 := 308) rfl rfl ?_
              refine r_vI (rgw _) (fun x26 ex26 rx26 => ?_)
              have w := w x26 ex26 rx26
              refine r_ist (pc1 := 310) (ls1 := [some (rv 437), some (.int (J p0)), some (rv a1), some (.long (G b6)), none, some (.int (J x20)), some (.int (J x26)), some (.int (J x7)), d8, d9, d10, d11, d12, d13, d14, d15]) rfl rfl rfl rfl ?_
              obtain ⟨I29, m29, w, y29⟩ := w
              have Q29 : ∀ (n : Nat)  (x27 : Int) (h28 : XH), HT h28 → HX h h28 → rg x27 → m29 x27 h28 < n → I29 x27 h28 → RR sc goal fs 311 310 [some (rv 437), some (.int (J p0)), some (rv a1), some (.long (G b6)), none, some (.int (J x20)), some (.int (J x27)), some (.int (J x7)), d8, d9, d10, d11, d12, d13, d14, d15] [] h28 := by
                intro n
                induction n with
                | zero => intro x27 h28 t28 s28 rx27 q29 _; exact absurd q29 (Nat.not_lt_zero _)
                | succ n ih29 =>
                  intro x27 h28 t28 s28 rx27 q29 z29
                  have w := y29 x27 h28 t28 s28 rx27 z29
                  refine r_n (pc1 := 312) [.int (J x27)] _ rfl rfl ?_
                  refine r_aldn (pc1 := 313) rfl rfl rfl ?_
                  obtain ⟨c30, w⟩ := w
                  obtain ⟨c31, w⟩ := w
                  refine r_len (pc1 := 314) (u := 0) rfl rfl t28 c30 (by decide) (fun rc31 => ?_) c31
                  refine r_ic (t := 355) (pc1 := 317) rfl rfl rfl rx27 rc31 (fun c40 => ?_) (fun c40 => ?_)
                  · have w := w.1 c40
                    refine r_inc (pc1 := 358) (g := fun zz => [some (rv 437), some (.int (J p0)), some (rv a1), some (.long (G b6)), none, some (.int (J zz)), some (.int (J x27)), some (.int (J x7)), d8, d9, d10, d11, d12, d13, d14, d15]) rfl rfl rfl rfl (fun _ => rfl) (fun x32 ex32 rx32 => ?_)
                    have w := w x32 ex32 rx32
                    refine r_goto (t := 297) rfl rfl ?_
                    exact ih23 _ x32 h28 t28 s28 rx32 (Nat.lt_of_lt_of_le w.2 (Nat.le_of_lt_succ q23)) w.1
                  · have w := w.2 c40
                    refine r_aldn (pc1 := 318) rfl rfl rfl ?_
                    refine r_n (pc1 := 320) [.int (J 7), rv 437] _ rfl rfl ?_
                    refine r_n (pc1 := 321) [.int (J p0), .int (J 7), rv 437] _ rfl rfl ?_
                    refine r_aldn (pc1 := 322) rfl rfl rfl ?_
                    refine r_aldn (pc1 := 323) rfl rfl rfl ?_
                    refine r_n (pc1 := 325) [.int (J x20), rv a1, rv 437, .int (J p0), .int (J 7), rv 437] _ rfl rfl ?_
                    obtain ⟨c33, w⟩ := w
                    refine r_ial (pc1 := 326) rfl rfl t28 c30 rx20 c33.1 c33.2 ?_
                    refine r_n (pc1 := 327) [.int (J 1), .int (J (hI h28 a1 x20.toNat)), rv 437, .int (J p0), .int (J 7), rv 437] _ rfl rfl ?_
                    refine r_iv rfl rfl rfl rfl rfl rfl t28 (lyk t28 rfl) rfl (xe_of (xa_r (xa_i (xa_i xa_0))) rfl rfl) (r_d0 hd rfl) (a_X14_ver (hI h28 a1 x20.toNat) 1 (r_d1 hd rfl) (rgh _ _ _) (rgk rfl) w t28 (fun x34 rx34 w => ?_))
                    refine r_fI (pc1 := 330) rfl ?_
                    have w := w rx34
                    refine r_n (pc1 := 331) [.long (G (0#64)), .int (J x34), .int (J p0), .int (J 7), rv 437] _ rfl rfl ?_
                    refine r_aldn (pc1 := 332) rfl rfl rfl ?_
                    refine r_n (pc1 := 334) [.int (J x20), rv a1, .long (G (0#64)), .int (J x34), .int (J p0), .int (J 7), rv 437] _ rfl rfl ?_
                    refine r_ial (pc1 := 335) rfl rfl t28 c30 rx20 c33.1 c33.2 ?_
                    refine r_iq rfl rfl rfl rfl rfl rfl (xe_of (xa_i xa_0) rfl rfl) (r_d0 hd rfl) (a_X14_bit (hI h28 a1 x20.toNat) (r_d1 hd rfl) (rgh _ _ _) w t28 (fun b35 w => ?_))
                    refine r_fL (pc1 := 338) rfl ?_
                    refine r_aldn (pc1 := 339) rfl rfl rfl ?_
                    refine r_n (pc1 := 341) [.int (J x27), rv a1, .long (G b35), .long (G (0#64)), .int (J x34), .int (J p0), .int (J 7), rv 437] _ rfl rfl ?_
                    obtain ⟨c36, w⟩ := w
                    refine r_ial (pc1 := 342) rfl rfl t28 c30 rx27 c36.1 c36.2 ?_
                    refine r_iq rfl rfl rfl rfl rfl rfl (xe_of (xa_i xa_0) rfl rfl) (r_d0 hd rfl) (a_X14_bit (hI h28 a1 x27.toNat) (r_d1 hd rfl) (rgh _ _ _) w t28 (fun b37 w => ?_))
                    refine r_fL (pc1 := 345) rfl ?_
                    refine r_lor (pc1 := 346) rfl rfl ?_
                    refine r_iv rfl rfl rfl rfl rfl rfl t28 (lyk t28 rfl) rfl (xe_of (xa_r (xa_i (xa_i (xa_i (xa_l (xa_l xa_0)))))) rfl rfl) (r_d0 hd rfl) (a_X14_add 7 p0 x34 (0#64) (b35 ||| b37) (r_d1 hd rfl) (rgk rfl) rp0 rx34 w t28 (fun h38 t38 u38 w => ?_))
                    refine r_fV (pc1 := 349) rfl ?_
                    have s38 := HX_trans s28 u38
                    have w := w t38 u38
                    refine r_inc (pc1 := 352) (g := fun zz => [some (rv 437), some (.int (J p0)), some (rv a1), some (.long (G b6)), none, some (.int (J x20)), some (.int (J zz)), some (.int (J x7)), d8, d9, d10, d11, d12, d13, d14, d15]) rfl rfl rfl rfl (fun _ => rfl) (fun x39 ex39 rx39 => ?_)
                    have w := w x39 ex39 rx39
                    refine r_goto (t := 310) rfl rfl ?_
                    exact ih29  x39 h38 t38 s38 rx39 (Nat.lt_of_lt_of_le w.2 (Nat.le_of_lt_succ q29)) w.1
              exact Q29 _  x26 h22 t22 s22 rx26 (Nat.lt_succ_self _) w
        exact Q23 _ _ 0 h19 t19 s19 (rgk rfl) (Nat.lt_succ_self _) w
      · have w := w.2 c117
        refine r_ald (pc1 := 28) rfl rfl rfl ?_
        refine r_n (pc1 := 30) [.int (J x7), rv a1] _ rfl rfl ?_
        obtain ⟨c42, w⟩ := w
        obtain ⟨c43, w⟩ := w
        refine r_ial (pc1 := 31) rfl rfl t16 c42 rx7 c43.1 c43.2 ?_
        refine r_vI (rgh _ _ _) (fun x44 ex44 rx44 => ?_)
        have w := w x44 ex44 rx44
        refine r_ist (pc1 := 33) (ls1 := [some (rv 437), some (.int (J p0)), some (rv a1), some (.long (G b6)), none, some (rv a1), some (.int (J x5)), some (.int (J x7)), some (.int (J x44)), d9, d10, d11, d12, d13, d14, d15]) rfl rfl rfl rfl ?_
        refine r_aldn (pc1 := 34) rfl rfl rfl ?_
        refine r_n (pc1 := 36) [.int (J x44), rv 437] _ rfl rfl ?_
        refine r_n (pc1 := 37) [.int (J 1), .int (J x44), rv 437] _ rfl rfl ?_
        refine r_iv rfl rfl rfl rfl rfl rfl t16 (lyk t16 rfl) rfl (xe_of (xa_r (xa_i (xa_i xa_0))) rfl rfl) (r_d0 hd rfl) (a_X14_ver x44 1 (r_d1 hd rfl) rx44 (rgk rfl) w t16 (fun x45 rx45 w => ?_))
        refine r_fI (pc1 := 40) rfl ?_
        have w := w rx45
        refine r_ist (pc1 := 42) (ls1 := [some (rv 437), some (.int (J p0)), some (rv a1), some (.long (G b6)), none, some (rv a1), some (.int (J x5)), some (.int (J x7)), some (.int (J x44)), some (.int (J x45)), d10, d11, d12, d13, d14, d15]) rfl rfl rfl rfl ?_
        refine r_n (pc1 := 43) [.int (J 0)] _ rfl rfl ?_
        refine r_ist (pc1 := 45) (ls1 := [some (rv 437), some (.int (J p0)), some (rv a1), some (.long (G b6)), none, some (rv a1), some (.int (J x5)), some (.int (J x7)), some (.int (J x44)), some (.int (J x45)), some (.int (J 0)), d11, d12, d13, d14, d15]) rfl rfl rfl rfl ?_
        obtain ⟨I48, m48, w, y48⟩ := w
        have Q48 : ∀ (n : Nat)  (x46 : Int) (h47 : XH), HT h47 → HX h h47 → rg x46 → m48 x46 h47 < n → I48 x46 h47 → RR sc goal fs 311 45 [some (rv 437), some (.int (J p0)), some (rv a1), some (.long (G b6)), none, some (rv a1), some (.int (J x5)), some (.int (J x7)), some (.int (J x44)), some (.int (J x45)), some (.int (J x46)), d11, d12, d13, d14, d15] [] h47 := by
          intro n
          induction n with
          | zero => intro x46 h47 t47 s47 rx46 q48 _; exact absurd q48 (Nat.not_lt_zero _)
          | succ n ih48 =>
            intro x46 h47 t47 s47 rx46 q48 z48
            have w := y48 x46 h47 t47 s47 rx46 z48
            refine r_n (pc1 := 47) [.int (J x46)] _ rfl rfl ?_
            refine r_aldn (pc1 := 48) rfl rfl rfl ?_
            refine r_n (pc1 := 50) [.int (J x44), rv 437, .int (J x46)] _ rfl rfl ?_
            refine r_n (pc1 := 52) [.int (J 7), .int (J x44), rv 437, .int (J x46)] _ rfl rfl ?_
            refine r_iv rfl rfl rfl rfl rfl rfl t47 (lyk t47 rfl) rfl (xe_of (xa_r (xa_i (xa_i xa_0))) rfl rfl) (r_d0 hd rfl) (a_X14_ver x44 7 (r_d1 hd rfl) rx44 (rgk rfl) w t47 (fun x49 rx49 w => ?_))
            refine r_fI (pc1 := 55) rfl ?_
            have w := w rx49
            refine r_ic (t := 93) (pc1 := 58) rfl rfl rfl rx46 rx49 (fun c116 => ?_) (fun c116 => ?_)
            · have w := w.1 c116
              refine r_n (pc1 := 94) [.int (J 0)] _ rfl rfl ?_
              refine r_ist (pc1 := 96) (ls1 := [some (rv 437), some (.int (J p0)), some (rv a1), some (.long (G b6)), none, some (rv a1), some (.int (J x5)), some (.int (J x7)), some (.int (J x44)), some (.int (J x45)), some (.int (J 0)), d11, d12, d13, d14, d15]) rfl rfl rfl rfl ?_
              obtain ⟨I57, m57, w, y57⟩ := w
              have Q57 : ∀ (n : Nat) (d51 : Option Value) (d52 : Option Value) (d53 : Option Value) (d54 : Option Value) (d55 : Option Value) (x50 : Int) (h56 : XH), HT h56 → HX h h56 → rg x50 → m57 x50 h56 < n → I57 x50 h56 → RR sc goal fs 311 96 [some (rv 437), some (.int (J p0)), some (rv a1), some (.long (G b6)), none, some (rv a1), some (.int (J x5)), some (.int (J x7)), some (.int (J x44)), some (.int (J x45)), some (.int (J x50)), d51, d52, d53, d54, d55] [] h56 := by
                intro n
                induction n with
                | zero => intro d51 d52 d53 d54 d55 x50 h56 t56 s56 rx50 q57 _; exact absurd q57 (Nat.not_lt_zero _)
                | succ n ih57 =>
                  intro d51 d52 d53 d54 d55 x50 h56 t56 s56 rx50 q57 z57
                  have w := y57 x50 h56 t56 s56 rx50 z57
                  refine r_n (pc1 := 98) [.int (J x50)] _ rfl rfl ?_
                  refine r_aldn (pc1 := 99) rfl rfl rfl ?_
                  refine r_n (pc1 := 101) [.int (J x44), rv 437, .int (J x50)] _ rfl rfl ?_
                  refine r_n (pc1 := 103) [.int (J 12), .int (J x44), rv 437, .int (J x50)] _ rfl rfl ?_
                  refine r_iv rfl rfl rfl rfl rfl rfl t56 (lyk t56 rfl) rfl (xe_of (xa_r (xa_i (xa_i xa_0))) rfl rfl) (r_d0 hd rfl) (a_X14_ver x44 12 (r_d1 hd rfl) rx44 (rgk rfl) w t56 (fun x58 rx58 w => ?_))
                  refine r_fI (pc1 := 106) rfl ?_
                  have w := w rx58
                  refine r_ic (t := 223) (pc1 := 109) rfl rfl rfl rx50 rx58 (fun c109 => ?_) (fun c109 => ?_)
                  · have w := w.1 c109
                    refine r_aldn (pc1 := 224) rfl rfl rfl ?_
                    refine r_n (pc1 := 226) [.int (J x44), rv 437] _ rfl rfl ?_
                    refine r_n (pc1 := 228) [.int (J 6), .int (J x44), rv 437] _ rfl rfl ?_
                    refine r_iv rfl rfl rfl rfl rfl rfl t56 (lyk t56 rfl) rfl (xe_of (xa_r (xa_i (xa_i xa_0))) rfl rfl) (r_d0 hd rfl) (a_X14_ver x44 6 (r_d1 hd rfl) rx44 (rgk rfl) w t56 (fun x59 rx59 w => ?_))
                    refine r_fI (pc1 := 231) rfl ?_
                    have w := w rx59
                    obtain ⟨J62, j62, w⟩ := w
                    have Q62 : ∀ (b60 : BitVec 64) (h61 : XH), HT h61 → HX h h61 → J62 b60 h61 → RR sc goal fs 311 275 [some (rv 437), some (.int (J p0)), some (rv a1), some (.long (G b60)), none, some (rv a1), some (.int (J x5)), some (.int (J x7)), some (.int (J x44)), some (.int (J x45)), some (.int (J x50)), d51, d52, d53, d54, d55] [] h61 := by
                      intro b60 h61 t61 s61 z62
                      have w := j62 b60 h61 t61 s61 z62
                      refine r_inc (pc1 := 278) (g := fun zz => [some (rv 437), some (.int (J p0)), some (rv a1), some (.long (G b60)), none, some (rv a1), some (.int (J x5)), some (.int (J zz)), some (.int (J x44)), some (.int (J x45)), some (.int (J x50)), d51, d52, d53, d54, d55]) rfl rfl rfl rfl (fun _ => rfl) (fun x63 ex63 rx63 => ?_)
                      have w := w x63 ex63 rx63
                      refine r_goto (t := 19) rfl rfl ?_
                      exact ih17 _ _ _ _ _ _ _ _ b60 x63 h61 t61 s61 rx63 (Nat.lt_of_lt_of_le w.2 (Nat.le_of_lt_succ q17)) w.1
                    refine r_iz (t := 275) (pc1 := 234) rfl rfl rfl rx59 (fun c73 => ?_) (fun c73 => ?_)
                    · have w := w.1 c73
                      exact Q62  b6 h56 t56 s56  w
                    · have w := w.2 c73
                      refine r_aldn (pc1 := 235) rfl rfl rfl ?_
                      refine r_n (pc1 := 236) [.int (J 5), rv 437] _ rfl rfl ?_
                      refine r_n (pc1 := 237) [.int (J p0), .int (J 5), rv 437] _ rfl rfl ?_
                      refine r_n (pc1 := 239) [.int (J x45), .int (J p0), .int (J 5), rv 437] _ rfl rfl ?_
                      refine r_aldn (pc1 := 240) rfl rfl rfl ?_
                      refine r_gfR (pc1 := 243) rfl rfl rfl t56 (lyk t56 rfl) rfl rfl ?_
                      refine r_aldn (pc1 := 244) rfl rfl rfl ?_
                      refine r_n (pc1 := 246) [.int (J x44), rv 437, rv (hR h56 437 6), .int (J x45), .int (J p0), .int (J 5), rv 437] _ rfl rfl ?_
                      refine r_n (pc1 := 248) [.int (J 6), .int (J x44), rv 437, rv (hR h56 437 6), .int (J x45), .int (J p0), .int (J 5), rv 437] _ rfl rfl ?_
                      refine r_iv rfl rfl rfl rfl rfl rfl t56 (lyk t56 rfl) rfl (xe_of (xa_r (xa_i (xa_i xa_0))) rfl rfl) (r_d0 hd rfl) (a_X14_ver x44 6 (r_d1 hd rfl) rx44 (rgk rfl) w t56 (fun x64 rx64 w => ?_))
                      refine r_fI (pc1 := 251) rfl ?_
                      have w := w rx64
                      refine r_n (pc1 := 252) [.int (J 1), .int (J x64), rv (hR h56 437 6), .int (J x45), .int (J p0), .int (J 5), rv 437] _ rfl rfl ?_
                      refine r_isub (pc1 := 253) rfl rfl ?_
                      refine r_vI (rgw _) (fun x65 ex65 rx65 => ?_)
                      have w := w x65 ex65 rx65
                      obtain ⟨c66, w⟩ := w
                      obtain ⟨c67, w⟩ := w
                      refine r_aal (pc1 := 254) (u := 6) rfl rfl t56 c66 rfl rfl rx65 c67.1 c67.2 ?_
                      refine r_n (pc1 := 256) [.int (J x44), rv (hR h56 (hR h56 437 6) x65.toNat), .int (J x45), .int (J p0), .int (J 5), rv 437] _ rfl rfl ?_
                      refine r_iq rfl rfl rfl rfl rfl rfl (xe_of (xa_i xa_0) rfl rfl) (r_d0 hd rfl) (a_X14_bit x44 (r_d1 hd rfl) rx44 w t56 (fun b68 w => ?_))
                      refine r_fL (pc1 := 259) rfl ?_
                      refine r_n (pc1 := 260) [.int (J p0), .long (G b68), rv (hR h56 (hR h56 437 6) x65.toNat), .int (J x45), .int (J p0), .int (J 5), rv 437] _ rfl rfl ?_
                      refine r_iq rfl rfl rfl rfl rfl rfl (xe_of (xa_i xa_0) rfl rfl) (r_d0 hd rfl) (a_X14_optionBit p0 (r_d1 hd rfl) rp0 w t56 (fun b69 w => ?_))
                      refine r_fL (pc1 := 263) rfl ?_
                      refine r_lor (pc1 := 264) rfl rfl ?_
                      refine r_iv rfl rfl rfl rfl rfl rfl t56 (lyk t56 rfl) rfl (xe_of (xa_r (xa_i (xa_i (xa_i (xa_r (xa_l xa_0)))))) rfl rfl) (r_d0 hd rfl) (a_X14_addNeed 5 p0 x45 (hR h56 (hR h56 437 6) x65.toNat) (b68 ||| b69) (r_d1 hd rfl) (rgk rfl) rp0 rx45 w t56 (fun h70 t70 u70 w => ?_))
                      refine r_fV (pc1 := 267) rfl ?_
                      have s70 := HX_trans s56 u70
                      have w := w t70 u70
                      refine r_n (pc1 := 268) [.long (G b6)] _ rfl rfl ?_
                      refine r_n (pc1 := 270) [.int (J x44), .long (G b6)] _ rfl rfl ?_
                      refine r_iq rfl rfl rfl rfl rfl rfl (xe_of (xa_i xa_0) rfl rfl) (r_d0 hd rfl) (a_X14_bit x44 (r_d1 hd rfl) rx44 w t70 (fun b71 w => ?_))
                      refine r_fL (pc1 := 273) rfl ?_
                      refine r_lor (pc1 := 274) rfl rfl ?_
                      refine r_vL (fun b72 eb72 => ?_)
                      have w := w b72 eb72
                      refine r_lstn (pc1 := 275) (ls1 := [some (rv 437), some (.int (J p0)), some (rv a1), some (.long (G b72)), none, some (rv a1), some (.int (J x5)), some (.int (J x7)), some (.int (J x44)), some (.int (J x45)), some (.int (J x50)), d51, d52, d53, d54, d55]) rfl rfl rfl (xput2_rv rfl rfl) ?_
                      exact Q62  b72 h70 t70 s70  w
                  · have w := w.2 c109
                    refine r_n (pc1 := 110) [.int (J 0)] _ rfl rfl ?_
                    refine r_ist (pc1 := 112) (ls1 := [some (rv 437), some (.int (J p0)), some (rv a1), some (.long (G b6)), none, some (rv a1), some (.int (J x5)), some (.int (J x7)), some (.int (J x44)), some (.int (J x45)), some (.int (J x50)), some (.int (J 0)), d52, d53, d54, d55]) rfl rfl rfl rfl ?_
                    obtain ⟨I80, m80, w, y80⟩ := w
                    have Q80 : ∀ (n : Nat) (d75 : Option Value) (d76 : Option Value) (d77 : Option Value) (d78 : Option Value) (x74 : Int) (h79 : XH), HT h79 → HX h h79 → rg x74 → m80 x74 h79 < n → I80 x74 h79 → RR sc goal fs 311 112 [some (rv 437), some (.int (J p0)), some (rv a1), some (.long (G b6)), none, some (rv a1), some (.int (J x5)), some (.int (J x7)), some (.int (J x44)), some (.int (J x45)), some (.int (J x50)), some (.int (J x74)), d75, d76, d77, d78] [] h79 := by
                      intro n
                      induction n with
                      | zero => intro d75 d76 d77 d78 x74 h79 t79 s79 rx74 q80 _; exact absurd q80 (Nat.not_lt_zero _)
                      | succ n ih80 =>
                        intro d75 d76 d77 d78 x74 h79 t79 s79 rx74 q80 z80
                        have w := y80 x74 h79 t79 s79 rx74 z80
                        refine r_n (pc1 := 114) [.int (J x74)] _ rfl rfl ?_
                        refine r_aldn (pc1 := 115) rfl rfl rfl ?_
                        refine r_gfC (pc1 := 118) (q := 438) rfl rfl rfl t79 (lyk t79 rfl) rfl rfl (lyR t79 rfl rfl) ?_
                        refine r_n (pc1 := 119) [.int (J 0), rv 438, .int (J x74)] _ rfl rfl ?_
                        refine r_ial (pc1 := 120) rfl rfl t79 (lyk t79 rfl) (rgk rfl) (by decide) (lt_len (lyn t79 rfl) (by decide)) ?_
                        refine r_ic (t := 217) (pc1 := 123) rfl rfl rfl rx74 (rgh _ _ _) (fun c108 => ?_) (fun c108 => ?_)
                        · have w := w.1 c108
                          refine r_inc (pc1 := 220) (g := fun zz => [some (rv 437), some (.int (J p0)), some (rv a1), some (.long (G b6)), none, some (rv a1), some (.int (J x5)), some (.int (J x7)), some (.int (J x44)), some (.int (J x45)), some (.int (J zz)), some (.int (J x74)), d75, d76, d77, d78]) rfl rfl rfl rfl (fun _ => rfl) (fun x81 ex81 rx81 => ?_)
                          have w := w x81 ex81 rx81
                          refine r_goto (t := 96) rfl rfl ?_
                          exact ih57 _ _ _ _ _ x81 h79 t79 s79 rx81 (Nat.lt_of_lt_of_le w.2 (Nat.le_of_lt_succ q57)) w.1
                        · have w := w.2 c108
                          refine r_aldn (pc1 := 124) rfl rfl rfl ?_
                          refine r_n (pc1 := 126) [.int (J x74), rv 437] _ rfl rfl ?_
                          refine r_iv rfl rfl rfl rfl rfl rfl t79 (lyk t79 rfl) rfl (xe_of (xa_r (xa_i xa_0)) rfl rfl) (r_d0 hd rfl) (a_X14_versionsOf x74 (r_d1 hd rfl) rx74 w t79 (fun a82 h83 t83 u83 w => ?_))
                          refine r_fR (pc1 := 129) rfl ?_
                          have s83 := HX_trans s79 u83
                          have w := w t83 u83
                          refine r_ast (pc1 := 131) (ls1 := [some (rv 437), some (.int (J p0)), some (rv a1), some (.long (G b6)), none, some (rv a1), some (.int (J x5)), some (.int (J x7)), some (.int (J x44)), some (.int (J x45)), some (.int (J x50)), some (.int (J x74)), some (rv a82), d76, d77, d78]) rfl rfl rfl rfl ?_
                          refine r_ald (pc1 := 133) rfl rfl rfl ?_
                          obtain ⟨c84, w⟩ := w
                          obtain ⟨c85, w⟩ := w
                          refine r_len (pc1 := 134) (u := 0) rfl rfl t83 c84 (by decide) (fun rc85 => ?_) c85
                          refine r_vI rc85 (fun x86 ex86 rx86 => ?_)
                          have w := w x86 ex86 rx86
                          refine r_ist (pc1 := 136) (ls1 := [some (rv 437), some (.int (J p0)), some (rv a1), some (.long (G b6)), none, some (rv a1), some (.int (J x5)), some (.int (J x7)), some (.int (J x44)), some (.int (J x45)), some (.int (J x50)), some (.int (J x74)), some (rv a82), some (.int (J x86)), d77, d78]) rfl rfl rfl (xput1_rv rfl rfl) ?_
                          refine r_n (pc1 := 137) [.int (J 0)] _ rfl rfl ?_
                          refine r_ist (pc1 := 139) (ls1 := [some (rv 437), some (.int (J p0)), some (rv a1), some (.long (G b6)), none, some (rv a1), some (.int (J x5)), some (.int (J x7)), some (.int (J x44)), some (.int (J x45)), some (.int (J x50)), some (.int (J x74)), some (rv a82), some (.int (J x86)), some (.int (J 0)), d78]) rfl rfl rfl rfl ?_
                          obtain ⟨I90, m90, w, y90⟩ := w
                          have Q90 : ∀ (n : Nat) (d88 : Option Value) (x87 : Int) (h89 : XH), HT h89 → HX h h89 → rg x87 → m90 x87 h89 < n → I90 x87 h89 → RR sc goal fs 311 139 [some (rv 437), some (.int (J p0)), some (rv a1), some (.long (G b6)), none, some (rv a1), some (.int (J x5)), some (.int (J x7)), some (.int (J x44)), some (.int (J x45)), some (.int (J x50)), some (.int (J x74)), some (rv a82), some (.int (J x86)), some (.int (J x87)), d88] [] h89 := by
                            intro n
                            induction n with
                            | zero => intro d88 x87 h89 t89 s89 rx87 q90 _; exact absurd q90 (Nat.not_lt_zero _)
                            | succ n ih90 =>
                              intro d88 x87 h89 t89 s89 rx87 q90 z90
                              have w := y90 x87 h89 t89 s89 rx87 z90
                              refine r_n (pc1 := 141) [.int (J x87)] _ rfl rfl ?_
                              refine r_n (pc1 := 143) [.int (J x86), .int (J x87)] _ rfl rfl ?_
                              refine r_ic (t := 211) (pc1 := 146) rfl rfl rfl rx87 rx86 (fun c107 => ?_) (fun c107 => ?_)
                              · have w := w.1 c107
                                refine r_inc (pc1 := 214) (g := fun zz => [some (rv 437), some (.int (J p0)), some (rv a1), some (.long (G b6)), none, some (rv a1), some (.int (J x5)), some (.int (J x7)), some (.int (J x44)), some (.int (J x45)), some (.int (J x50)), some (.int (J zz)), some (rv a82), some (.int (J x86)), some (.int (J x87)), d88]) rfl rfl rfl rfl (fun _ => rfl) (fun x91 ex91 rx91 => ?_)
                                have w := w x91 ex91 rx91
                                refine r_goto (t := 112) rfl rfl ?_
                                exact ih80 _ _ _ _ x91 h89 t89 s89 rx91 (Nat.lt_of_lt_of_le w.2 (Nat.le_of_lt_succ q80)) w.1
                              · have w := w.2 c107
                                refine r_ald (pc1 := 148) rfl rfl rfl ?_
                                refine r_n (pc1 := 150) [.int (J x87), rv a82] _ rfl rfl ?_
                                obtain ⟨c92, w⟩ := w
                                obtain ⟨c93, w⟩ := w
                                refine r_ial (pc1 := 151) rfl rfl t89 c92 rx87 c93.1 c93.2 ?_
                                refine r_vI (rgh _ _ _) (fun x94 ex94 rx94 => ?_)
                                have w := w x94 ex94 rx94
                                refine r_ist (pc1 := 153) (ls1 := [some (rv 437), some (.int (J p0)), some (rv a1), some (.long (G b6)), none, some (rv a1), some (.int (J x5)), some (.int (J x7)), some (.int (J x44)), some (.int (J x45)), some (.int (J x50)), some (.int (J x74)), some (rv a82), some (.int (J x86)), some (.int (J x87)), some (.int (J x94))]) rfl rfl rfl rfl ?_
                                refine r_n (pc1 := 155) [.int (J x94)] _ rfl rfl ?_
                                refine r_n (pc1 := 157) [.int (J x44), .int (J x94)] _ rfl rfl ?_
                                obtain ⟨J96, j96, w⟩ := w
                                have Q96 : ∀ (h95 : XH), HT h95 → HX h h95 → J96 h95 → RR sc goal fs 311 205 [some (rv 437), some (.int (J p0)), some (rv a1), some (.long (G b6)), none, some (rv a1), some (.int (J x5)), some (.int (J x7)), some (.int (J x44)), some (.int (J x45)), some (.int (J x50)), some (.int (J x74)), some (rv a82), some (.int (J x86)), some (.int (J x87)), some (.int (J x94))] [] h95 := by
                                  intro h95 t95 s95 z96
                                  have w := j96 h95 t95 s95 z96
                                  refine r_inc (pc1 := 208) (g := fun zz => [some (rv 437), some (.int (J p0)), some (rv a1), some (.long (G b6)), none, some (rv a1), some (.int (J x5)), some (.int (J x7)), some (.int (J x44)), some (.int (J x45)), some (.int (J x50)), some (.int (J x74)), some (rv a82), some (.int (J x86)), some (.int (J zz)), some (.int (J x94))]) rfl rfl rfl rfl (fun _ => rfl) (fun x97 ex97 rx97 => ?_)
                                  have w := w x97 ex97 rx97
                                  refine r_goto (t := 139) rfl rfl ?_
                                  exact ih90 _ x97 h95 t95 s95 rx97 (Nat.lt_of_lt_of_le w.2 (Nat.le_of_lt_succ q90)) w.1
                                refine r_ic (t := 205) (pc1 := 160) rfl rfl rfl rx94 rx44 (fun c106 => ?_) (fun c106 => ?_)
                                · have w := w.1 c106
                                  exact Q96   h89 t89 s89  w
                                · have w := w.2 c106
                                  refine r_aldn (pc1 := 161) rfl rfl rfl ?_
                                  refine r_aldn (pc1 := 162) rfl rfl rfl ?_
                                  refine r_gfR (pc1 := 165) rfl rfl rfl t89 (lyk t89 rfl) rfl rfl ?_
                                  refine r_aldn (pc1 := 166) rfl rfl rfl ?_
                                  refine r_n (pc1 := 168) [.int (J x44), rv 437, rv (hR h89 437 6), rv 437] _ rfl rfl ?_
                                  refine r_n (pc1 := 170) [.int (J 13), .int (J x44), rv 437, rv (hR h89 437 6), rv 437] _ rfl rfl ?_
                                  refine r_n (pc1 := 172) [.int (J x50), .int (J 13), .int (J x44), rv 437, rv (hR h89 437 6), rv 437] _ rfl rfl ?_
                                  refine r_iadd (pc1 := 173) rfl rfl ?_
                                  refine r_iv rfl rfl rfl rfl rfl rfl t89 (lyk t89 rfl) rfl (xe_of (xa_r (xa_i (xa_i xa_0))) rfl rfl) (r_d0 hd rfl) (a_X14_ver x44 (wr (13 + x50)) (r_d1 hd rfl) rx44 (rgw _) w t89 (fun x98 rx98 w => ?_))
                                  refine r_fI (pc1 := 176) rfl ?_
                                  have w := w rx98
                                  obtain ⟨c99, w⟩ := w
                                  obtain ⟨c100, w⟩ := w
                                  refine r_aal (pc1 := 177) (u := 6) rfl rfl t89 c99 rfl rfl rx98 c100.1 c100.2 ?_
                                  refine r_n (pc1 := 179) [.int (J x94), rv (hR h89 (hR h89 437 6) x98.toNat), rv 437] _ rfl rfl ?_
                                  refine r_iv rfl rfl rfl rfl rfl rfl t89 (lyk t89 rfl) rfl (xe_of (xa_r (xa_r (xa_i xa_0))) rfl rfl) (r_d0 hd rfl) (a_X14_meets (hR h89 (hR h89 437 6) x98.toNat) x94 (r_d1 hd rfl) rx94 w t89 (fun x101 rx101 vx101 w => ?_))
                                  refine r_fI (pc1 := 182) rfl ?_
                                  have w := w rx101 vx101
                                  refine r_iz (t := 205) (pc1 := 185) rfl rfl rfl rx101 (fun c105 => ?_) (fun c105 => ?_)
                                  · have w := w.1 c105
                                    exact Q96   h89 t89 s89  w
                                  · have w := w.2 c105
                                    refine r_aldn (pc1 := 186) rfl rfl rfl ?_
                                    refine r_n (pc1 := 187) [.int (J 4), rv 437] _ rfl rfl ?_
                                    refine r_n (pc1 := 188) [.int (J p0), .int (J 4), rv 437] _ rfl rfl ?_
                                    refine r_n (pc1 := 190) [.int (J x45), .int (J p0), .int (J 4), rv 437] _ rfl rfl ?_
                                    refine r_n (pc1 := 191) [.long (G (0#64)), .int (J x45), .int (J p0), .int (J 4), rv 437] _ rfl rfl ?_
                                    refine r_n (pc1 := 193) [.int (J x44), .long (G (0#64)), .int (J x45), .int (J p0), .int (J 4), rv 437] _ rfl rfl ?_
                                    refine r_iq rfl rfl rfl rfl rfl rfl (xe_of (xa_i xa_0) rfl rfl) (r_d0 hd rfl) (a_X14_bit x44 (r_d1 hd rfl) rx44 w t89 (fun b102 w => ?_))
                                    refine r_fL (pc1 := 196) rfl ?_
                                    refine r_n (pc1 := 198) [.int (J x94), .long (G b102), .long (G (0#64)), .int (J x45), .int (J p0), .int (J 4), rv 437] _ rfl rfl ?_
                                    refine r_iq rfl rfl rfl rfl rfl rfl (xe_of (xa_i xa_0) rfl rfl) (r_d0 hd rfl) (a_X14_bit x94 (r_d1 hd rfl) rx94 w t89 (fun b103 w => ?_))
                                    refine r_fL (pc1 := 201) rfl ?_
                                    refine r_lor (pc1 := 202) rfl rfl ?_
                                    refine r_iv rfl rfl rfl rfl rfl rfl t89 (lyk t89 rfl) rfl (xe_of (xa_r (xa_i (xa_i (xa_i (xa_l (xa_l xa_0)))))) rfl rfl) (r_d0 hd rfl) (a_X14_add 4 p0 x45 (0#64) (b102 ||| b103) (r_d1 hd rfl) (rgk rfl) rp0 rx45 w t89 (fun h104 t104 u104 w => ?_))
                                    refine r_fV (pc1 := 205) rfl ?_
                                    have s104 := HX_trans s89 u104
                                    have w := w t104 u104
                                    exact Q96   h104 t104 s104  w
                          exact Q90 _ _ 0 h83 t83 s83 (rgk rfl) (Nat.lt_succ_self _) w
                    exact Q80 _ _ _ _ _ 0 h56 t56 s56 (rgk rfl) (Nat.lt_succ_self _) w
              exact Q57 _ _ _ _ _ _ 0 h47 t47 s47 (rgk rfl) (Nat.lt_succ_self _) w
            · have w := w.2 c116
              refine r_aldn (pc1 := 59) rfl rfl rfl ?_
              refine r_n (pc1 := 60) [.int (J 3), rv 437] _ rfl rfl ?_
              refine r_n (pc1 := 61) [.int (J p0), .int (J 3), rv 437] _ rfl rfl ?_
              refine r_n (pc1 := 63) [.int (J x45), .int (J p0), .int (J 3), rv 437] _ rfl rfl ?_
              refine r_aldn (pc1 := 64) rfl rfl rfl ?_
              refine r_gfR (pc1 := 67) rfl rfl rfl t47 (lyk t47 rfl) rfl rfl ?_
              refine r_aldn (pc1 := 68) rfl rfl rfl ?_
              refine r_n (pc1 := 70) [.int (J x44), rv 437, rv (hR h47 437 6), .int (J x45), .int (J p0), .int (J 3), rv 437] _ rfl rfl ?_
              refine r_n (pc1 := 72) [.int (J 8), .int (J x44), rv 437, rv (hR h47 437 6), .int (J x45), .int (J p0), .int (J 3), rv 437] _ rfl rfl ?_
              refine r_n (pc1 := 74) [.int (J x46), .int (J 8), .int (J x44), rv 437, rv (hR h47 437 6), .int (J x45), .int (J p0), .int (J 3), rv 437] _ rfl rfl ?_
              refine r_iadd (pc1 := 75) rfl rfl ?_
              refine r_iv rfl rfl rfl rfl rfl rfl t47 (lyk t47 rfl) rfl (xe_of (xa_r (xa_i (xa_i xa_0))) rfl rfl) (r_d0 hd rfl) (a_X14_ver x44 (wr (8 + x46)) (r_d1 hd rfl) rx44 (rgw _) w t47 (fun x110 rx110 w => ?_))
              refine r_fI (pc1 := 78) rfl ?_
              have w := w rx110
              obtain ⟨c111, w⟩ := w
              obtain ⟨c112, w⟩ := w
              refine r_aal (pc1 := 79) (u := 6) rfl rfl t47 c111 rfl rfl rx110 c112.1 c112.2 ?_
              refine r_n (pc1 := 81) [.int (J x44), rv (hR h47 (hR h47 437 6) x110.toNat), .int (J x45), .int (J p0), .int (J 3), rv 437] _ rfl rfl ?_
              refine r_iq rfl rfl rfl rfl rfl rfl (xe_of (xa_i xa_0) rfl rfl) (r_d0 hd rfl) (a_X14_bit x44 (r_d1 hd rfl) rx44 w t47 (fun b113 w => ?_))
              refine r_fL (pc1 := 84) rfl ?_
              refine r_iv rfl rfl rfl rfl rfl rfl t47 (lyk t47 rfl) rfl (xe_of (xa_r (xa_i (xa_i (xa_i (xa_r (xa_l xa_0)))))) rfl rfl) (r_d0 hd rfl) (a_X14_addNeed 3 p0 x45 (hR h47 (hR h47 437 6) x110.toNat) b113 (r_d1 hd rfl) (rgk rfl) rp0 rx45 w t47 (fun h114 t114 u114 w => ?_))
              refine r_fV (pc1 := 87) rfl ?_
              have s114 := HX_trans s47 u114
              have w := w t114 u114
              refine r_inc (pc1 := 90) (g := fun zz => [some (rv 437), some (.int (J p0)), some (rv a1), some (.long (G b6)), none, some (rv a1), some (.int (J x5)), some (.int (J x7)), some (.int (J x44)), some (.int (J x45)), some (.int (J zz)), d11, d12, d13, d14, d15]) rfl rfl rfl rfl (fun _ => rfl) (fun x115 ex115 rx115 => ?_)
              have w := w x115 ex115 rx115
              refine r_goto (t := 45) rfl rfl ?_
              exact ih48  x115 h114 t114 s114 rx115 (Nat.lt_of_lt_of_le w.2 (Nat.le_of_lt_succ q48)) w.1
        exact Q48 _  0 h16 t16 s16 (rgk rfl) (Nat.lt_succ_self _) w
  exact Q17 _ _ _ _ _ _ _ _ _ (0#64) 0 h2 t2 s2 (rgk rfl) (Nat.lt_succ_self _) w
def w_X14_tellClauses  (K : XH → Prop) (h : XH) : Prop :=
  (((¬ hI h 437 30 = hI h 437 4 → (∀ h1 : XH, h1 = sI h 437 30 (hI h 437 4) → HT h1 → HX h h1 → ∀ h2 : XH, h2 = sI h1 437 29 0 → HT h2 → HX h1 h2 → w_X14_installedSet (fun a3 h4 => HT h4 → HX h2 h4 → ((∃ (I7 : Int → XH → Prop) (m7 : Int → XH → Nat), I7 0 h4 ∧ ∀ (x5 : Int) (h6 : XH), HT h6 → HX h h6 → rg x5 → I7 x5 h6 → (w_X14_rootAt 0 (fun x8 => rg x8 → (((x8 ≤ x5 → ((∃ (I15 : Int → XH → Prop) (m15 : Int → XH → Nat), I15 0 h6 ∧ ∀ (x9 : Int) (h14 : XH), HT h14 → HX h h14 → rg x9 → I15 x9 h14 → (((hI h14 438 0 ≤ x9 → ((∃ (I24 : Int → XH → Prop) (m24 : Int → XH → Nat), I24 0 h14 ∧ ∀ (x17 : Int) (h23 : XH), HT h23 → HX h h23 → rg x17 → I24 x17 h23 → (((hI h23 438 0 ≤ x17 → ((∃ (I28 : Int → XH → Prop) (m28 : Int → XH → Nat), I28 0 h23 ∧ ∀ (x26 : Int) (h27 : XH), HT h27 → HX h h27 → rg x26 → I28 x26 h27 → (((hI h27 438 0 ≤ x26 → (K h27)) ∧ (¬ (hI h27 438 0 ≤ x26) → (w_X14_tellOf x26 (fun h29 => HT h29 → HX h27 h29 → (∀ x30 : Int, x30 = wr (x26 + 1) → rg x30 → (I28 x30 h29 ∧ m28 x30 h29 < m28 x26 h27))) h27))))))) ∧ (¬ (hI h23 438 0 ≤ x17) → (w_X14_rootAt (wr (10 + x17)) (fun x32 => rg x32 → (w_X14_versionsOf x17 (fun a33 h34 => HT h34 → HX h23 h34 → (hk h34 a33 = 100 ∧ (hn h34 a33 : Int) < 2147483648 ∧ ∀ x37 : Int, x37 = (hn h34 a33 : Int) → rg x37 → (∃ (I41 : Int → XH → Prop) (m41 : Int → XH → Nat), I41 0 h34 ∧ ∀ (x38 : Int) (h40 : XH), HT h40 → HX h h40 → rg x38 → I41 x38 h40 → (((x37 ≤ x38 → (∀ x42 : Int, x42 = wr (x17 + 1) → rg x42 → (I24 x42 h40 ∧ m24 x42 h40 < m24 x17 h23))) ∧ (¬ (x37 ≤ x38) → (hk h40 a33 = 100 ∧ (0 ≤ x38 ∧ x38 < (hn h40 a33 : Int)) ∧ ∀ x45 : Int, x45 = hI h40 a33 x38.toNat → rg x45 → ∃ J47 : XH → Prop, (∀ (h46 : XH), HT h46 → HX h h46 → J47 h46 → (∀ x48 : Int, x48 = wr (x38 + 1) → rg x48 → (I41 x48 h46 ∧ m41 x48 h46 < m41 x38 h40))) ∧ ((x32 ≤ 0 → J47 h40) ∧ (¬ (x32 ≤ 0) → (∀ x49 : Int, x49 = wr (x32 - 1) → rg x49 → hk h40 (hR h40 437 6) = 106 ∧ (0 ≤ x49 ∧ x49 < (hn h40 (hR h40 437 6) : Int)) ∧ w_X14_ver x45 1 (fun x52 => rg x52 → (w_X14_meetsRange (hR h40 (hR h40 437 6) x49.toNat) 0 x52 (fun x53 => rg x53 → (x53 = 0 ∨ x53 = 1) → (((¬ x53 = 0 → J47 h40) ∧ (¬ (¬ x53 = 0) → (w_X14_bit x45 (fun b54 => (w_X14_add 2 x17 (-1) (0#64) b54 (fun h55 => HT h55 → HX h40 h55 → J47 h55) h40)) h40))))) h40)) h40)))))))))) h23)) h23))))))) ∧ (¬ (hI h14 438 0 ≤ x9) → (w_X14_isHeld x9 (fun x60 => rg x60 → (x60 = 0 ∨ x60 = 1) → (∃ J66 : XH → Prop, (∀ (h65 : XH), HT h65 → HX h h65 → J66 h65 → (∀ x67 : Int, x67 = wr (x9 + 1) → rg x67 → (I15 x67 h65 ∧ m15 x67 h65 < m15 x9 h14))) ∧ ((¬ x60 = 0 → (hk h14 a3 = 100 ∧ (0 ≤ x9 ∧ x9 < (hn h14 a3 : Int)) ∧ ((hI h14 a3 x9.toNat = (-1) → (w_X14_versionsOf x9 (fun a70 h71 => HT h71 → HX h14 h71 → (hk h71 a70 = 100 ∧ (hn h71 a70 : Int) < 2147483648 ∧ ∀ x74 : Int, x74 = (hn h71 a70 : Int) → rg x74 → (∃ (I78 : Int → XH → Prop) (m78 : Int → XH → Nat), I78 0 h71 ∧ ∀ (x75 : Int) (h77 : XH), HT h77 → HX h h77 → rg x75 → I78 x75 h77 → (((x74 ≤ x75 → J66 h77) ∧ (¬ (x74 ≤ x75) → (hk h77 a70 = 100 ∧ (0 ≤ x75 ∧ x75 < (hn h77 a70 : Int)) ∧ ∀ x81 : Int, x81 = hI h77 a70 x75.toNat → rg x81 → w_X14_bit x81 (fun b82 => (w_X14_add 1 x9 (-1) (0#64) b82 (fun h83 => HT h83 → HX h77 h83 → (∀ x84 : Int, x84 = wr (x75 + 1) → rg x84 → (I78 x84 h83 ∧ m78 x84 h83 < m78 x75 h77))) h77)) h77))))))) h14)) ∧ (¬ (hI h14 a3 x9.toNat = (-1)) → (w_X14_slotIn a3 x9 (fun x86 => rg x86 → (w_X14_bit x86 (fun b87 => (w_X14_add 1 x9 (-1) b87 (0#64) (fun h88 => HT h88 → HX h14 h88 → (w_X14_isOnIn a3 x9 (fun x89 => rg x89 → (x89 = 0 ∨ x89 = 1) → (∃ J91 : BitVec 64 → Prop, (∀ (b90 : BitVec 64), J91 b90 → (w_X14_isOnIn a3 x9 (fun x92 => rg x92 → (x92 = 0 ∨ x92 = 1) → (∃ J94 : BitVec 64 → Prop, (∀ (b93 : BitVec 64), J94 b93 → (w_X14_add 1 x9 (-1) b90 b93 (fun h95 => HT h95 → HX h88 h95 → (J66 h95)) h88)) ∧ ((x92 = 0 → (w_X14_optionBit x9 (fun b96 => J94 b96) h88)) ∧ (¬ (x92 = 0) → (J94 (0#64)))))) h88)) ∧ ((x89 = 0 → (J91 (0#64))) ∧ (¬ (x89 = 0) → (w_X14_optionBit x9 (fun b98 => (J91 b98)) h88))))) h88)) h14)) h14)) h14))))) ∧ (¬ (¬ x60 = 0) → (J66 h14))))) h14))))))) ∧ (¬ (x8 ≤ x5) → (w_X14_wishAt x5 (fun a103 => (∃ J105 : XH → Prop, (∀ (h104 : XH), HT h104 → HX h h104 → J105 h104 → (∀ x106 : Int, x106 = wr (x5 + 1) → rg x106 → (I7 x106 h104 ∧ m7 x106 h104 < m7 x5 h6))) ∧ ((a103 = 0 → J105 h6) ∧ (¬ (a103 = 0) → (w_X14_wishAt x5 (fun a107 => (w_X14_addNeed 0 x5 (-1) a107 (0#64) (fun h108 => HT h108 → HX h6 h108 → J105 h108) h6)) h6))))) h6))))) h6)))) h2)) ∧ (¬ (¬ hI h 437 30 = hI h 437 4) → (K h))))
set_option maxHeartbeats 4000000 in
theorem a_X14_tellClauses {sc : Nat × (Nat → Int32)} {goal : XO → XH → Prop} {fs : List XF} {h : XH}  {K : XH → Prop} (hd : fs.length + 6 ≤ 1000) (w : w_X14_tellClauses  K h) (t0 : HT h) (k : ∀ (h1 : XH), HT h1 → HX h h1 → K h1 → XFin xP sc goal fs (.inl none) h1) : RR sc goal fs 310 0 [some (rv 437), none, none, none, none, none, none, none] [] h := by
  unfold w_X14_tellClauses at w
  refine r_aldn (pc1 := 1) rfl rfl rfl ?_
  refine r_gfI (pc1 := 4) rfl rfl rfl t0 (lyk t0 rfl) rfl rfl ?_
  refine r_aldn (pc1 := 5) rfl rfl rfl ?_
  refine r_gfI (pc1 := 8) rfl rfl rfl t0 (lyk t0 rfl) rfl rfl ?_
  refine r_ic (t := 12) (pc1 := 11) rfl rfl rfl (rgh _ _ _) (rgh _ _ _) (fun c111 => ?_) (fun c111 => ?_)
  · have w := w.1 c111
    refine r_aldn (pc1 := 13) rfl rfl rfl ?_
    refine r_aldn (pc1 := 14) rfl rfl rfl ?_
    refine r_gfI (pc1 := 17) rfl rfl rfl t0 (lyk t0 rfl) rfl rfl ?_
    refine r_pfI (pc1 := 20) rfl rfl rfl t0 (lyk t0 rfl) rfl rfl rfl (fun h1 eh1 t1 u1 => ?_)
    have w := w h1 eh1 t1 u1
    have s1 := HX_trans (HX_refl h) u1
    refine r_aldn (pc1 := 21) rfl rfl rfl ?_
    refine r_n (pc1 := 22) [.int (J 0), rv 437] _ rfl rfl ?_
    refine r_pfI (pc1 := 25) rfl rfl rfl t1 (lyk t1 rfl) rfl rfl rfl (fun h2 eh2 t2 u2 => ?_)
    have w := w h2 eh2 t2 u2
    have s2 := HX_trans s1 u2
    refine r_aldn (pc1 := 26) rfl rfl rfl ?_
    refine r_iv rfl rfl rfl rfl rfl rfl t2 (lyk t2 rfl) rfl (xe_of (xa_r xa_0) rfl rfl) (r_d0 hd rfl) (a_X14_installedSet  (r_d1 hd rfl)  w t2 (fun a3 h4 t4 u4 w => ?_))
    refine r_fR (pc1 := 29) rfl ?_
    have s4 := HX_trans s2 u4
    have w := w t4 u4
    refine r_astn (pc1 := 30) (ls1 := [some (rv 437), some (rv a3), none, none, none, none, none, none]) rfl rfl rfl rfl ?_
    refine r_n (pc1 := 31) [.int (J 0)] _ rfl rfl ?_
    refine r_istn (pc1 := 32) (ls1 := [some (rv 437), some (rv a3), some (.int (J 0)), none, none, none, none, none]) rfl rfl rfl (xput1_rv rfl rfl) ?_
    obtain ⟨I7, m7, w, y7⟩ := w
    have Q7 : ∀ (n : Nat)  (x5 : Int) (h6 : XH), HT h6 → HX h h6 → rg x5 → m7 x5 h6 < n → I7 x5 h6 → RR sc goal fs 310 32 [some (rv 437), some (rv a3), some (.int (J x5)), none, none, none, none, none] [] h6 := by
      intro n
      induction n with
      | zero => intro x5 h6 t6 s6 rx5 q7 _; exact absurd q7 (Nat.not_lt_zero _)
      | succ n ih7 =>
        intro x5 h6 t6 s6 rx5 q7 z7
        have w := y7 x5 h6 t6 s6 rx5 z7
        refine r_n (pc1 := 33) [.int (J x5)] _ rfl rfl ?_
        refine r_aldn (pc1 := 34) rfl rfl rfl ?_
        refine r_n (pc1 := 35) [.int (J 0), rv 437, .int (J x5)] _ rfl rfl ?_
        refine r_iv rfl rfl rfl rfl rfl rfl t6 (lyk t6 rfl) rfl (xe_of (xa_r (xa_i xa_0)) rfl rfl) (r_d0 hd rfl) (a_X14_rootAt 0 (r_d1 hd rfl) (rgk rfl) w t6 (fun x8 rx8 w => ?_))
        refine r_fI (pc1 := 38) rfl ?_
        have w := w rx8
        refine r_ic (t := 68) (pc1 := 41) rfl rfl rfl rx5 rx8 (fun c110 => ?_) (fun c110 => ?_)
        · have w := w.1 c110
          refine r_n (pc1 := 69) [.int (J 0)] _ rfl rfl ?_
          refine r_istn (pc1 := 70) (ls1 := [some (rv 437), some (rv a3), some (.int (J 0)), none, none, none, none, none]) rfl rfl rfl (xput1_rv rfl rfl) ?_
          obtain ⟨I15, m15, w, y15⟩ := w
          have Q15 : ∀ (n : Nat) (d10 : Option Value) (d11 : Option Value) (d12 : Option Value) (d13 : Option Value) (x9 : Int) (h14 : XH), HT h14 → HX h h14 → rg x9 → m15 x9 h14 < n → I15 x9 h14 → RR sc goal fs 310 70 [some (rv 437), some (rv a3), some (.int (J x9)), d10, d11, d12, d13, none] [] h14 := by
            intro n
            induction n with
            | zero => intro d10 d11 d12 d13 x9 h14 t14 s14 rx9 q15 _; exact absurd q15 (Nat.not_lt_zero _)
            | succ n ih15 =>
              intro d10 d11 d12 d13 x9 h14 t14 s14 rx9 q15 z15
              have w := y15 x9 h14 t14 s14 rx9 z15
              refine r_n (pc1 := 71) [.int (J x9)] _ rfl rfl ?_
              refine r_aldn (pc1 := 72) rfl rfl rfl ?_
              refine r_gfC (pc1 := 75) (q := 438) rfl rfl rfl t14 (lyk t14 rfl) rfl rfl (lyR t14 rfl rfl) ?_
              refine r_n (pc1 := 76) [.int (J 0), rv 438, .int (J x9)] _ rfl rfl ?_
              refine r_ial (pc1 := 77) rfl rfl t14 (lyk t14 rfl) (rgk rfl) (by decide) (lt_len (lyn t14 rfl) (by decide)) ?_
              refine r_ic (t := 208) (pc1 := 80) rfl rfl rfl rx9 (rgh _ _ _) (fun c102 => ?_) (fun c102 => ?_)
              · have w := w.1 c102
                refine r_n (pc1 := 209) [.int (J 0)] _ rfl rfl ?_
                refine r_istn (pc1 := 210) (ls1 := [some (rv 437), some (rv a3), some (.int (J 0)), d10, d11, d12, d13, none]) rfl rfl rfl (xput1_rv rfl rfl) ?_
                obtain ⟨I24, m24, w, y24⟩ := w
                have Q24 : ∀ (n : Nat) (d16 : Option Value) (d18 : Option Value) (d19 : Option Value) (d20 : Option Value) (d21 : Option Value) (d22 : Option Value) (x17 : Int) (h23 : XH), HT h23 → HX h h23 → rg x17 → m24 x17 h23 < n → I24 x17 h23 → RR sc goal fs 310 210 [some (rv 437), d16, some (.int (J x17)), d18, d19, d20, d21, d22] [] h23 := by
                  intro n
                  induction n with
                  | zero => intro d16 d18 d19 d20 d21 d22 x17 h23 t23 s23 rx17 q24 _; exact absurd q24 (Nat.not_lt_zero _)
                  | succ n ih24 =>
                    intro d16 d18 d19 d20 d21 d22 x17 h23 t23 s23 rx17 q24 z24
                    have w := y24 x17 h23 t23 s23 rx17 z24
                    refine r_n (pc1 := 211) [.int (J x17)] _ rfl rfl ?_
                    refine r_aldn (pc1 := 212) rfl rfl rfl ?_
                    refine r_gfC (pc1 := 215) (q := 438) rfl rfl rfl t23 (lyk t23 rfl) rfl rfl (lyR t23 rfl rfl) ?_
                    refine r_n (pc1 := 216) [.int (J 0), rv 438, .int (J x17)] _ rfl rfl ?_
                    refine r_ial (pc1 := 217) rfl rfl t23 (lyk t23 rfl) (rgk rfl) (by decide) (lt_len (lyn t23 rfl) (by decide)) ?_
                    refine r_ic (t := 309) (pc1 := 220) rfl rfl rfl rx17 (rgh _ _ _) (fun c59 => ?_) (fun c59 => ?_)
                    · have w := w.1 c59
                      refine r_n (pc1 := 310) [.int (J 0)] _ rfl rfl ?_
                      refine r_istn (pc1 := 311) (ls1 := [some (rv 437), (dcl d16), some (.int (J 0)), d18, d19, d20, d21, d22]) rfl rfl rfl (xput1_d rfl rfl) ?_
                      obtain ⟨I28, m28, w, y28⟩ := w
                      have Q28 : ∀ (n : Nat) (d25 : Option Value) (x26 : Int) (h27 : XH), HT h27 → HX h h27 → rg x26 → m28 x26 h27 < n → I28 x26 h27 → RR sc goal fs 310 311 [some (rv 437), d25, some (.int (J x26)), d18, d19, d20, d21, d22] [] h27 := by
                        intro n
                        induction n with
                        | zero => intro d25 x26 h27 t27 s27 rx26 q28 _; exact absurd q28 (Nat.not_lt_zero _)
                        | succ n ih28 =>
                          intro d25 x26 h27 t27 s27 rx26 q28 z28
                          have w := y28 x26 h27 t27 s27 rx26 z28
                          refine r_n (pc1 := 312) [.int (J x26)] _ rfl rfl ?_
                          refine r_aldn (pc1 := 313) rfl rfl rfl ?_
                          refine r_gfC (pc1 := 316) (q := 438) rfl rfl rfl t27 (lyk t27 rfl) rfl rfl (lyR t27 rfl rfl) ?_
                          refine r_n (pc1 := 317) [.int (J 0), rv 438, .int (J x26)] _ rfl rfl ?_
                          refine r_ial (pc1 := 318) rfl rfl t27 (lyk t27 rfl) (rgk rfl) (by decide) (lt_len (lyn t27 rfl) (by decide)) ?_
                          refine r_ic (t := 332) (pc1 := 321) rfl rfl rfl rx26 (rgh _ _ _) (fun c31 => ?_) (fun c31 => ?_)
                          · have w := w.1 c31
                            exact r_retV rfl rfl rfl (k _ t27 s27 w)
                          · have w := w.2 c31
                            refine r_aldn (pc1 := 322) rfl rfl rfl ?_
                            refine r_n (pc1 := 323) [.int (J x26), rv 437] _ rfl rfl ?_
                            refine r_iv rfl rfl rfl rfl rfl rfl t27 (lyk t27 rfl) rfl (xe_of (xa_r (xa_i xa_0)) rfl rfl) (r_d0 hd rfl) (a_X14_tellOf x26 (r_d1 hd rfl) rx26 w t27 (fun h29 t29 u29 w => ?_))
                            refine r_fV (pc1 := 326) rfl ?_
                            have s29 := HX_trans s27 u29
                            have w := w t29 u29
                            refine r_inc (pc1 := 329) (g := fun zz => [some (rv 437), (dcl d25), some (.int (J zz)), d18, d19, d20, d21, d22]) rfl rfl rfl rfl (fun _ => xput1_d rfl rfl) (fun x30 ex30 rx30 => ?_)
                            have w := w x30 ex30 rx30
                            refine r_goto (t := 311) rfl rfl ?_
                            exact ih28 _ x30 h29 t29 s29 rx30 (Nat.lt_of_lt_of_le w.2 (Nat.le_of_lt_succ q28)) w.1
                      exact Q28 _ _ 0 h23 t23 s23 (rgk rfl) (Nat.lt_succ_self _) w
                    · have w := w.2 c59
                      refine r_aldn (pc1 := 221) rfl rfl rfl ?_
                      refine r_n (pc1 := 223) [.int (J 10), rv 437] _ rfl rfl ?_
                      refine r_n (pc1 := 224) [.int (J x17), .int (J 10), rv 437] _ rfl rfl ?_
                      refine r_iadd (pc1 := 225) rfl rfl ?_
                      refine r_iv rfl rfl rfl rfl rfl rfl t23 (lyk t23 rfl) rfl (xe_of (xa_r (xa_i xa_0)) rfl rfl) (r_d0 hd rfl) (a_X14_rootAt (wr (10 + x17)) (r_d1 hd rfl) (rgw _) w t23 (fun x32 rx32 w => ?_))
                      refine r_fI (pc1 := 228) rfl ?_
                      have w := w rx32
                      refine r_istn (pc1 := 229) (ls1 := [some (rv 437), d16, some (.int (J x17)), some (.int (J x32)), d19, d20, d21, d22]) rfl rfl rfl rfl ?_
                      refine r_aldn (pc1 := 230) rfl rfl rfl ?_
                      refine r_n (pc1 := 231) [.int (J x17), rv 437] _ rfl rfl ?_
                      refine r_iv rfl rfl rfl rfl rfl rfl t23 (lyk t23 rfl) rfl (xe_of (xa_r (xa_i xa_0)) rfl rfl) (r_d0 hd rfl) (a_X14_versionsOf x17 (r_d1 hd rfl) rx17 w t23 (fun a33 h34 t34 u34 w => ?_))
                      refine r_fR (pc1 := 234) rfl ?_
                      have s34 := HX_trans s23 u34
                      have w := w t34 u34
                      refine r_ast (pc1 := 236) (ls1 := [some (rv 437), d16, some (.int (J x17)), some (.int (J x32)), some (rv a33), d20, d21, d22]) rfl rfl rfl rfl ?_
                      refine r_ald (pc1 := 238) rfl rfl rfl ?_
                      obtain ⟨c35, w⟩ := w
                      obtain ⟨c36, w⟩ := w
                      refine r_len (pc1 := 239) (u := 0) rfl rfl t34 c35 (by decide) (fun rc36 => ?_) c36
                      refine r_vI rc36 (fun x37 ex37 rx37 => ?_)
                      have w := w x37 ex37 rx37
                      refine r_ist (pc1 := 241) (ls1 := [some (rv 437), d16, some (.int (J x17)), some (.int (J x32)), some (rv a33), some (.int (J x37)), d21, d22]) rfl rfl rfl (xput1_rv rfl rfl) ?_
                      refine r_n (pc1 := 242) [.int (J 0)] _ rfl rfl ?_
                      refine r_ist (pc1 := 244) (ls1 := [some (rv 437), d16, some (.int (J x17)), some (.int (J x32)), some (rv a33), some (.int (J x37)), some (.int (J 0)), d22]) rfl rfl rfl rfl ?_
                      obtain ⟨I41, m41, w, y41⟩ := w
                      have Q41 : ∀ (n : Nat) (d39 : Option Value) (x38 : Int) (h40 : XH), HT h40 → HX h h40 → rg x38 → m41 x38 h40 < n → I41 x38 h40 → RR sc goal fs 310 244 [some (rv 437), d16, some (.int (J x17)), some (.int (J x32)), some (rv a33), some (.int (J x37)), some (.int (J x38)), d39] [] h40 := by
                        intro n
                        induction n with
                        | zero => intro d39 x38 h40 t40 s40 rx38 q41 _; exact absurd q41 (Nat.not_lt_zero _)
                        | succ n ih41 =>
                          intro d39 x38 h40 t40 s40 rx38 q41 z41
                          have w := y41 x38 h40 t40 s40 rx38 z41
                          refine r_n (pc1 := 246) [.int (J x38)] _ rfl rfl ?_
                          refine r_n (pc1 := 248) [.int (J x37), .int (J x38)] _ rfl rfl ?_
                          refine r_ic (t := 303) (pc1 := 251) rfl rfl rfl rx38 rx37 (fun c58 => ?_) (fun c58 => ?_)
                          · have w := w.1 c58
                            refine r_inc (pc1 := 306) (g := fun zz => [some (rv 437), (dcl d16), some (.int (J zz)), some (.int (J x32)), some (rv a33), some (.int (J x37)), some (.int (J x38)), d39]) rfl rfl rfl rfl (fun _ => xput1_d rfl rfl) (fun x42 ex42 rx42 => ?_)
                            have w := w x42 ex42 rx42
                            refine r_goto (t := 210) rfl rfl ?_
                            exact ih24 _ _ _ _ _ _ x42 h40 t40 s40 rx42 (Nat.lt_of_lt_of_le w.2 (Nat.le_of_lt_succ q24)) w.1
                          · have w := w.2 c58
                            refine r_ald (pc1 := 253) rfl rfl rfl ?_
                            refine r_n (pc1 := 255) [.int (J x38), rv a33] _ rfl rfl ?_
                            obtain ⟨c43, w⟩ := w
                            obtain ⟨c44, w⟩ := w
                            refine r_ial (pc1 := 256) rfl rfl t40 c43 rx38 c44.1 c44.2 ?_
                            refine r_vI (rgh _ _ _) (fun x45 ex45 rx45 => ?_)
                            have w := w x45 ex45 rx45
                            refine r_ist (pc1 := 258) (ls1 := [some (rv 437), d16, some (.int (J x17)), some (.int (J x32)), some (rv a33), some (.int (J x37)), some (.int (J x38)), some (.int (J x45))]) rfl rfl rfl rfl ?_
                            refine r_n (pc1 := 259) [.int (J x32)] _ rfl rfl ?_
                            obtain ⟨J47, j47, w⟩ := w
                            have Q47 : ∀ (h46 : XH), HT h46 → HX h h46 → J47 h46 → RR sc goal fs 310 297 [some (rv 437), d16, some (.int (J x17)), some (.int (J x32)), some (rv a33), some (.int (J x37)), some (.int (J x38)), some (.int (J x45))] [] h46 := by
                              intro h46 t46 s46 z47
                              have w := j47 h46 t46 s46 z47
                              refine r_inc (pc1 := 300) (g := fun zz => [some (rv 437), d16, some (.int (J x17)), some (.int (J x32)), some (rv a33), some (.int (J x37)), some (.int (J zz)), some (.int (J x45))]) rfl rfl rfl rfl (fun _ => rfl) (fun x48 ex48 rx48 => ?_)
                              have w := w x48 ex48 rx48
                              refine r_goto (t := 244) rfl rfl ?_
                              exact ih41 _ x48 h46 t46 s46 rx48 (Nat.lt_of_lt_of_le w.2 (Nat.le_of_lt_succ q41)) w.1
                            refine r_iz (t := 297) (pc1 := 262) rfl rfl rfl rx32 (fun c57 => ?_) (fun c57 => ?_)
                            · have w := w.1 c57
                              exact Q47   h40 t40 s40  w
                            · have w := w.2 c57
                              refine r_aldn (pc1 := 263) rfl rfl rfl ?_
                              refine r_gfR (pc1 := 266) rfl rfl rfl t40 (lyk t40 rfl) rfl rfl ?_
                              refine r_n (pc1 := 267) [.int (J x32), rv (hR h40 437 6)] _ rfl rfl ?_
                              refine r_n (pc1 := 268) [.int (J 1), .int (J x32), rv (hR h40 437 6)] _ rfl rfl ?_
                              refine r_isub (pc1 := 269) rfl rfl ?_
                              refine r_vI (rgw _) (fun x49 ex49 rx49 => ?_)
                              have w := w x49 ex49 rx49
                              obtain ⟨c50, w⟩ := w
                              obtain ⟨c51, w⟩ := w
                              refine r_aal (pc1 := 270) (u := 6) rfl rfl t40 c50 rfl rfl rx49 c51.1 c51.2 ?_
                              refine r_n (pc1 := 271) [.int (J 0), rv (hR h40 (hR h40 437 6) x49.toNat)] _ rfl rfl ?_
                              refine r_aldn (pc1 := 272) rfl rfl rfl ?_
                              refine r_n (pc1 := 274) [.int (J x45), rv 437, .int (J 0), rv (hR h40 (hR h40 437 6) x49.toNat)] _ rfl rfl ?_
                              refine r_n (pc1 := 275) [.int (J 1), .int (J x45), rv 437, .int (J 0), rv (hR h40 (hR h40 437 6) x49.toNat)] _ rfl rfl ?_
                              refine r_iv rfl rfl rfl rfl rfl rfl t40 (lyk t40 rfl) rfl (xe_of (xa_r (xa_i (xa_i xa_0))) rfl rfl) (r_d0 hd rfl) (a_X14_ver x45 1 (r_d1 hd rfl) rx45 (rgk rfl) w t40 (fun x52 rx52 w => ?_))
                              refine r_fI (pc1 := 278) rfl ?_
                              have w := w rx52
                              refine r_iq rfl rfl rfl rfl rfl rfl (xe_of (xa_r (xa_i (xa_i xa_0))) rfl rfl) (r_d0 hd rfl) (a_X14_meetsRange (hR h40 (hR h40 437 6) x49.toNat) 0 x52 (r_d1 hd rfl) (rgk rfl) rx52 w t40 (fun x53 rx53 vx53 w => ?_))
                              refine r_fI (pc1 := 281) rfl ?_
                              have w := w rx53 vx53
                              refine r_iz (t := 297) (pc1 := 284) rfl rfl rfl rx53 (fun c56 => ?_) (fun c56 => ?_)
                              · have w := w.1 c56
                                exact Q47   h40 t40 s40  w
                              · have w := w.2 c56
                                refine r_aldn (pc1 := 285) rfl rfl rfl ?_
                                refine r_n (pc1 := 286) [.int (J 2), rv 437] _ rfl rfl ?_
                                refine r_n (pc1 := 287) [.int (J x17), .int (J 2), rv 437] _ rfl rfl ?_
                                refine r_n (pc1 := 288) [.int (J (-1)), .int (J x17), .int (J 2), rv 437] _ rfl rfl ?_
                                refine r_n (pc1 := 289) [.long (G (0#64)), .int (J (-1)), .int (J x17), .int (J 2), rv 437] _ rfl rfl ?_
                                refine r_n (pc1 := 291) [.int (J x45), .long (G (0#64)), .int (J (-1)), .int (J x17), .int (J 2), rv 437] _ rfl rfl ?_
                                refine r_iq rfl rfl rfl rfl rfl rfl (xe_of (xa_i xa_0) rfl rfl) (r_d0 hd rfl) (a_X14_bit x45 (r_d1 hd rfl) rx45 w t40 (fun b54 w => ?_))
                                refine r_fL (pc1 := 294) rfl ?_
                                refine r_iv rfl rfl rfl rfl rfl rfl t40 (lyk t40 rfl) rfl (xe_of (xa_r (xa_i (xa_i (xa_i (xa_l (xa_l xa_0)))))) rfl rfl) (r_d0 hd rfl) (a_X14_add 2 x17 (-1) (0#64) b54 (r_d1 hd rfl) (rgk rfl) rx17 (rgk rfl) w t40 (fun h55 t55 u55 w => ?_))
                                refine r_fV (pc1 := 297) rfl ?_
                                have s55 := HX_trans s40 u55
                                have w := w t55 u55
                                exact Q47   h55 t55 s55  w
                      exact Q41 _ _ 0 h34 t34 s34 (rgk rfl) (Nat.lt_succ_self _) w
                exact Q24 _ _ _ _ _ _ _ 0 h14 t14 s14 (rgk rfl) (Nat.lt_succ_self _) w
              · have w := w.2 c102
                refine r_aldn (pc1 := 81) rfl rfl rfl ?_
                refine r_n (pc1 := 82) [.int (J x9), rv 437] _ rfl rfl ?_
                refine r_iv rfl rfl rfl rfl rfl rfl t14 (lyk t14 rfl) rfl (xe_of (xa_r (xa_i xa_0)) rfl rfl) (r_d0 hd rfl) (a_X14_isHeld x9 (r_d1 hd rfl) rx9 w t14 (fun x60 rx60 vx60 w => ?_))
                refine r_fI (pc1 := 85) rfl ?_
                have w := w rx60 vx60
                obtain ⟨J66, j66, w⟩ := w
                have Q66 : ∀ (d61 : Option Value) (d62 : Option Value) (d63 : Option Value) (d64 : Option Value) (h65 : XH), HT h65 → HX h h65 → J66 h65 → RR sc goal fs 310 202 [some (rv 437), some (rv a3), some (.int (J x9)), d61, d62, d63, d64, none] [] h65 := by
                  intro d61 d62 d63 d64 h65 t65 s65 z66
                  have w := j66 h65 t65 s65 z66
                  refine r_inc (pc1 := 205) (g := fun zz => [some (rv 437), some (rv a3), some (.int (J zz)), d61, d62, d63, d64, none]) rfl rfl rfl rfl (fun _ => xput1_rv rfl rfl) (fun x67 ex67 rx67 => ?_)
                  have w := w x67 ex67 rx67
                  refine r_goto (t := 70) rfl rfl ?_
                  exact ih15 _ _ _ _ x67 h65 t65 s65 rx67 (Nat.lt_of_lt_of_le w.2 (Nat.le_of_lt_succ q15)) w.1
                refine r_iz (t := 91) (pc1 := 88) rfl rfl rfl rx60 (fun c101 => ?_) (fun c101 => ?_)
                · have w := w.1 c101
                  refine r_aldn (pc1 := 92) rfl rfl rfl ?_
                  refine r_n (pc1 := 93) [.int (J x9), rv a3] _ rfl rfl ?_
                  obtain ⟨c68, w⟩ := w
                  obtain ⟨c69, w⟩ := w
                  refine r_ial (pc1 := 94) rfl rfl t14 c68 rx9 c69.1 c69.2 ?_
                  refine r_n (pc1 := 95) [.int (J (-1)), .int (J (hI h14 a3 x9.toNat))] _ rfl rfl ?_
                  refine r_ic (t := 157) (pc1 := 98) rfl rfl rfl (rgh _ _ _) (rgk rfl) (fun c100 => ?_) (fun c100 => ?_)
                  · have w := w.1 c100
                    refine r_aldn (pc1 := 158) rfl rfl rfl ?_
                    refine r_n (pc1 := 159) [.int (J x9), rv 437] _ rfl rfl ?_
                    refine r_iv rfl rfl rfl rfl rfl rfl t14 (lyk t14 rfl) rfl (xe_of (xa_r (xa_i xa_0)) rfl rfl) (r_d0 hd rfl) (a_X14_versionsOf x9 (r_d1 hd rfl) rx9 w t14 (fun a70 h71 t71 u71 w => ?_))
                    refine r_fR (pc1 := 162) rfl ?_
                    have s71 := HX_trans s14 u71
                    have w := w t71 u71
                    refine r_astn (pc1 := 163) (ls1 := [some (rv 437), some (rv a3), some (.int (J x9)), some (rv a70), d11, d12, d13, none]) rfl rfl rfl rfl ?_
                    refine r_aldn (pc1 := 164) rfl rfl rfl ?_
                    obtain ⟨c72, w⟩ := w
                    obtain ⟨c73, w⟩ := w
                    refine r_len (pc1 := 165) (u := 0) rfl rfl t71 c72 (by decide) (fun rc73 => ?_) c73
                    refine r_vI rc73 (fun x74 ex74 rx74 => ?_)
                    have w := w x74 ex74 rx74
                    refine r_ist (pc1 := 167) (ls1 := [some (rv 437), some (rv a3), some (.int (J x9)), some (rv a70), some (.int (J x74)), d12, d13, none]) rfl rfl rfl (xput1_rv rfl rfl) ?_
                    refine r_n (pc1 := 168) [.int (J 0)] _ rfl rfl ?_
                    refine r_ist (pc1 := 170) (ls1 := [some (rv 437), some (rv a3), some (.int (J x9)), some (rv a70), some (.int (J x74)), some (.int (J 0)), d13, none]) rfl rfl rfl rfl ?_
                    obtain ⟨I78, m78, w, y78⟩ := w
                    have Q78 : ∀ (n : Nat) (d76 : Option Value) (x75 : Int) (h77 : XH), HT h77 → HX h h77 → rg x75 → m78 x75 h77 < n → I78 x75 h77 → RR sc goal fs 310 170 [some (rv 437), some (rv a3), some (.int (J x9)), some (rv a70), some (.int (J x74)), some (.int (J x75)), d76, none] [] h77 := by
                      intro n
                      induction n with
                      | zero => intro d76 x75 h77 t77 s77 rx75 q78 _; exact absurd q78 (Nat.not_lt_zero _)
                      | succ n ih78 =>
                        intro d76 x75 h77 t77 s77 rx75 q78 z78
                        have w := y78 x75 h77 t77 s77 rx75 z78
                        refine r_n (pc1 := 172) [.int (J x75)] _ rfl rfl ?_
                        refine r_n (pc1 := 174) [.int (J x74), .int (J x75)] _ rfl rfl ?_
                        refine r_ic (t := 202) (pc1 := 177) rfl rfl rfl rx75 rx74 (fun c85 => ?_) (fun c85 => ?_)
                        · have w := w.1 c85
                          exact Q66 _ _ _ _  h77 t77 s77  w
                        · have w := w.2 c85
                          refine r_aldn (pc1 := 178) rfl rfl rfl ?_
                          refine r_n (pc1 := 180) [.int (J x75), rv a70] _ rfl rfl ?_
                          obtain ⟨c79, w⟩ := w
                          obtain ⟨c80, w⟩ := w
                          refine r_ial (pc1 := 181) rfl rfl t77 c79 rx75 c80.1 c80.2 ?_
                          refine r_vI (rgh _ _ _) (fun x81 ex81 rx81 => ?_)
                          have w := w x81 ex81 rx81
                          refine r_ist (pc1 := 183) (ls1 := [some (rv 437), some (rv a3), some (.int (J x9)), some (rv a70), some (.int (J x74)), some (.int (J x75)), some (.int (J x81)), none]) rfl rfl rfl rfl ?_
                          refine r_aldn (pc1 := 184) rfl rfl rfl ?_
                          refine r_n (pc1 := 185) [.int (J 1), rv 437] _ rfl rfl ?_
                          refine r_n (pc1 := 186) [.int (J x9), .int (J 1), rv 437] _ rfl rfl ?_
                          refine r_n (pc1 := 187) [.int (J (-1)), .int (J x9), .int (J 1), rv 437] _ rfl rfl ?_
                          refine r_n (pc1 := 188) [.long (G (0#64)), .int (J (-1)), .int (J x9), .int (J 1), rv 437] _ rfl rfl ?_
                          refine r_n (pc1 := 190) [.int (J x81), .long (G (0#64)), .int (J (-1)), .int (J x9), .int (J 1), rv 437] _ rfl rfl ?_
                          refine r_iq rfl rfl rfl rfl rfl rfl (xe_of (xa_i xa_0) rfl rfl) (r_d0 hd rfl) (a_X14_bit x81 (r_d1 hd rfl) rx81 w t77 (fun b82 w => ?_))
                          refine r_fL (pc1 := 193) rfl ?_
                          refine r_iv rfl rfl rfl rfl rfl rfl t77 (lyk t77 rfl) rfl (xe_of (xa_r (xa_i (xa_i (xa_i (xa_l (xa_l xa_0)))))) rfl rfl) (r_d0 hd rfl) (a_X14_add 1 x9 (-1) (0#64) b82 (r_d1 hd rfl) (rgk rfl) rx9 (rgk rfl) w t77 (fun h83 t83 u83 w => ?_))
                          refine r_fV (pc1 := 196) rfl ?_
                          have s83 := HX_trans s77 u83
                          have w := w t83 u83
                          refine r_inc (pc1 := 199) (g := fun zz => [some (rv 437), some (rv a3), some (.int (J x9)), some (rv a70), some (.int (J x74)), some (.int (J zz)), some (.int (J x81)), none]) rfl rfl rfl rfl (fun _ => rfl) (fun x84 ex84 rx84 => ?_)
                          have w := w x84 ex84 rx84
                          refine r_goto (t := 170) rfl rfl ?_
                          exact ih78 _ x84 h83 t83 s83 rx84 (Nat.lt_of_lt_of_le w.2 (Nat.le_of_lt_succ q78)) w.1
                    exact Q78 _ _ 0 h71 t71 s71 (rgk rfl) (Nat.lt_succ_self _) w
                  · have w := w.2 c100
                    refine r_aldn (pc1 := 99) rfl rfl rfl ?_
                    refine r_n (pc1 := 100) [.int (J 1), rv 437] _ rfl rfl ?_
                    refine r_n (pc1 := 101) [.int (J x9), .int (J 1), rv 437] _ rfl rfl ?_
                    refine r_n (pc1 := 102) [.int (J (-1)), .int (J x9), .int (J 1), rv 437] _ rfl rfl ?_
                    refine r_aldn (pc1 := 103) rfl rfl rfl ?_
                    refine r_aldn (pc1 := 104) rfl rfl rfl ?_
                    refine r_n (pc1 := 105) [.int (J x9), rv a3, rv 437, .int (J (-1)), .int (J x9), .int (J 1), rv 437] _ rfl rfl ?_
                    refine r_iv rfl rfl rfl rfl rfl rfl t14 (lyk t14 rfl) rfl (xe_of (xa_r (xa_r (xa_i xa_0))) rfl rfl) (r_d0 hd rfl) (a_X14_slotIn a3 x9 (r_d1 hd rfl) rx9 w t14 (fun x86 rx86 w => ?_))
                    refine r_fI (pc1 := 108) rfl ?_
                    have w := w rx86
                    refine r_iq rfl rfl rfl rfl rfl rfl (xe_of (xa_i xa_0) rfl rfl) (r_d0 hd rfl) (a_X14_bit x86 (r_d1 hd rfl) rx86 w t14 (fun b87 w => ?_))
                    refine r_fL (pc1 := 111) rfl ?_
                    refine r_n (pc1 := 112) [.long (G (0#64)), .long (G b87), .int (J (-1)), .int (J x9), .int (J 1), rv 437] _ rfl rfl ?_
                    refine r_iv rfl rfl rfl rfl rfl rfl t14 (lyk t14 rfl) rfl (xe_of (xa_r (xa_i (xa_i (xa_i (xa_l (xa_l xa_0)))))) rfl rfl) (r_d0 hd rfl) (a_X14_add 1 x9 (-1) b87 (0#64) (r_d1 hd rfl) (rgk rfl) rx9 (rgk rfl) w t14 (fun h88 t88 u88 w => ?_))
                    refine r_fV (pc1 := 115) rfl ?_
                    have s88 := HX_trans s14 u88
                    have w := w t88 u88
                    refine r_aldn (pc1 := 116) rfl rfl rfl ?_
                    refine r_n (pc1 := 117) [.int (J 1), rv 437] _ rfl rfl ?_
                    refine r_n (pc1 := 118) [.int (J x9), .int (J 1), rv 437] _ rfl rfl ?_
                    refine r_n (pc1 := 119) [.int (J (-1)), .int (J x9), .int (J 1), rv 437] _ rfl rfl ?_
                    refine r_aldn (pc1 := 120) rfl rfl rfl ?_
                    refine r_n (pc1 := 121) [.int (J x9), rv a3, .int (J (-1)), .int (J x9), .int (J 1), rv 437] _ rfl rfl ?_
                    refine r_iq rfl rfl rfl rfl rfl rfl (xe_of (xa_r (xa_i xa_0)) rfl rfl) (r_d0 hd rfl) (a_X14_isOnIn a3 x9 (r_d1 hd rfl) rx9 w t88 (fun x89 rx89 vx89 w => ?_))
                    refine r_fI (pc1 := 124) rfl ?_
                    have w := w rx89 vx89
                    obtain ⟨J91, j91, w⟩ := w
                    have Q91 : ∀ (b90 : BitVec 64), J91 b90 → RR sc goal fs 310 135 [some (rv 437), some (rv a3), some (.int (J x9)), d10, d11, d12, d13, none] [.long (G b90), .int (J (-1)), .int (J x9), .int (J 1), rv 437] h88 := by
                      intro b90 z91
                      have w := j91 b90 z91
                      refine r_aldn (pc1 := 136) rfl rfl rfl ?_
                      refine r_n (pc1 := 137) [.int (J x9), rv a3, .long (G b90), .int (J (-1)), .int (J x9), .int (J 1), rv 437] _ rfl rfl ?_
                      refine r_iq rfl rfl rfl rfl rfl rfl (xe_of (xa_r (xa_i xa_0)) rfl rfl) (r_d0 hd rfl) (a_X14_isOnIn a3 x9 (r_d1 hd rfl) rx9 w t88 (fun x92 rx92 vx92 w => ?_))
                      refine r_fI (pc1 := 140) rfl ?_
                      have w := w rx92 vx92
                      obtain ⟨J94, j94, w⟩ := w
                      have Q94 : ∀ (b93 : BitVec 64), J94 b93 → RR sc goal fs 310 151 [some (rv 437), some (rv a3), some (.int (J x9)), d10, d11, d12, d13, none] [.long (G b93), .long (G b90), .int (J (-1)), .int (J x9), .int (J 1), rv 437] h88 := by
                        intro b93 z94
                        have w := j94 b93 z94
                        refine r_iv rfl rfl rfl rfl rfl rfl t88 (lyk t88 rfl) rfl (xe_of (xa_r (xa_i (xa_i (xa_i (xa_l (xa_l xa_0)))))) rfl rfl) (r_d0 hd rfl) (a_X14_add 1 x9 (-1) b90 b93 (r_d1 hd rfl) (rgk rfl) rx9 (rgk rfl) w t88 (fun h95 t95 u95 w => ?_))
                        refine r_fV (pc1 := 154) rfl ?_
                        have s95 := HX_trans s88 u95
                        have w := w t95 u95
                        refine r_goto (t := 202) rfl rfl ?_
                        exact Q66 _ _ _ _  h95 t95 s95  w
                      refine r_iz (t := 147) (pc1 := 143) rfl rfl rfl rx92 (fun c97 => ?_) (fun c97 => ?_)
                      · have w := w.1 c97
                        refine r_n (pc1 := 148) [.int (J x9), .long (G b90), .int (J (-1)), .int (J x9), .int (J 1), rv 437] _ rfl rfl ?_
                        refine r_iq rfl rfl rfl rfl rfl rfl (xe_of (xa_i xa_0) rfl rfl) (r_d0 hd rfl) (a_X14_optionBit x9 (r_d1 hd rfl) rx9 w t88 (fun b96 w => ?_))
                        refine r_fL (pc1 := 151) rfl ?_
                        exact Q94  b96   w
                      · have w := w.2 c97
                        refine r_n (pc1 := 144) [.long (G (0#64)), .long (G b90), .int (J (-1)), .int (J x9), .int (J 1), rv 437] _ rfl rfl ?_
                        refine r_goto (t := 151) rfl rfl ?_
                        exact Q94  (0#64)   w
                    refine r_iz (t := 134) (pc1 := 127) rfl rfl rfl rx89 (fun c99 => ?_) (fun c99 => ?_)
                    · have w := w.1 c99
                      refine r_n (pc1 := 135) [.long (G (0#64)), .int (J (-1)), .int (J x9), .int (J 1), rv 437] _ rfl rfl ?_
                      exact Q91  (0#64)   w
                    · have w := w.2 c99
                      refine r_n (pc1 := 128) [.int (J x9), .int (J (-1)), .int (J x9), .int (J 1), rv 437] _ rfl rfl ?_
                      refine r_iq rfl rfl rfl rfl rfl rfl (xe_of (xa_i xa_0) rfl rfl) (r_d0 hd rfl) (a_X14_optionBit x9 (r_d1 hd rfl) rx9 w t88 (fun b98 w => ?_))
                      refine r_fL (pc1 := 131) rfl ?_
                      refine r_goto (t := 135) rfl rfl ?_
                      exact Q91  b98   w
                · have w := w.2 c101
                  refine r_goto (t := 202) rfl rfl ?_
                  exact Q66 _ _ _ _  h14 t14 s14  w
          exact Q15 _ _ _ _ _ 0 h6 t6 s6 (rgk rfl) (Nat.lt_succ_self _) w
        · have w := w.2 c110
          refine r_aldn (pc1 := 42) rfl rfl rfl ?_
          refine r_n (pc1 := 43) [.int (J x5), rv 437] _ rfl rfl ?_
          refine r_iv rfl rfl rfl rfl rfl rfl t6 (lyk t6 rfl) rfl (xe_of (xa_r (xa_i xa_0)) rfl rfl) (r_d0 hd rfl) (a_X14_wishAt x5 (r_d1 hd rfl) rx5 w t6 (fun a103 w => ?_))
          refine r_fR (pc1 := 46) rfl ?_
          obtain ⟨J105, j105, w⟩ := w
          have Q105 : ∀ (h104 : XH), HT h104 → HX h h104 → J105 h104 → RR sc goal fs 310 62 [some (rv 437), some (rv a3), some (.int (J x5)), none, none, none, none, none] [] h104 := by
            intro h104 t104 s104 z105
            have w := j105 h104 t104 s104 z105
            refine r_inc (pc1 := 65) (g := fun zz => [some (rv 437), some (rv a3), some (.int (J zz)), none, none, none, none, none]) rfl rfl rfl rfl (fun _ => xput1_rv rfl rfl) (fun x106 ex106 rx106 => ?_)
            have w := w x106 ex106 rx106
            refine r_goto (t := 32) rfl rfl ?_
            exact ih7  x106 h104 t104 s104 rx106 (Nat.lt_of_lt_of_le w.2 (Nat.le_of_lt_succ q7)) w.1
          refine r_null (t := 62) (pc1 := 49) rfl rfl rfl (fun c109 => ?_) (fun c109 => ?_)
          · have w := w.1 c109
            exact Q105   h6 t6 s6  w
          · have w := w.2 c109
            refine r_aldn (pc1 := 50) rfl rfl rfl ?_
            refine r_n (pc1 := 51) [.int (J 0), rv 437] _ rfl rfl ?_
            refine r_n (pc1 := 52) [.int (J x5), .int (J 0), rv 437] _ rfl rfl ?_
            refine r_n (pc1 := 53) [.int (J (-1)), .int (J x5), .int (J 0), rv 437] _ rfl rfl ?_
            refine r_aldn (pc1 := 54) rfl rfl rfl ?_
            refine r_n (pc1 := 55) [.int (J x5), rv 437, .int (J (-1)), .int (J x5), .int (J 0), rv 437] _ rfl rfl ?_
            refine r_iv rfl rfl rfl rfl rfl rfl t6 (lyk t6 rfl) rfl (xe_of (xa_r (xa_i xa_0)) rfl rfl) (r_d0 hd rfl) (a_X14_wishAt x5 (r_d1 hd rfl) rx5 w t6 (fun a107 w => ?_))
            refine r_fR (pc1 := 58) rfl ?_
            refine r_n (pc1 := 59) [.long (G (0#64)), rv a107, .int (J (-1)), .int (J x5), .int (J 0), rv 437] _ rfl rfl ?_
            refine r_iv rfl rfl rfl rfl rfl rfl t6 (lyk t6 rfl) rfl (xe_of (xa_r (xa_i (xa_i (xa_i (xa_r (xa_l xa_0)))))) rfl rfl) (r_d0 hd rfl) (a_X14_addNeed 0 x5 (-1) a107 (0#64) (r_d1 hd rfl) (rgk rfl) rx5 (rgk rfl) w t6 (fun h108 t108 u108 w => ?_))
            refine r_fV (pc1 := 62) rfl ?_
            have s108 := HX_trans s6 u108
            have w := w t108 u108
            exact Q105   h108 t108 s108  w
    exact Q7 _  0 h4 t4 s4 (rgk rfl) (Nat.lt_succ_self _) w
  · have w := w.2 c111
    exact r_retV rfl rfl rfl (k _ t0 (HX_refl h) w)
def w_X14_count (p0 : Int) (K : Int → XH → Prop) (h : XH) : Prop :=
  (∀ h1 : XH, h1 = sI h 437 5 0 → HT h1 → HX h h1 → w_X14_within p0 0 7 (fun x2 => rg x2 → (x2 = 0 ∨ x2 = 1) → (w_X14_refused x2 1 (fun x3 h4 => HT h4 → HX h1 h4 → rg x3 → (x3 = 0 ∨ x3 = 1) → (((x3 = 0 → (((p0 < 0 ∨ 6 < p0 → (K (hI h4 437 2) h4)) ∧ (p0 = 0 → (K (hI h4 438 0) h4)) ∧ (p0 = 1 → (K (hI h4 438 4) h4)) ∧ (p0 = 2 → (K (hI h4 438 3) h4)) ∧ (p0 = 3 → (w_X14_wishesLeft (fun x6 => rg x6 → (K x6 h4)) h4)) ∧ (p0 = 4 → (w_X14_tellClauses (fun h7 => HT h7 → HX h4 h7 → (K (hI h7 437 29) h7)) h4)) ∧ (p0 = 5 → (w_X14_rootAt 47 (fun x8 => rg x8 → (K x8 h4)) h4)) ∧ (p0 = 6 → (K (hI h4 438 2) h4))))) ∧ (¬ (x3 = 0) → (K 0 h4))))) h1)) h1)
set_option maxHeartbeats 4000000 in
theorem a_X14_count {sc : Nat × (Nat → Int32)} {goal : XO → XH → Prop} {fs : List XF} {h : XH} (p0 : Int) {K : Int → XH → Prop} (hd : fs.length + 7 ≤ 1000) (rp0 : rg p0) (w : w_X14_count p0 K h) (t0 : HT h) (k : ∀ (r : Int) (h1 : XH), HT h1 → HX h h1 → rg r → K r h1 → XFin xP sc goal fs (.inl (some (.int (J r)))) h1) : RR sc goal fs 190 0 [some (rv 437), some (.int (J p0))] [] h := by
  unfold w_X14_count at w
  refine r_aldn (pc1 := 1) rfl rfl rfl ?_
  refine r_n (pc1 := 2) [.int (J 0), rv 437] _ rfl rfl ?_
  refine r_pfI (pc1 := 5) rfl rfl rfl t0 (lyk t0 rfl) rfl rfl rfl (fun h1 eh1 t1 u1 => ?_)
  have w := w h1 eh1 t1 u1
  have s1 := HX_trans (HX_refl h) u1
  refine r_aldn (pc1 := 6) rfl rfl rfl ?_
  refine r_n (pc1 := 7) [.int (J p0), rv 437] _ rfl rfl ?_
  refine r_n (pc1 := 8) [.int (J 0), .int (J p0), rv 437] _ rfl rfl ?_
  refine r_n (pc1 := 10) [.int (J 7), .int (J 0), .int (J p0), rv 437] _ rfl rfl ?_
  refine r_iq rfl rfl rfl rfl rfl rfl (xe_of (xa_i (xa_i (xa_i xa_0))) rfl rfl) (r_d0 hd rfl) (a_X14_within p0 0 7 (r_d1 hd rfl) rp0 (rgk rfl) (rgk rfl) w t1 (fun x2 rx2 vx2 w => ?_))
  refine r_fI (pc1 := 13) rfl ?_
  have w := w rx2 vx2
  refine r_n (pc1 := 14) [.int (J 1), .int (J x2), rv 437] _ rfl rfl ?_
  refine r_iv rfl rfl rfl rfl rfl rfl t1 (lyk t1 rfl) rfl (xe_of (xa_r (xa_i (xa_i xa_0))) rfl rfl) (r_d0 hd rfl) (a_X14_refused x2 1 (r_d1 hd rfl) rx2 (rgk rfl) w t1 (fun x3 h4 t4 u4 rx3 vx3 w => ?_))
  refine r_fI (pc1 := 17) rfl ?_
  have s4 := HX_trans s1 u4
  have w := w t4 u4
  have w := w rx3 vx3
  refine r_iz (t := 22) (pc1 := 20) rfl rfl rfl rx3 (fun c9 => ?_) (fun c9 => ?_)
  · have w := w.1 c9
    refine r_n (pc1 := 23) [.int (J p0)] _ rfl rfl ?_
    refine r_tsw (t0 := 113) rfl rp0 rfl rfl (fun c5 => ?_) ?_
    · have w := w.1 c5
      refine r_aldn (pc1 := 114) rfl rfl rfl ?_
      refine r_gfI (pc1 := 117) rfl rfl rfl t4 (lyk t4 rfl) rfl rfl ?_
      exact r_retI rfl rfl rfl (k _ _ t4 s4 (rgh _ _ _) w)
    have w := w.2
    refine ⟨fun c5 => ⟨64, rfl, ?_⟩, ⟨fun c5 => ⟨71, rfl, ?_⟩, ⟨fun c5 => ⟨78, rfl, ?_⟩, ⟨fun c5 => ⟨85, rfl, ?_⟩, ⟨fun c5 => ⟨90, rfl, ?_⟩, ⟨fun c5 => ⟨99, rfl, ?_⟩, ⟨fun c5 => ⟨106, rfl, ?_⟩, trivial⟩⟩⟩⟩⟩⟩⟩
    · have w := w.1 c5
      refine r_aldn (pc1 := 65) rfl rfl rfl ?_
      refine r_gfC (pc1 := 68) (q := 438) rfl rfl rfl t4 (lyk t4 rfl) rfl rfl (lyR t4 rfl rfl) ?_
      refine r_n (pc1 := 69) [.int (J 0), rv 438] _ rfl rfl ?_
      refine r_ial (pc1 := 70) rfl rfl t4 (lyk t4 rfl) (rgk rfl) (by decide) (lt_len (lyn t4 rfl) (by decide)) ?_
      exact r_retI rfl rfl rfl (k _ _ t4 s4 (rgh _ _ _) w)
    · have w := w.2.1 c5
      refine r_aldn (pc1 := 72) rfl rfl rfl ?_
      refine r_gfC (pc1 := 75) (q := 438) rfl rfl rfl t4 (lyk t4 rfl) rfl rfl (lyR t4 rfl rfl) ?_
      refine r_n (pc1 := 76) [.int (J 4), rv 438] _ rfl rfl ?_
      refine r_ial (pc1 := 77) rfl rfl t4 (lyk t4 rfl) (rgk rfl) (by decide) (lt_len (lyn t4 rfl) (by decide)) ?_
      exact r_retI rfl rfl rfl (k _ _ t4 s4 (rgh _ _ _) w)
    · have w := w.2.2.1 c5
      refine r_aldn (pc1 := 79) rfl rfl rfl ?_
      refine r_gfC (pc1 := 82) (q := 438) rfl rfl rfl t4 (lyk t4 rfl) rfl rfl (lyR t4 rfl rfl) ?_
      refine r_n (pc1 := 83) [.int (J 3), rv 438] _ rfl rfl ?_
      refine r_ial (pc1 := 84) rfl rfl t4 (lyk t4 rfl) (rgk rfl) (by decide) (lt_len (lyn t4 rfl) (by decide)) ?_
      exact r_retI rfl rfl rfl (k _ _ t4 s4 (rgh _ _ _) w)
    · have w := w.2.2.2.1 c5
      refine r_aldn (pc1 := 86) rfl rfl rfl ?_
      refine r_iv rfl rfl rfl rfl rfl rfl t4 (lyk t4 rfl) rfl (xe_of (xa_r xa_0) rfl rfl) (r_d0 hd rfl) (a_X14_wishesLeft  (r_d1 hd rfl)  w t4 (fun x6 rx6 w => ?_))
      refine r_fI (pc1 := 89) rfl ?_
      have w := w rx6
      exact r_retI rfl rfl rfl (k _ _ t4 s4 rx6 w)
    · have w := w.2.2.2.2.1 c5
      refine r_aldn (pc1 := 91) rfl rfl rfl ?_
      refine r_iv rfl rfl rfl rfl rfl rfl t4 (lyk t4 rfl) rfl (xe_of (xa_r xa_0) rfl rfl) (r_d0 hd rfl) (a_X14_tellClauses  (r_d1 hd rfl)  w t4 (fun h7 t7 u7 w => ?_))
      refine r_fV (pc1 := 94) rfl ?_
      have s7 := HX_trans s4 u7
      have w := w t7 u7
      refine r_aldn (pc1 := 95) rfl rfl rfl ?_
      refine r_gfI (pc1 := 98) rfl rfl rfl t7 (lyk t7 rfl) rfl rfl ?_
      exact r_retI rfl rfl rfl (k _ _ t7 s7 (rgh _ _ _) w)
    · have w := w.2.2.2.2.2.1 c5
      refine r_aldn (pc1 := 100) rfl rfl rfl ?_
      refine r_n (pc1 := 102) [.int (J 47), rv 437] _ rfl rfl ?_
      refine r_iv rfl rfl rfl rfl rfl rfl t4 (lyk t4 rfl) rfl (xe_of (xa_r (xa_i xa_0)) rfl rfl) (r_d0 hd rfl) (a_X14_rootAt 47 (r_d1 hd rfl) (rgk rfl) w t4 (fun x8 rx8 w => ?_))
      refine r_fI (pc1 := 105) rfl ?_
      have w := w rx8
      exact r_retI rfl rfl rfl (k _ _ t4 s4 rx8 w)
    · have w := w.2.2.2.2.2.2 c5
      refine r_aldn (pc1 := 107) rfl rfl rfl ?_
      refine r_gfC (pc1 := 110) (q := 438) rfl rfl rfl t4 (lyk t4 rfl) rfl rfl (lyR t4 rfl rfl) ?_
      refine r_n (pc1 := 111) [.int (J 2), rv 438] _ rfl rfl ?_
      refine r_ial (pc1 := 112) rfl rfl t4 (lyk t4 rfl) (rgk rfl) (by decide) (lt_len (lyn t4 rfl) (by decide)) ?_
      exact r_retI rfl rfl rfl (k _ _ t4 s4 (rgh _ _ _) w)
  · have w := w.2 c9
    refine r_n (pc1 := 21) [.int (J 0)] _ rfl rfl ?_
    exact r_retI rfl rfl rfl (k _ _ t4 s4 (rgk rfl) w)
def w_X12_versions (p0 : Int) (K : Int → Prop) (E : Nat → XH → Prop) (h : XH) : Prop :=
  (w_X12_checkPack p0 (((0 ≤ p0 ∧ p0 < 12) ∧ K (hI h 10 p0.toNat))) E h)
set_option maxHeartbeats 4000000 in
theorem a_X12_versions {sc : Nat × (Nat → Int32)} {goal : XO → XH → Prop} {fs : List XF} {h : XH} (p0 : Int) {K : Int → Prop} {E : Nat → XH → Prop} (hd : fs.length + 1 ≤ 1000) (rp0 : rg p0) (w : w_X12_versions p0 K E h) (t0 : HT h) (k : ∀ (r : Int), rg r → K r → XFin xP sc goal fs (.inl (some (.int (J r)))) h) (kE : ∀ (x : Nat) (h1 : XH), HT h1 → HX h h1 → E x h1 → XFin xP sc goal fs (.inr x) h1) : RR sc goal fs 163 0 [some (rv 2), some (.int (J p0))] [] h := by
  unfold w_X12_versions at w
  refine r_aldn (pc1 := 1) rfl rfl rfl ?_
  refine r_n (pc1 := 2) [.int (J p0), rv 2] _ rfl rfl ?_
  refine r_iv rfl rfl rfl rfl rfl rfl t0 (lyk t0 rfl) rfl (xe_of (xa_r (xa_i xa_0)) rfl rfl) (r_d0 hd rfl) (a_X12_checkPack p0 (r_d1 hd rfl) rp0 w t0 (fun w => ?_) (fun x y ty uy w => r_finx rfl rfl (kE x y ty (HX_trans (HX_refl h) uy) w)))
  refine r_fV (pc1 := 5) rfl ?_
  refine r_aldn (pc1 := 6) rfl rfl rfl ?_
  refine r_gfC (pc1 := 9) (q := 8) rfl rfl rfl t0 (lyk t0 rfl) rfl rfl (lyR t0 rfl rfl) ?_
  refine r_gfC (pc1 := 12) (q := 9) rfl rfl rfl t0 (lyk t0 rfl) rfl rfl (lyR t0 rfl rfl) ?_
  refine r_gfC (pc1 := 15) (q := 10) rfl rfl rfl t0 (lyk t0 rfl) rfl rfl (lyR t0 rfl rfl) ?_
  refine r_n (pc1 := 16) [.int (J p0), rv 10] _ rfl rfl ?_
  obtain ⟨c1, w⟩ := w
  refine r_ial (pc1 := 17) rfl rfl t0 (lyk t0 rfl) rp0 c1.1 (lt_len (lyn t0 rfl) c1.2) ?_
  exact r_retI rfl rfl rfl (k _ (rgh _ _ _) w)
def w_L_versions (p1 : Int) (K : Int → XH → Prop) (h : XH) : Prop :=
  (w_X12_versions p1 (fun x1 => rg x1 → (∀ h4 : XH, h4 = sL h 467 0 (i2l x1) → HT h4 → HX h h4 → (K 0 h4))) (fun y3 h2 => ((y3 = 2 ∧ K 1 h2))) h)
set_option maxHeartbeats 4000000 in
theorem a_L_versions {sc : Nat × (Nat → Int32)} {goal : XO → XH → Prop} {fs : List XF} {h : XH} (p1 : Int) {K : Int → XH → Prop} (hd : fs.length + 2 ≤ 1000) (rp1 : rg p1) (w : w_L_versions p1 K h) (t0 : HT h) (k : ∀ (r : Int) (h1 : XH), HT h1 → HX h h1 → rg r → K r h1 → XFin xP sc goal fs (.inl (some (.int (J r)))) h1) : RR sc goal fs 68 0 [some (rv 2), some (.int (J p1)), some (rv 467), none] [] h := by
  unfold w_L_versions at w
  refine r_aldn (pc1 := 1) rfl rfl rfl ?_
  refine r_n (pc1 := 2) [.int (J 0), rv 467] _ rfl rfl ?_
  refine r_aldn (pc1 := 3) rfl rfl rfl ?_
  refine r_n (pc1 := 4) [.int (J p1), rv 2, .int (J 0), rv 467] _ rfl rfl ?_
  refine r_iv rfl rfl rfl rfl rfl rfl t0 (lyk t0 rfl) rfl (xe_of (xa_r (xa_i xa_0)) rfl rfl) (r_d0 hd rfl) (a_X12_versions p1 (r_d1 hd rfl) rp1 w t0 (fun x1 rx1 w => ?_) (fun y3 h2 ty uy w => ?_))
  · refine r_fI (pc1 := 7) rfl ?_
    have w := w rx1
    refine r_i2l (pc1 := 8) rfl rfl ?_
    refine r_last (pc1 := 9) rfl rfl t0 (lyk t0 rfl) (rgk rfl) (by decide) (lt_len (lyn t0 rfl) (by decide)) (fun h4 eh4 t4 u4 => ?_)
    have w := w h4 eh4 t4 u4
    have s4 := HX_trans (HX_refl h) u4
    refine r_goto (t := 15) rfl rfl ?_
    refine r_n (pc1 := 16) [.int (J 0)] _ rfl rfl ?_
    exact r_retI rfl rfl rfl (k _ _ t4 s4 (rgk rfl) w)
  · obtain ⟨rfl, w⟩ := w
    exact r_fink (z := 1) rfl (by decide) rfl rfl (k _ _ ty (HX_trans (HX_refl h) uy) (rgk rfl) w)
def w_X14_versions (p0 : Int) (K : Int → XH → Prop) (h : XH) : Prop :=
  (∀ h1 : XH, h1 = sI h 437 5 0 → HT h1 → HX h h1 → w_X14_isPack p0 (fun x2 => rg x2 → (x2 = 0 ∨ x2 = 1) → (w_X14_refused x2 1 (fun x3 h4 => HT h4 → HX h1 h4 → rg x3 → (x3 = 0 ∨ x3 = 1) → (∃ J7 : Int → XH → Prop, (∀ (x5 : Int) (h6 : XH), HT h6 → HX h h6 → rg x5 → J7 x5 h6 → (K x5 h6)) ∧ ((x3 = 0 → (w_X14_versionsOf p0 (fun a8 h9 => HT h9 → HX h4 h9 → (hk h9 a8 = 100 ∧ (hn h9 a8 : Int) < 2147483648 ∧ J7 (hn h9 a8 : Int) h9)) h4)) ∧ (¬ (x3 = 0) → (J7 0 h4))))) h1)) h1)
set_option maxHeartbeats 4000000 in
theorem a_X14_versions {sc : Nat × (Nat → Int32)} {goal : XO → XH → Prop} {fs : List XF} {h : XH} (p0 : Int) {K : Int → XH → Prop} (hd : fs.length + 3 ≤ 1000) (rp0 : rg p0) (w : w_X14_versions p0 K h) (t0 : HT h) (k : ∀ (r : Int) (h1 : XH), HT h1 → HX h h1 → rg r → K r h1 → XFin xP sc goal fs (.inl (some (.int (J r)))) h1) : RR sc goal fs 320 0 [some (rv 437), some (.int (J p0))] [] h := by
  unfold w_X14_versions at w
  refine r_aldn (pc1 := 1) rfl rfl rfl ?_
  refine r_n (pc1 := 2) [.int (J 0), rv 437] _ rfl rfl ?_
  refine r_pfI (pc1 := 5) rfl rfl rfl t0 (lyk t0 rfl) rfl rfl rfl (fun h1 eh1 t1 u1 => ?_)
  have w := w h1 eh1 t1 u1
  have s1 := HX_trans (HX_refl h) u1
  refine r_aldn (pc1 := 6) rfl rfl rfl ?_
  refine r_aldn (pc1 := 7) rfl rfl rfl ?_
  refine r_n (pc1 := 8) [.int (J p0), rv 437, rv 437] _ rfl rfl ?_
  refine r_iv rfl rfl rfl rfl rfl rfl t1 (lyk t1 rfl) rfl (xe_of (xa_r (xa_i xa_0)) rfl rfl) (r_d0 hd rfl) (a_X14_isPack p0 (r_d1 hd rfl) rp0 w t1 (fun x2 rx2 vx2 w => ?_))
  refine r_fI (pc1 := 11) rfl ?_
  have w := w rx2 vx2
  refine r_n (pc1 := 12) [.int (J 1), .int (J x2), rv 437] _ rfl rfl ?_
  refine r_iv rfl rfl rfl rfl rfl rfl t1 (lyk t1 rfl) rfl (xe_of (xa_r (xa_i (xa_i xa_0))) rfl rfl) (r_d0 hd rfl) (a_X14_refused x2 1 (r_d1 hd rfl) rx2 (rgk rfl) w t1 (fun x3 h4 t4 u4 rx3 vx3 w => ?_))
  refine r_fI (pc1 := 15) rfl ?_
  have s4 := HX_trans s1 u4
  have w := w t4 u4
  have w := w rx3 vx3
  obtain ⟨J7, j7, w⟩ := w
  have Q7 : ∀ (x5 : Int) (h6 : XH), HT h6 → HX h h6 → rg x5 → J7 x5 h6 → RR sc goal fs 320 28 [some (rv 437), some (.int (J p0))] [.int (J x5)] h6 := by
    intro x5 h6 t6 s6 rx5 z7
    have w := j7 x5 h6 t6 s6 rx5 z7
    exact r_retI rfl rfl rfl (k _ _ t6 s6 rx5 w)
  refine r_iz (t := 22) (pc1 := 18) rfl rfl rfl rx3 (fun c12 => ?_) (fun c12 => ?_)
  · have w := w.1 c12
    refine r_aldn (pc1 := 23) rfl rfl rfl ?_
    refine r_n (pc1 := 24) [.int (J p0), rv 437] _ rfl rfl ?_
    refine r_iv rfl rfl rfl rfl rfl rfl t4 (lyk t4 rfl) rfl (xe_of (xa_r (xa_i xa_0)) rfl rfl) (r_d0 hd rfl) (a_X14_versionsOf p0 (r_d1 hd rfl) rp0 w t4 (fun a8 h9 t9 u9 w => ?_))
    refine r_fR (pc1 := 27) rfl ?_
    have s9 := HX_trans s4 u9
    have w := w t9 u9
    obtain ⟨c10, w⟩ := w
    obtain ⟨c11, w⟩ := w
    refine r_len (pc1 := 28) (u := 0) rfl rfl t9 c10 (by decide) (fun rc11 => ?_) c11
    exact Q7  (hn h9 a8 : Int) h9 t9 s9 rc11 w
  · have w := w.2 c12
    refine r_n (pc1 := 19) [.int (J 0)] _ rfl rfl ?_
    refine r_goto (t := 28) rfl rfl ?_
    exact Q7  0 h4 t4 s4 (rgk rfl) w
def w_X12_versionAt (p0 : Int) (p1 : Int) (K : Int → Prop) (E : Nat → XH → Prop) (h : XH) : Prop :=
  (w_X12_checkPack p0 ((∃ J1 : Prop, (J1 → (E 2 (nT h))) ∧ ((p1 < 0 → J1) ∧ (¬ (p1 < 0) → ((0 ≤ p0 ∧ p0 < 12) ∧ ((p1 < hI h 10 p0.toNat → (w_X8_idAt p0 p1 (fun x3 => rg x3 → ((0 ≤ x3 ∧ x3 < 40) ∧ K (hI h 14 x3.toNat))) h)) ∧ (¬ (p1 < hI h 10 p0.toNat) → J1))))))) E h)
set_option maxHeartbeats 4000000 in
theorem a_X12_versionAt {sc : Nat × (Nat → Int32)} {goal : XO → XH → Prop} {fs : List XF} {h : XH} (p0 : Int) (p1 : Int) {K : Int → Prop} {E : Nat → XH → Prop} (hd : fs.length + 1 ≤ 1000) (rp0 : rg p0) (rp1 : rg p1) (w : w_X12_versionAt p0 p1 K E h) (t0 : HT h) (k : ∀ (r : Int), rg r → K r → XFin xP sc goal fs (.inl (some (.int (J r)))) h) (kE : ∀ (x : Nat) (h1 : XH), HT h1 → HX h h1 → E x h1 → XFin xP sc goal fs (.inr x) h1) : RR sc goal fs 161 0 [some (rv 2), some (.int (J p0)), some (.int (J p1))] [] h := by
  unfold w_X12_versionAt at w
  refine r_aldn (pc1 := 1) rfl rfl rfl ?_
  refine r_n (pc1 := 2) [.int (J p0), rv 2] _ rfl rfl ?_
  refine r_iv rfl rfl rfl rfl rfl rfl t0 (lyk t0 rfl) rfl (xe_of (xa_r (xa_i xa_0)) rfl rfl) (r_d0 hd rfl) (a_X12_checkPack p0 (r_d1 hd rfl) rp0 w t0 (fun w => ?_) (fun x y ty uy w => r_finx rfl rfl (kE x y ty (HX_trans (HX_refl h) uy) w)))
  refine r_fV (pc1 := 5) rfl ?_
  refine r_n (pc1 := 6) [.int (J p1)] _ rfl rfl ?_
  obtain ⟨J1, j1, w⟩ := w
  have Q1 : J1 → RR sc goal fs 161 25 [some (rv 2), some (.int (J p0)), some (.int (J p1))] [] h := by
    intro z1
    have w := j1 z1
    exact r_thr rfl rfl rfl rfl rfl rfl (kE _ _ (HT_nT t0).1 (HX_trans (HX_refl h) (HT_nT t0).2) w)
  refine r_iz (t := 25) (pc1 := 9) rfl rfl rfl rp1 (fun c6 => ?_) (fun c6 => ?_)
  · have w := w.1 c6
    exact Q1     w
  · have w := w.2 c6
    refine r_n (pc1 := 10) [.int (J p1)] _ rfl rfl ?_
    refine r_aldn (pc1 := 11) rfl rfl rfl ?_
    refine r_gfC (pc1 := 14) (q := 8) rfl rfl rfl t0 (lyk t0 rfl) rfl rfl (lyR t0 rfl rfl) ?_
    refine r_gfC (pc1 := 17) (q := 9) rfl rfl rfl t0 (lyk t0 rfl) rfl rfl (lyR t0 rfl rfl) ?_
    refine r_gfC (pc1 := 20) (q := 10) rfl rfl rfl t0 (lyk t0 rfl) rfl rfl (lyR t0 rfl rfl) ?_
    refine r_n (pc1 := 21) [.int (J p0), rv 10, .int (J p1)] _ rfl rfl ?_
    obtain ⟨c2, w⟩ := w
    refine r_ial (pc1 := 22) rfl rfl t0 (lyk t0 rfl) rp0 c2.1 (lt_len (lyn t0 rfl) c2.2) ?_
    refine r_ic (t := 36) (pc1 := 25) rfl rfl rfl rp1 (rgh _ _ _) (fun c5 => ?_) (fun c5 => ?_)
    · have w := w.1 c5
      refine r_aldn (pc1 := 37) rfl rfl rfl ?_
      refine r_gfC (pc1 := 40) (q := 8) rfl rfl rfl t0 (lyk t0 rfl) rfl rfl (lyR t0 rfl rfl) ?_
      refine r_gfC (pc1 := 43) (q := 9) rfl rfl rfl t0 (lyk t0 rfl) rfl rfl (lyR t0 rfl rfl) ?_
      refine r_gfC (pc1 := 46) (q := 14) rfl rfl rfl t0 (lyk t0 rfl) rfl rfl (lyR t0 rfl rfl) ?_
      refine r_aldn (pc1 := 47) rfl rfl rfl ?_
      refine r_gfC (pc1 := 50) (q := 8) rfl rfl rfl t0 (lyk t0 rfl) rfl rfl (lyR t0 rfl rfl) ?_
      refine r_gfC (pc1 := 53) (q := 9) rfl rfl rfl t0 (lyk t0 rfl) rfl rfl (lyR t0 rfl rfl) ?_
      refine r_n (pc1 := 54) [.int (J p0), rv 9, rv 14] _ rfl rfl ?_
      refine r_n (pc1 := 55) [.int (J p1), .int (J p0), rv 9, rv 14] _ rfl rfl ?_
      refine r_iv rfl rfl rfl rfl rfl rfl t0 (lyk t0 rfl) rfl (xe_of (xa_r (xa_i (xa_i xa_0))) rfl rfl) (r_d0 hd rfl) (a_X8_idAt p0 p1 (r_d1 hd rfl) rp0 rp1 w t0 (fun x3 rx3 w => ?_))
      refine r_fI (pc1 := 58) rfl ?_
      have w := w rx3
      obtain ⟨c4, w⟩ := w
      refine r_ial (pc1 := 59) rfl rfl t0 (lyk t0 rfl) rx3 c4.1 (lt_len (lyn t0 rfl) c4.2) ?_
      exact r_retI rfl rfl rfl (k _ (rgh _ _ _) w)
    · have w := w.2 c5
      exact Q1     w
def w_L_versionAt (p1 : Int) (p2 : Int) (K : Int → XH → Prop) (h : XH) : Prop :=
  (w_X12_versionAt p1 p2 (fun x1 => rg x1 → (∀ h4 : XH, h4 = sL h 467 0 (i2l x1) → HT h4 → HX h h4 → (K 0 h4))) (fun y3 h2 => ((y3 = 2 ∧ K 1 h2))) h)
set_option maxHeartbeats 4000000 in
theorem a_L_versionAt {sc : Nat × (Nat → Int32)} {goal : XO → XH → Prop} {fs : List XF} {h : XH} (p1 : Int) (p2 : Int) {K : Int → XH → Prop} (hd : fs.length + 2 ≤ 1000) (rp1 : rg p1) (rp2 : rg p2) (w : w_L_versionAt p1 p2 K h) (t0 : HT h) (k : ∀ (r : Int) (h1 : XH), HT h1 → HX h h1 → rg r → K r h1 → XFin xP sc goal fs (.inl (some (.int (J r)))) h1) : RR sc goal fs 66 0 [some (rv 2), some (.int (J p1)), some (.int (J p2)), some (rv 467), none] [] h := by
  unfold w_L_versionAt at w
  refine r_aldn (pc1 := 1) rfl rfl rfl ?_
  refine r_n (pc1 := 2) [.int (J 0), rv 467] _ rfl rfl ?_
  refine r_aldn (pc1 := 3) rfl rfl rfl ?_
  refine r_n (pc1 := 4) [.int (J p1), rv 2, .int (J 0), rv 467] _ rfl rfl ?_
  refine r_n (pc1 := 5) [.int (J p2), .int (J p1), rv 2, .int (J 0), rv 467] _ rfl rfl ?_
  refine r_iv rfl rfl rfl rfl rfl rfl t0 (lyk t0 rfl) rfl (xe_of (xa_r (xa_i (xa_i xa_0))) rfl rfl) (r_d0 hd rfl) (a_X12_versionAt p1 p2 (r_d1 hd rfl) rp1 rp2 w t0 (fun x1 rx1 w => ?_) (fun y3 h2 ty uy w => ?_))
  · refine r_fI (pc1 := 8) rfl ?_
    have w := w rx1
    refine r_i2l (pc1 := 9) rfl rfl ?_
    refine r_last (pc1 := 10) rfl rfl t0 (lyk t0 rfl) (rgk rfl) (by decide) (lt_len (lyn t0 rfl) (by decide)) (fun h4 eh4 t4 u4 => ?_)
    have w := w h4 eh4 t4 u4
    have s4 := HX_trans (HX_refl h) u4
    refine r_goto (t := 17) rfl rfl ?_
    refine r_n (pc1 := 18) [.int (J 0)] _ rfl rfl ?_
    exact r_retI rfl rfl rfl (k _ _ t4 s4 (rgk rfl) w)
  · obtain ⟨rfl, w⟩ := w
    exact r_fink (z := 1) rfl (by decide) rfl rfl (k _ _ ty (HX_trans (HX_refl h) uy) (rgk rfl) w)
def w_X14_versionAt (p0 : Int) (p1 : Int) (K : Int → XH → Prop) (h : XH) : Prop :=
  (∀ h1 : XH, h1 = sI h 437 5 0 → HT h1 → HX h h1 → w_X14_isPack p0 (fun x2 => rg x2 → (x2 = 0 ∨ x2 = 1) → (w_X14_refused x2 1 (fun x3 h4 => HT h4 → HX h1 h4 → rg x3 → (x3 = 0 ∨ x3 = 1) → (∃ J6 : XH → Prop, (∀ (h5 : XH), HT h5 → HX h h5 → J6 h5 → (K 0 h5)) ∧ ((¬ x3 = 0 → J6 h4) ∧ (¬ (¬ x3 = 0) → (w_X14_versionsOf p0 (fun a7 h8 => HT h8 → HX h4 h8 → (hk h8 a7 = 100 ∧ (hn h8 a7 : Int) < 2147483648 ∧ w_X14_within p1 0 (wr ((hn h8 a7 : Int) - 1)) (fun x11 => rg x11 → (x11 = 0 ∨ x11 = 1) → (w_X14_refused x11 1 (fun x12 h13 => HT h13 → HX h8 h13 → rg x12 → (x12 = 0 ∨ x12 = 1) → (((x12 = 0 → (w_X14_versionsOf p0 (fun a14 h15 => HT h15 → HX h13 h15 → (hk h15 a14 = 100 ∧ (0 ≤ p1 ∧ p1 < (hn h15 a14 : Int)) ∧ w_X14_ver (hI h15 a14 p1.toNat) 1 (fun x18 => rg x18 → (K x18 h15)) h15)) h13)) ∧ (¬ (x12 = 0) → J6 h13)))) h8)) h8)) h4))))) h1)) h1)
set_option maxHeartbeats 4000000 in
theorem a_X14_versionAt {sc : Nat × (Nat → Int32)} {goal : XO → XH → Prop} {fs : List XF} {h : XH} (p0 : Int) (p1 : Int) {K : Int → XH → Prop} (hd : fs.length + 3 ≤ 1000) (rp0 : rg p0) (rp1 : rg p1) (w : w_X14_versionAt p0 p1 K h) (t0 : HT h) (k : ∀ (r : Int) (h1 : XH), HT h1 → HX h h1 → rg r → K r h1 → XFin xP sc goal fs (.inl (some (.int (J r)))) h1) : RR sc goal fs 318 0 [some (rv 437), some (.int (J p0)), some (.int (J p1))] [] h := by
  unfold w_X14_versionAt at w
  refine r_aldn (pc1 := 1) rfl rfl rfl ?_
  refine r_n (pc1 := 2) [.int (J 0), rv 437] _ rfl rfl ?_
  refine r_pfI (pc1 := 5) rfl rfl rfl t0 (lyk t0 rfl) rfl rfl rfl (fun h1 eh1 t1 u1 => ?_)
  have w := w h1 eh1 t1 u1
  have s1 := HX_trans (HX_refl h) u1
  refine r_aldn (pc1 := 6) rfl rfl rfl ?_
  refine r_aldn (pc1 := 7) rfl rfl rfl ?_
  refine r_n (pc1 := 8) [.int (J p0), rv 437, rv 437] _ rfl rfl ?_
  refine r_iv rfl rfl rfl rfl rfl rfl t1 (lyk t1 rfl) rfl (xe_of (xa_r (xa_i xa_0)) rfl rfl) (r_d0 hd rfl) (a_X14_isPack p0 (r_d1 hd rfl) rp0 w t1 (fun x2 rx2 vx2 w => ?_))
  refine r_fI (pc1 := 11) rfl ?_
  have w := w rx2 vx2
  refine r_n (pc1 := 12) [.int (J 1), .int (J x2), rv 437] _ rfl rfl ?_
  refine r_iv rfl rfl rfl rfl rfl rfl t1 (lyk t1 rfl) rfl (xe_of (xa_r (xa_i (xa_i xa_0))) rfl rfl) (r_d0 hd rfl) (a_X14_refused x2 1 (r_d1 hd rfl) rx2 (rgk rfl) w t1 (fun x3 h4 t4 u4 rx3 vx3 w => ?_))
  refine r_fI (pc1 := 15) rfl ?_
  have s4 := HX_trans s1 u4
  have w := w t4 u4
  have w := w rx3 vx3
  obtain ⟨J6, j6, w⟩ := w
  have Q6 : ∀ (h5 : XH), HT h5 → HX h h5 → J6 h5 → RR sc goal fs 318 39 [some (rv 437), some (.int (J p0)), some (.int (J p1))] [] h5 := by
    intro h5 t5 s5 z6
    have w := j6 h5 t5 s5 z6
    refine r_n (pc1 := 40) [.int (J 0)] _ rfl rfl ?_
    exact r_retI rfl rfl rfl (k _ _ t5 s5 (rgk rfl) w)
  refine r_iz (t := 39) (pc1 := 18) rfl rfl rfl rx3 (fun c20 => ?_) (fun c20 => ?_)
  · have w := w.1 c20
    exact Q6   h4 t4 s4  w
  · have w := w.2 c20
    refine r_aldn (pc1 := 19) rfl rfl rfl ?_
    refine r_n (pc1 := 20) [.int (J p1), rv 437] _ rfl rfl ?_
    refine r_n (pc1 := 21) [.int (J 0), .int (J p1), rv 437] _ rfl rfl ?_
    refine r_aldn (pc1 := 22) rfl rfl rfl ?_
    refine r_n (pc1 := 23) [.int (J p0), rv 437, .int (J 0), .int (J p1), rv 437] _ rfl rfl ?_
    refine r_iv rfl rfl rfl rfl rfl rfl t4 (lyk t4 rfl) rfl (xe_of (xa_r (xa_i xa_0)) rfl rfl) (r_d0 hd rfl) (a_X14_versionsOf p0 (r_d1 hd rfl) rp0 w t4 (fun a7 h8 t8 u8 w => ?_))
    refine r_fR (pc1 := 26) rfl ?_
    have s8 := HX_trans s4 u8
    have w := w t8 u8
    obtain ⟨c9, w⟩ := w
    obtain ⟨c10, w⟩ := w
    refine r_len (pc1 := 27) (u := 0) rfl rfl t8 c9 (by decide) (fun rc10 => ?_) c10
    refine r_n (pc1 := 28) [.int (J 1), .int (J (hn h8 a7 : Int)), .int (J 0), .int (J p1), rv 437] _ rfl rfl ?_
    refine r_isub (pc1 := 29) rfl rfl ?_
    refine r_iq rfl rfl rfl rfl rfl rfl (xe_of (xa_i (xa_i (xa_i xa_0))) rfl rfl) (r_d0 hd rfl) (a_X14_within p1 0 (wr ((hn h8 a7 : Int) - 1)) (r_d1 hd rfl) rp1 (rgk rfl) (rgw _) w t8 (fun x11 rx11 vx11 w => ?_))
    refine r_fI (pc1 := 32) rfl ?_
    have w := w rx11 vx11
    refine r_n (pc1 := 33) [.int (J 1), .int (J x11), rv 437] _ rfl rfl ?_
    refine r_iv rfl rfl rfl rfl rfl rfl t8 (lyk t8 rfl) rfl (xe_of (xa_r (xa_i (xa_i xa_0))) rfl rfl) (r_d0 hd rfl) (a_X14_refused x11 1 (r_d1 hd rfl) rx11 (rgk rfl) w t8 (fun x12 h13 t13 u13 rx12 vx12 w => ?_))
    refine r_fI (pc1 := 36) rfl ?_
    have s13 := HX_trans s8 u13
    have w := w t13 u13
    have w := w rx12 vx12
    refine r_iz (t := 41) (pc1 := 39) rfl rfl rfl rx12 (fun c19 => ?_) (fun c19 => ?_)
    · have w := w.1 c19
      refine r_aldn (pc1 := 42) rfl rfl rfl ?_
      refine r_aldn (pc1 := 43) rfl rfl rfl ?_
      refine r_n (pc1 := 44) [.int (J p0), rv 437, rv 437] _ rfl rfl ?_
      refine r_iv rfl rfl rfl rfl rfl rfl t13 (lyk t13 rfl) rfl (xe_of (xa_r (xa_i xa_0)) rfl rfl) (r_d0 hd rfl) (a_X14_versionsOf p0 (r_d1 hd rfl) rp0 w t13 (fun a14 h15 t15 u15 w => ?_))
      refine r_fR (pc1 := 47) rfl ?_
      have s15 := HX_trans s13 u15
      have w := w t15 u15
      refine r_n (pc1 := 48) [.int (J p1), rv a14, rv 437] _ rfl rfl ?_
      obtain ⟨c16, w⟩ := w
      obtain ⟨c17, w⟩ := w
      refine r_ial (pc1 := 49) rfl rfl t15 c16 rp1 c17.1 c17.2 ?_
      refine r_n (pc1 := 50) [.int (J 1), .int (J (hI h15 a14 p1.toNat)), rv 437] _ rfl rfl ?_
      refine r_iv rfl rfl rfl rfl rfl rfl t15 (lyk t15 rfl) rfl (xe_of (xa_r (xa_i (xa_i xa_0))) rfl rfl) (r_d0 hd rfl) (a_X14_ver (hI h15 a14 p1.toNat) 1 (r_d1 hd rfl) (rgh _ _ _) (rgk rfl) w t15 (fun x18 rx18 w => ?_))
      refine r_fI (pc1 := 53) rfl ?_
      have w := w rx18
      exact r_retI rfl rfl rfl (k _ _ t15 s15 rx18 w)
    · have w := w.2 c19
      exact Q6   h13 t13 s13  w
def w_X14_readRangeOf (p0 : Int) (K : Nat → XH → Prop) (h : XH) : Prop :=
  (w_X14_startText (fun h1 => HT h1 → HX h h1 → (∀ h2 : XH, h2 = sI h1 443 0 p0 → HT h2 → HX h1 h2 → ∀ h3 : XH, h3 = sI h2 444 0 0 → HT h3 → HX h2 h3 → ∀ h4 : XH, h4 = sI h3 437 21 1 → HT h4 → HX h3 h4 → w_X14_readRange (fun x5 h6 => HT h6 → HX h4 h6 → rg x5 → (x5 = 0 ∨ x5 = 1) → (∃ J9 : Int → XH → Prop, (∀ (x7 : Int) (h8 : XH), HT h8 → HX h h8 → rg x7 → J9 x7 h8 → (w_X14_taken x7 0 (fun a10 h11 => HT h11 → HX h8 h11 → (K a10 h11)) h8)) ∧ ∃ J13 : XH → Prop, (∀ (h12 : XH), HT h12 → HX h h12 → J13 h12 → (J9 0 h12)) ∧ ((x5 = 0 → J13 h6) ∧ (¬ (x5 = 0) → (w_X14_isEnd (fun x14 h15 => HT h15 → HX h6 h15 → rg x14 → (x14 = 0 ∨ x14 = 1) → (((x14 = 0 → J13 h15) ∧ (¬ (x14 = 0) → (J9 1 h15))))) h6))))) h4)) h)
set_option maxHeartbeats 4000000 in
theorem a_X14_readRangeOf {sc : Nat × (Nat → Int32)} {goal : XO → XH → Prop} {fs : List XF} {h : XH} (p0 : Int) {K : Nat → XH → Prop} (hd : fs.length + 6 ≤ 1000) (rp0 : rg p0) (w : w_X14_readRangeOf p0 K h) (t0 : HT h) (k : ∀ (r : Nat) (h1 : XH), HT h1 → HX h h1 → K r h1 → XFin xP sc goal fs (.inl (some (rv r))) h1) : RR sc goal fs 286 0 [some (rv 437), some (.int (J p0))] [] h := by
  unfold w_X14_readRangeOf at w
  refine r_aldn (pc1 := 1) rfl rfl rfl ?_
  refine r_iv rfl rfl rfl rfl rfl rfl t0 (lyk t0 rfl) rfl (xe_of (xa_r xa_0) rfl rfl) (r_d0 hd rfl) (a_X14_startText  (r_d1 hd rfl)  w t0 (fun h1 t1 u1 w => ?_))
  refine r_fV (pc1 := 4) rfl ?_
  have s1 := HX_trans (HX_refl h) u1
  have w := w t1 u1
  refine r_aldn (pc1 := 5) rfl rfl rfl ?_
  refine r_gfC (pc1 := 8) (q := 443) rfl rfl rfl t1 (lyk t1 rfl) rfl rfl (lyR t1 rfl rfl) ?_
  refine r_n (pc1 := 9) [.int (J 0), rv 443] _ rfl rfl ?_
  refine r_n (pc1 := 10) [.int (J p0), .int (J 0), rv 443] _ rfl rfl ?_
  refine r_iast (pc1 := 11) rfl rfl t1 (lyk t1 rfl) (rgk rfl) (by decide) (lt_len (lyn t1 rfl) (by decide)) (fun h2 eh2 t2 u2 => ?_)
  have w := w h2 eh2 t2 u2
  have s2 := HX_trans s1 u2
  refine r_aldn (pc1 := 12) rfl rfl rfl ?_
  refine r_gfC (pc1 := 15) (q := 444) rfl rfl rfl t2 (lyk t2 rfl) rfl rfl (lyR t2 rfl rfl) ?_
  refine r_n (pc1 := 16) [.int (J 0), rv 444] _ rfl rfl ?_
  refine r_n (pc1 := 17) [.int (J 0), .int (J 0), rv 444] _ rfl rfl ?_
  refine r_iast (pc1 := 18) rfl rfl t2 (lyk t2 rfl) (rgk rfl) (by decide) (lt_len (lyn t2 rfl) (by decide)) (fun h3 eh3 t3 u3 => ?_)
  have w := w h3 eh3 t3 u3
  have s3 := HX_trans s2 u3
  refine r_aldn (pc1 := 19) rfl rfl rfl ?_
  refine r_n (pc1 := 20) [.int (J 1), rv 437] _ rfl rfl ?_
  refine r_pfI (pc1 := 23) rfl rfl rfl t3 (lyk t3 rfl) rfl rfl rfl (fun h4 eh4 t4 u4 => ?_)
  have w := w h4 eh4 t4 u4
  have s4 := HX_trans s3 u4
  refine r_aldn (pc1 := 24) rfl rfl rfl ?_
  refine r_aldn (pc1 := 25) rfl rfl rfl ?_
  refine r_iv rfl rfl rfl rfl rfl rfl t4 (lyk t4 rfl) rfl (xe_of (xa_r xa_0) rfl rfl) (r_d0 hd rfl) (a_X14_readRange  (r_d1 hd rfl)  w t4 (fun x5 h6 t6 u6 rx5 vx5 w => ?_))
  refine r_fI (pc1 := 28) rfl ?_
  have s6 := HX_trans s4 u6
  have w := w t6 u6
  have w := w rx5 vx5
  obtain ⟨J9, j9, w⟩ := w
  have Q9 : ∀ (x7 : Int) (h8 : XH), HT h8 → HX h h8 → rg x7 → J9 x7 h8 → RR sc goal fs 286 43 [some (rv 437), some (.int (J p0))] [.int (J x7), rv 437] h8 := by
    intro x7 h8 t8 s8 rx7 z9
    have w := j9 x7 h8 t8 s8 rx7 z9
    refine r_n (pc1 := 44) [.int (J 0), .int (J x7), rv 437] _ rfl rfl ?_
    refine r_iv rfl rfl rfl rfl rfl rfl t8 (lyk t8 rfl) rfl (xe_of (xa_r (xa_i (xa_i xa_0))) rfl rfl) (r_d0 hd rfl) (a_X14_taken x7 0 (r_d1 hd rfl) rx7 (rgk rfl) w t8 (fun a10 h11 t11 u11 w => ?_))
    refine r_fR (pc1 := 47) rfl ?_
    have s11 := HX_trans s8 u11
    have w := w t11 u11
    exact r_retR rfl rfl rfl xok_O xokr_O (k _ _ t11 s11 w)
  obtain ⟨J13, j13, w⟩ := w
  have Q13 : ∀ (h12 : XH), HT h12 → HX h h12 → J13 h12 → RR sc goal fs 286 42 [some (rv 437), some (.int (J p0))] [rv 437] h12 := by
    intro h12 t12 s12 z13
    have w := j13 h12 t12 s12 z13
    refine r_n (pc1 := 43) [.int (J 0), rv 437] _ rfl rfl ?_
    exact Q9  0 h12 t12 s12 (rgk rfl) w
  refine r_iz (t := 42) (pc1 := 31) rfl rfl rfl rx5 (fun c17 => ?_) (fun c17 => ?_)
  · have w := w.1 c17
    exact Q13   h6 t6 s6  w
  · have w := w.2 c17
    refine r_aldn (pc1 := 32) rfl rfl rfl ?_
    refine r_iv rfl rfl rfl rfl rfl rfl t6 (lyk t6 rfl) rfl (xe_of (xa_r xa_0) rfl rfl) (r_d0 hd rfl) (a_X14_isEnd  (r_d1 hd rfl)  w t6 (fun x14 h15 t15 u15 rx14 vx14 w => ?_))
    refine r_fI (pc1 := 35) rfl ?_
    have s15 := HX_trans s6 u15
    have w := w t15 u15
    have w := w rx14 vx14
    refine r_iz (t := 42) (pc1 := 38) rfl rfl rfl rx14 (fun c16 => ?_) (fun c16 => ?_)
    · have w := w.1 c16
      exact Q13   h15 t15 s15  w
    · have w := w.2 c16
      refine r_n (pc1 := 39) [.int (J 1), rv 437] _ rfl rfl ?_
      refine r_goto (t := 43) rfl rfl ?_
      exact Q9  1 h15 t15 s15 (rgk rfl) w
def w_X14_inRange (p0 : Int) (K : Int → XH → Prop) (h : XH) : Prop :=
  (∀ h1 : XH, h1 = sI h 437 5 0 → HT h1 → HX h h1 → w_X14_isPack p0 (fun x2 => rg x2 → (x2 = 0 ∨ x2 = 1) → (w_X14_refused x2 1 (fun x3 h4 => HT h4 → HX h1 h4 → rg x3 → (x3 = 0 ∨ x3 = 1) → (((x3 = 0 → (w_X14_readRangeOf p0 (fun a5 h6 => HT h6 → HX h4 h6 → (∃ J8 : Int → Prop, (∀ (x7 : Int), rg x7 → J8 x7 → (w_X14_refused x7 2 (fun x9 h10 => HT h10 → HX h6 h10 → rg x9 → (x9 = 0 ∨ x9 = 1) → (((x9 = 0 → (w_X14_versionsOf p0 (fun a11 h12 => HT h12 → HX h10 h12 → (hk h12 a11 = 100 ∧ (hn h12 a11 : Int) < 2147483648 ∧ ∀ x15 : Int, x15 = (hn h12 a11 : Int) → rg x15 → (∃ (I19 : Int → Int → Prop) (m19 : Int → Int → Nat), I19 0 0 ∧ ∀ (x16 : Int) (x17 : Int), rg x16 → rg x17 → I19 x16 x17 → (((x15 ≤ x17 → (K x16 h12)) ∧ (¬ (x15 ≤ x17) → ((0 ≤ x17 ∧ x17 < (hn h12 a11 : Int)) ∧ ∀ x21 : Int, x21 = hI h12 a11 x17.toNat → rg x21 → w_X14_ver x21 1 (fun x22 => rg x22 → (w_X14_meetsRange a5 0 x22 (fun x23 => rg x23 → (x23 = 0 ∨ x23 = 1) → (∃ J25 : Int → Prop, (∀ (x24 : Int), rg x24 → J25 x24 → (∀ x26 : Int, x26 = wr (x16 + x24) → rg x26 → ∀ x27 : Int, x27 = wr (x17 + 1) → rg x27 → (I19 x26 x27 ∧ m19 x26 x27 < m19 x16 x17))) ∧ ((x23 = 0 → (J25 0)) ∧ (¬ (x23 = 0) → (J25 1))))) h12)) h12))))))) h10)) ∧ (¬ (x9 = 0) → (K 0 h10))))) h6)) ∧ ((a5 = 0 → (J8 0)) ∧ (¬ (a5 = 0) → (J8 1))))) h4)) ∧ (¬ (x3 = 0) → (K 0 h4))))) h1)) h1)
set_option maxHeartbeats 4000000 in
theorem a_X14_inRange {sc : Nat × (Nat → Int32)} {goal : XO → XH → Prop} {fs : List XF} {h : XH} (p0 : Int) {K : Int → XH → Prop} (hd : fs.length + 7 ≤ 1000) (rp0 : rg p0) (w : w_X14_inRange p0 K h) (t0 : HT h) (k : ∀ (r : Int) (h1 : XH), HT h1 → HX h h1 → rg r → K r h1 → XFin xP sc goal fs (.inl (some (.int (J r)))) h1) : RR sc goal fs 217 0 [some (rv 437), some (.int (J p0)), none, none, none, none, none, none] [] h := by
  unfold w_X14_inRange at w
  refine r_aldn (pc1 := 1) rfl rfl rfl ?_
  refine r_n (pc1 := 2) [.int (J 0), rv 437] _ rfl rfl ?_
  refine r_pfI (pc1 := 5) rfl rfl rfl t0 (lyk t0 rfl) rfl rfl rfl (fun h1 eh1 t1 u1 => ?_)
  have w := w h1 eh1 t1 u1
  have s1 := HX_trans (HX_refl h) u1
  refine r_aldn (pc1 := 6) rfl rfl rfl ?_
  refine r_aldn (pc1 := 7) rfl rfl rfl ?_
  refine r_n (pc1 := 8) [.int (J p0), rv 437, rv 437] _ rfl rfl ?_
  refine r_iv rfl rfl rfl rfl rfl rfl t1 (lyk t1 rfl) rfl (xe_of (xa_r (xa_i xa_0)) rfl rfl) (r_d0 hd rfl) (a_X14_isPack p0 (r_d1 hd rfl) rp0 w t1 (fun x2 rx2 vx2 w => ?_))
  refine r_fI (pc1 := 11) rfl ?_
  have w := w rx2 vx2
  refine r_n (pc1 := 12) [.int (J 1), .int (J x2), rv 437] _ rfl rfl ?_
  refine r_iv rfl rfl rfl rfl rfl rfl t1 (lyk t1 rfl) rfl (xe_of (xa_r (xa_i (xa_i xa_0))) rfl rfl) (r_d0 hd rfl) (a_X14_refused x2 1 (r_d1 hd rfl) rx2 (rgk rfl) w t1 (fun x3 h4 t4 u4 rx3 vx3 w => ?_))
  refine r_fI (pc1 := 15) rfl ?_
  have s4 := HX_trans s1 u4
  have w := w t4 u4
  have w := w rx3 vx3
  refine r_iz (t := 20) (pc1 := 18) rfl rfl rfl rx3 (fun c32 => ?_) (fun c32 => ?_)
  · have w := w.1 c32
    refine r_aldn (pc1 := 21) rfl rfl rfl ?_
    refine r_n (pc1 := 22) [.int (J p0), rv 437] _ rfl rfl ?_
    refine r_iv rfl rfl rfl rfl rfl rfl t4 (lyk t4 rfl) rfl (xe_of (xa_r (xa_i xa_0)) rfl rfl) (r_d0 hd rfl) (a_X14_readRangeOf p0 (r_d1 hd rfl) rp0 w t4 (fun a5 h6 t6 u6 w => ?_))
    refine r_fR (pc1 := 25) rfl ?_
    have s6 := HX_trans s4 u6
    have w := w t6 u6
    refine r_astn (pc1 := 26) (ls1 := [some (rv 437), some (.int (J p0)), some (rv a5), none, none, none, none, none]) rfl rfl rfl rfl ?_
    refine r_aldn (pc1 := 27) rfl rfl rfl ?_
    refine r_aldn (pc1 := 28) rfl rfl rfl ?_
    obtain ⟨J8, j8, w⟩ := w
    have Q8 : ∀ (x7 : Int), rg x7 → J8 x7 → RR sc goal fs 217 36 [some (rv 437), some (.int (J p0)), some (rv a5), none, none, none, none, none] [.int (J x7), rv 437] h6 := by
      intro x7 rx7 z8
      have w := j8 x7 rx7 z8
      refine r_n (pc1 := 37) [.int (J 2), .int (J x7), rv 437] _ rfl rfl ?_
      refine r_iv rfl rfl rfl rfl rfl rfl t6 (lyk t6 rfl) rfl (xe_of (xa_r (xa_i (xa_i xa_0))) rfl rfl) (r_d0 hd rfl) (a_X14_refused x7 2 (r_d1 hd rfl) rx7 (rgk rfl) w t6 (fun x9 h10 t10 u10 rx9 vx9 w => ?_))
      refine r_fI (pc1 := 40) rfl ?_
      have s10 := HX_trans s6 u10
      have w := w t10 u10
      have w := w rx9 vx9
      refine r_iz (t := 45) (pc1 := 43) rfl rfl rfl rx9 (fun c30 => ?_) (fun c30 => ?_)
      · have w := w.1 c30
        refine r_n (pc1 := 46) [.int (J 0)] _ rfl rfl ?_
        refine r_istn (pc1 := 47) (ls1 := [some (rv 437), some (.int (J p0)), some (rv a5), some (.int (J 0)), none, none, none, none]) rfl rfl rfl (xput1_rv rfl rfl) ?_
        refine r_aldn (pc1 := 48) rfl rfl rfl ?_
        refine r_n (pc1 := 49) [.int (J p0), rv 437] _ rfl rfl ?_
        refine r_iv rfl rfl rfl rfl rfl rfl t10 (lyk t10 rfl) rfl (xe_of (xa_r (xa_i xa_0)) rfl rfl) (r_d0 hd rfl) (a_X14_versionsOf p0 (r_d1 hd rfl) rp0 w t10 (fun a11 h12 t12 u12 w => ?_))
        refine r_fR (pc1 := 52) rfl ?_
        have s12 := HX_trans s10 u12
        have w := w t12 u12
        refine r_ast (pc1 := 54) (ls1 := [some (rv 437), some (.int (J p0)), some (rv a5), some (.int (J 0)), some (rv a11), none, none, none]) rfl rfl rfl rfl ?_
        refine r_ald (pc1 := 56) rfl rfl rfl ?_
        obtain ⟨c13, w⟩ := w
        obtain ⟨c14, w⟩ := w
        refine r_len (pc1 := 57) (u := 0) rfl rfl t12 c13 (by decide) (fun rc14 => ?_) c14
        refine r_vI rc14 (fun x15 ex15 rx15 => ?_)
        have w := w x15 ex15 rx15
        refine r_ist (pc1 := 59) (ls1 := [some (rv 437), some (.int (J p0)), some (rv a5), some (.int (J 0)), some (rv a11), some (.int (J x15)), none, none]) rfl rfl rfl (xput1_rv rfl rfl) ?_
        refine r_n (pc1 := 60) [.int (J 0)] _ rfl rfl ?_
        refine r_ist (pc1 := 62) (ls1 := [some (rv 437), some (.int (J p0)), some (rv a5), some (.int (J 0)), some (rv a11), some (.int (J x15)), some (.int (J 0)), none]) rfl rfl rfl rfl ?_
        obtain ⟨I19, m19, w, y19⟩ := w
        have Q19 : ∀ (n : Nat) (d18 : Option Value) (x16 : Int) (x17 : Int), rg x16 → rg x17 → m19 x16 x17 < n → I19 x16 x17 → RR sc goal fs 217 62 [some (rv 437), some (.int (J p0)), some (rv a5), some (.int (J x16)), some (rv a11), some (.int (J x15)), some (.int (J x17)), d18] [] h12 := by
          intro n
          induction n with
          | zero => intro d18 x16 x17 rx16 rx17 q19 _; exact absurd q19 (Nat.not_lt_zero _)
          | succ n ih19 =>
            intro d18 x16 x17 rx16 rx17 q19 z19
            have w := y19 x16 x17 rx16 rx17 z19
            refine r_n (pc1 := 64) [.int (J x17)] _ rfl rfl ?_
            refine r_n (pc1 := 66) [.int (J x15), .int (J x17)] _ rfl rfl ?_
            refine r_ic (t := 105) (pc1 := 69) rfl rfl rfl rx17 rx15 (fun c29 => ?_) (fun c29 => ?_)
            · have w := w.1 c29
              refine r_n (pc1 := 106) [.int (J x16)] _ rfl rfl ?_
              exact r_retI rfl rfl rfl (k _ _ t12 s12 rx16 w)
            · have w := w.2 c29
              refine r_ald (pc1 := 71) rfl rfl rfl ?_
              refine r_n (pc1 := 73) [.int (J x17), rv a11] _ rfl rfl ?_
              obtain ⟨c20, w⟩ := w
              refine r_ial (pc1 := 74) rfl rfl t12 c13 rx17 c20.1 c20.2 ?_
              refine r_vI (rgh _ _ _) (fun x21 ex21 rx21 => ?_)
              have w := w x21 ex21 rx21
              refine r_ist (pc1 := 76) (ls1 := [some (rv 437), some (.int (J p0)), some (rv a5), some (.int (J x16)), some (rv a11), some (.int (J x15)), some (.int (J x17)), some (.int (J x21))]) rfl rfl rfl rfl ?_
              refine r_n (pc1 := 77) [.int (J x16)] _ rfl rfl ?_
              refine r_aldn (pc1 := 78) rfl rfl rfl ?_
              refine r_n (pc1 := 79) [.int (J 0), rv a5, .int (J x16)] _ rfl rfl ?_
              refine r_aldn (pc1 := 80) rfl rfl rfl ?_
              refine r_n (pc1 := 82) [.int (J x21), rv 437, .int (J 0), rv a5, .int (J x16)] _ rfl rfl ?_
              refine r_n (pc1 := 83) [.int (J 1), .int (J x21), rv 437, .int (J 0), rv a5, .int (J x16)] _ rfl rfl ?_
              refine r_iv rfl rfl rfl rfl rfl rfl t12 (lyk t12 rfl) rfl (xe_of (xa_r (xa_i (xa_i xa_0))) rfl rfl) (r_d0 hd rfl) (a_X14_ver x21 1 (r_d1 hd rfl) rx21 (rgk rfl) w t12 (fun x22 rx22 w => ?_))
              refine r_fI (pc1 := 86) rfl ?_
              have w := w rx22
              refine r_iq rfl rfl rfl rfl rfl rfl (xe_of (xa_r (xa_i (xa_i xa_0))) rfl rfl) (r_d0 hd rfl) (a_X14_meetsRange a5 0 x22 (r_d1 hd rfl) (rgk rfl) rx22 w t12 (fun x23 rx23 vx23 w => ?_))
              refine r_fI (pc1 := 89) rfl ?_
              have w := w rx23 vx23
              obtain ⟨J25, j25, w⟩ := w
              have Q25 : ∀ (x24 : Int), rg x24 → J25 x24 → RR sc goal fs 217 97 [some (rv 437), some (.int (J p0)), some (rv a5), some (.int (J x16)), some (rv a11), some (.int (J x15)), some (.int (J x17)), some (.int (J x21))] [.int (J x24), .int (J x16)] h12 := by
                intro x24 rx24 z25
                have w := j25 x24 rx24 z25
                refine r_iadd (pc1 := 98) rfl rfl ?_
                refine r_vI (rgw _) (fun x26 ex26 rx26 => ?_)
                have w := w x26 ex26 rx26
                refine r_istn (pc1 := 99) (ls1 := [some (rv 437), some (.int (J p0)), some (rv a5), some (.int (J x26)), some (rv a11), some (.int (J x15)), some (.int (J x17)), some (.int (J x21))]) rfl rfl rfl (xput1_rv rfl rfl) ?_
                refine r_inc (pc1 := 102) (g := fun zz => [some (rv 437), some (.int (J p0)), some (rv a5), some (.int (J x26)), some (rv a11), some (.int (J x15)), some (.int (J zz)), some (.int (J x21))]) rfl rfl rfl rfl (fun _ => rfl) (fun x27 ex27 rx27 => ?_)
                have w := w x27 ex27 rx27
                refine r_goto (t := 62) rfl rfl ?_
                exact ih19 _ x26 x27  rx26 rx27 (Nat.lt_of_lt_of_le w.2 (Nat.le_of_lt_succ q19)) w.1
              refine r_iz (t := 96) (pc1 := 92) rfl rfl rfl rx23 (fun c28 => ?_) (fun c28 => ?_)
              · have w := w.1 c28
                refine r_n (pc1 := 97) [.int (J 0), .int (J x16)] _ rfl rfl ?_
                exact Q25  0  (rgk rfl) w
              · have w := w.2 c28
                refine r_n (pc1 := 93) [.int (J 1), .int (J x16)] _ rfl rfl ?_
                refine r_goto (t := 97) rfl rfl ?_
                exact Q25  1  (rgk rfl) w
        exact Q19 _ _ 0 0  (rgk rfl) (rgk rfl) (Nat.lt_succ_self _) w
      · have w := w.2 c30
        refine r_n (pc1 := 44) [.int (J 0)] _ rfl rfl ?_
        exact r_retI rfl rfl rfl (k _ _ t10 s10 (rgk rfl) w)
    refine r_null (t := 35) (pc1 := 31) rfl rfl rfl (fun c31 => ?_) (fun c31 => ?_)
    · have w := w.1 c31
      refine r_n (pc1 := 36) [.int (J 0), rv 437] _ rfl rfl ?_
      exact Q8  0  (rgk rfl) w
    · have w := w.2 c31
      refine r_n (pc1 := 32) [.int (J 1), rv 437] _ rfl rfl ?_
      refine r_goto (t := 36) rfl rfl ?_
      exact Q8  1  (rgk rfl) w
  · have w := w.2 c32
    refine r_n (pc1 := 19) [.int (J 0)] _ rfl rfl ?_
    exact r_retI rfl rfl rfl (k _ _ t4 s4 (rgk rfl) w)
def w_X12_root (p0 : Int) (K : Int → XH → Prop) (E : Nat → XH → Prop) (h : XH) : Prop :=
  (∃ J1 : Prop, (J1 → (E 1 (nT h))) ∧ ((p0 < 0 → J1) ∧ (¬ (p0 < 0) → (((p0 < 3 → (w_X12_remember (fun h2 => HT h2 → HX h h2 → (∀ x3 : Int, x3 = hI h2 8 4 → rg x3 → ∀ h4 : XH, h4 = sI h2 8 4 p0 → HT h4 → HX h2 h4 → K x3 h4)) h)) ∧ (¬ (p0 < 3) → J1))))))
set_option maxHeartbeats 4000000 in
theorem a_X12_root {sc : Nat × (Nat → Int32)} {goal : XO → XH → Prop} {fs : List XF} {h : XH} (p0 : Int) {K : Int → XH → Prop} {E : Nat → XH → Prop} (hd : fs.length + 4 ≤ 1000) (rp0 : rg p0) (w : w_X12_root p0 K E h) (t0 : HT h) (k : ∀ (r : Int) (h1 : XH), HT h1 → HX h h1 → rg r → K r h1 → XFin xP sc goal fs (.inl (some (.int (J r)))) h1) (kE : ∀ (x : Nat) (h1 : XH), HT h1 → HX h h1 → E x h1 → XFin xP sc goal fs (.inr x) h1) : RR sc goal fs 146 0 [some (rv 2), some (.int (J p0)), none] [] h := by
  unfold w_X12_root at w
  refine r_n (pc1 := 1) [.int (J p0)] _ rfl rfl ?_
  obtain ⟨J1, j1, w⟩ := w
  have Q1 : J1 → RR sc goal fs 146 9 [some (rv 2), some (.int (J p0)), none] [] h := by
    intro z1
    have w := j1 z1
    exact r_thr rfl rfl rfl rfl rfl rfl (kE _ _ (HT_nT t0).1 (HX_trans (HX_refl h) (HT_nT t0).2) w)
  refine r_iz (t := 9) (pc1 := 4) rfl rfl rfl rp0 (fun c6 => ?_) (fun c6 => ?_)
  · have w := w.1 c6
    exact Q1     w
  · have w := w.2 c6
    refine r_n (pc1 := 5) [.int (J p0)] _ rfl rfl ?_
    refine r_n (pc1 := 6) [.int (J 3), .int (J p0)] _ rfl rfl ?_
    refine r_ic (t := 20) (pc1 := 9) rfl rfl rfl rp0 (rgk rfl) (fun c5 => ?_) (fun c5 => ?_)
    · have w := w.1 c5
      refine r_aldn (pc1 := 21) rfl rfl rfl ?_
      refine r_iv rfl rfl rfl rfl rfl rfl t0 (lyk t0 rfl) rfl (xe_of (xa_r xa_0) rfl rfl) (r_d0 hd rfl) (a_X12_remember  (r_d1 hd rfl)  w t0 (fun h2 t2 u2 w => ?_))
      refine r_fV (pc1 := 24) rfl ?_
      have s2 := HX_trans (HX_refl h) u2
      have w := w t2 u2
      refine r_aldn (pc1 := 25) rfl rfl rfl ?_
      refine r_gfC (pc1 := 28) (q := 8) rfl rfl rfl t2 (lyk t2 rfl) rfl rfl (lyR t2 rfl rfl) ?_
      refine r_gfI (pc1 := 31) rfl rfl rfl t2 (lyk t2 rfl) rfl rfl ?_
      refine r_vI (rgh _ _ _) (fun x3 ex3 rx3 => ?_)
      have w := w x3 ex3 rx3
      refine r_istn (pc1 := 32) (ls1 := [some (rv 2), some (.int (J p0)), some (.int (J x3))]) rfl rfl rfl rfl ?_
      refine r_aldn (pc1 := 33) rfl rfl rfl ?_
      refine r_gfC (pc1 := 36) (q := 8) rfl rfl rfl t2 (lyk t2 rfl) rfl rfl (lyR t2 rfl rfl) ?_
      refine r_n (pc1 := 37) [.int (J p0), rv 8] _ rfl rfl ?_
      refine r_pfI (pc1 := 40) rfl rfl rfl t2 (lyk t2 rfl) rfl rfl rfl (fun h4 eh4 t4 u4 => ?_)
      have w := w h4 eh4 t4 u4
      have s4 := HX_trans s2 u4
      refine r_n (pc1 := 41) [.int (J x3)] _ rfl rfl ?_
      exact r_retI rfl rfl rfl (k _ _ t4 s4 rx3 w)
    · have w := w.2 c5
      exact Q1     w
def w_L_root (p1 : Int) (K : Int → XH → Prop) (h : XH) : Prop :=
  (w_X12_root p1 (fun x1 h2 => HT h2 → HX h h2 → rg x1 → (∀ h5 : XH, h5 = sL h2 467 0 (i2l x1) → HT h5 → HX h2 h5 → (K 0 h5))) (fun y4 h3 => ((y4 = 1 ∧ K 1 h3))) h)
set_option maxHeartbeats 4000000 in
theorem a_L_root {sc : Nat × (Nat → Int32)} {goal : XO → XH → Prop} {fs : List XF} {h : XH} (p1 : Int) {K : Int → XH → Prop} (hd : fs.length + 5 ≤ 1000) (rp1 : rg p1) (w : w_L_root p1 K h) (t0 : HT h) (k : ∀ (r : Int) (h1 : XH), HT h1 → HX h h1 → rg r → K r h1 → XFin xP sc goal fs (.inl (some (.int (J r)))) h1) : RR sc goal fs 59 0 [some (rv 2), some (.int (J p1)), some (rv 467), none] [] h := by
  unfold w_L_root at w
  refine r_aldn (pc1 := 1) rfl rfl rfl ?_
  refine r_n (pc1 := 2) [.int (J 0), rv 467] _ rfl rfl ?_
  refine r_aldn (pc1 := 3) rfl rfl rfl ?_
  refine r_n (pc1 := 4) [.int (J p1), rv 2, .int (J 0), rv 467] _ rfl rfl ?_
  refine r_iv rfl rfl rfl rfl rfl rfl t0 (lyk t0 rfl) rfl (xe_of (xa_r (xa_i xa_0)) rfl rfl) (r_d0 hd rfl) (a_X12_root p1 (r_d1 hd rfl) rp1 w t0 (fun x1 h2 t2 u2 rx1 w => ?_) (fun y4 h3 ty uy w => ?_))
  · refine r_fI (pc1 := 7) rfl ?_
    have s2 := HX_trans (HX_refl h) u2
    have w := w t2 u2
    have w := w rx1
    refine r_i2l (pc1 := 8) rfl rfl ?_
    refine r_last (pc1 := 9) rfl rfl t2 (lyk t2 rfl) (rgk rfl) (by decide) (lt_len (lyn t2 rfl) (by decide)) (fun h5 eh5 t5 u5 => ?_)
    have w := w h5 eh5 t5 u5
    have s5 := HX_trans s2 u5
    refine r_goto (t := 15) rfl rfl ?_
    refine r_n (pc1 := 16) [.int (J 0)] _ rfl rfl ?_
    exact r_retI rfl rfl rfl (k _ _ t5 s5 (rgk rfl) w)
  · obtain ⟨rfl, w⟩ := w
    exact r_fink (z := 1) rfl (by decide) rfl rfl (k _ _ ty (HX_trans (HX_refl h) uy) (rgk rfl) w)
def w_X14_root (p0 : Int) (K : Int → XH → Prop) (h : XH) : Prop :=
  (∀ h1 : XH, h1 = sI h 437 5 0 → HT h1 → HX h h1 → w_X14_within p0 0 2 (fun x2 => rg x2 → (x2 = 0 ∨ x2 = 1) → (w_X14_refused x2 1 (fun x3 h4 => HT h4 → HX h1 h4 → rg x3 → (x3 = 0 ∨ x3 = 1) → (((x3 = 0 → (w_X14_record (fun h5 => HT h5 → HX h4 h5 → (∀ x6 : Int, x6 = hI h5 438 1 → rg x6 → ∀ h7 : XH, h7 = sI h5 438 1 p0 → HT h7 → HX h5 h7 → K x6 h7)) h4)) ∧ (¬ (x3 = 0) → (K 0 h4))))) h1)) h1)
set_option maxHeartbeats 4000000 in
theorem a_X14_root {sc : Nat × (Nat → Int32)} {goal : XO → XH → Prop} {fs : List XF} {h : XH} (p0 : Int) {K : Int → XH → Prop} (hd : fs.length + 2 ≤ 1000) (rp0 : rg p0) (w : w_X14_root p0 K h) (t0 : HT h) (k : ∀ (r : Int) (h1 : XH), HT h1 → HX h h1 → rg r → K r h1 → XFin xP sc goal fs (.inl (some (.int (J r)))) h1) : RR sc goal fs 291 0 [some (rv 437), some (.int (J p0)), none] [] h := by
  unfold w_X14_root at w
  refine r_aldn (pc1 := 1) rfl rfl rfl ?_
  refine r_n (pc1 := 2) [.int (J 0), rv 437] _ rfl rfl ?_
  refine r_pfI (pc1 := 5) rfl rfl rfl t0 (lyk t0 rfl) rfl rfl rfl (fun h1 eh1 t1 u1 => ?_)
  have w := w h1 eh1 t1 u1
  have s1 := HX_trans (HX_refl h) u1
  refine r_aldn (pc1 := 6) rfl rfl rfl ?_
  refine r_n (pc1 := 7) [.int (J p0), rv 437] _ rfl rfl ?_
  refine r_n (pc1 := 8) [.int (J 0), .int (J p0), rv 437] _ rfl rfl ?_
  refine r_n (pc1 := 9) [.int (J 2), .int (J 0), .int (J p0), rv 437] _ rfl rfl ?_
  refine r_iq rfl rfl rfl rfl rfl rfl (xe_of (xa_i (xa_i (xa_i xa_0))) rfl rfl) (r_d0 hd rfl) (a_X14_within p0 0 2 (r_d1 hd rfl) rp0 (rgk rfl) (rgk rfl) w t1 (fun x2 rx2 vx2 w => ?_))
  refine r_fI (pc1 := 12) rfl ?_
  have w := w rx2 vx2
  refine r_n (pc1 := 13) [.int (J 1), .int (J x2), rv 437] _ rfl rfl ?_
  refine r_iv rfl rfl rfl rfl rfl rfl t1 (lyk t1 rfl) rfl (xe_of (xa_r (xa_i (xa_i xa_0))) rfl rfl) (r_d0 hd rfl) (a_X14_refused x2 1 (r_d1 hd rfl) rx2 (rgk rfl) w t1 (fun x3 h4 t4 u4 rx3 vx3 w => ?_))
  refine r_fI (pc1 := 16) rfl ?_
  have s4 := HX_trans s1 u4
  have w := w t4 u4
  have w := w rx3 vx3
  refine r_iz (t := 21) (pc1 := 19) rfl rfl rfl rx3 (fun c8 => ?_) (fun c8 => ?_)
  · have w := w.1 c8
    refine r_aldn (pc1 := 22) rfl rfl rfl ?_
    refine r_iv rfl rfl rfl rfl rfl rfl t4 (lyk t4 rfl) rfl (xe_of (xa_r xa_0) rfl rfl) (r_d0 hd rfl) (a_X14_record  (r_d1 hd rfl)  w t4 (fun h5 t5 u5 w => ?_))
    refine r_fV (pc1 := 25) rfl ?_
    have s5 := HX_trans s4 u5
    have w := w t5 u5
    refine r_aldn (pc1 := 26) rfl rfl rfl ?_
    refine r_gfC (pc1 := 29) (q := 438) rfl rfl rfl t5 (lyk t5 rfl) rfl rfl (lyR t5 rfl rfl) ?_
    refine r_n (pc1 := 30) [.int (J 1), rv 438] _ rfl rfl ?_
    refine r_ial (pc1 := 31) rfl rfl t5 (lyk t5 rfl) (rgk rfl) (by decide) (lt_len (lyn t5 rfl) (by decide)) ?_
    refine r_vI (rgh _ _ _) (fun x6 ex6 rx6 => ?_)
    have w := w x6 ex6 rx6
    refine r_istn (pc1 := 32) (ls1 := [some (rv 437), some (.int (J p0)), some (.int (J x6))]) rfl rfl rfl rfl ?_
    refine r_aldn (pc1 := 33) rfl rfl rfl ?_
    refine r_gfC (pc1 := 36) (q := 438) rfl rfl rfl t5 (lyk t5 rfl) rfl rfl (lyR t5 rfl rfl) ?_
    refine r_n (pc1 := 37) [.int (J 1), rv 438] _ rfl rfl ?_
    refine r_n (pc1 := 38) [.int (J p0), .int (J 1), rv 438] _ rfl rfl ?_
    refine r_iast (pc1 := 39) rfl rfl t5 (lyk t5 rfl) (rgk rfl) (by decide) (lt_len (lyn t5 rfl) (by decide)) (fun h7 eh7 t7 u7 => ?_)
    have w := w h7 eh7 t7 u7
    have s7 := HX_trans s5 u7
    refine r_n (pc1 := 40) [.int (J x6)] _ rfl rfl ?_
    exact r_retI rfl rfl rfl (k _ _ t7 s7 rx6 w)
  · have w := w.2 c8
    refine r_n (pc1 := 20) [.int (J 0)] _ rfl rfl ?_
    exact r_retI rfl rfl rfl (k _ _ t4 s4 (rgk rfl) w)
def w_X6_addWish (t : Nat) (p0 : Nat) (K : Int → XH → Prop) (h : XH) : Prop :=
  (∀ x1 : Int, x1 = hI h t 0 → rg x1 → (0 ≤ x1 ∧ x1 < 8) ∧ (p0 = 0 ∨ hk h p0 = 1) ∧ ∀ h4 : XH, h4 = sR h (t + 1) x1.toNat p0 → HT h4 → HX h h4 → ∀ h5 : XH, h5 = sI h4 t 0 (wr ((hI h4 t 0) + 1)) → HT h5 → HX h4 h5 → K x1 h5)
set_option maxHeartbeats 4000000 in
theorem a_X6_addWish {sc : Nat × (Nat → Int32)} {goal : XO → XH → Prop} {fs : List XF} {h : XH} (t : Nat) (p0 : Nat) {K : Int → XH → Prop} (hd : fs.length + 0 ≤ 1000) (c0 : hk h t = 7) (w : w_X6_addWish t p0 K h) (t0 : HT h) (k : ∀ (r : Int) (h1 : XH), HT h1 → HX h h1 → rg r → K r h1 → XFin xP sc goal fs (.inl (some (.int (J r)))) h1) : RR sc goal fs 413 0 [some (rv t), some (rv p0), none] [] h := by
  unfold w_X6_addWish at w
  refine r_aldn (pc1 := 1) rfl rfl rfl ?_
  refine r_gfI (pc1 := 4) rfl rfl rfl t0 (HXk (HX_refl h) c0 rfl) rfl rfl ?_
  refine r_vI (rgh _ _ _) (fun x1 ex1 rx1 => ?_)
  have w := w x1 ex1 rx1
  refine r_istn (pc1 := 5) (ls1 := [some (rv t), some (rv p0), some (.int (J x1))]) rfl rfl rfl (xput1_rv rfl rfl) ?_
  refine r_aldn (pc1 := 6) rfl rfl rfl ?_
  refine r_gfC (pc1 := 9) (q := (t + 1)) rfl rfl rfl t0 (HXk (HX_refl h) c0 rfl) rfl rfl (lyr_7_1 t0 (HXk (HX_refl h) c0 rfl)) ?_
  refine r_n (pc1 := 10) [.int (J x1), rv (t + 1)] _ rfl rfl ?_
  refine r_aldn (pc1 := 11) rfl rfl rfl ?_
  obtain ⟨c2, w⟩ := w
  obtain ⟨c3, w⟩ := w
  refine r_aast (pc1 := 12) (u := 3) rfl rfl t0 (lyo_7_1 t0 (HXk (HX_refl h) c0 rfl)).1 (.inl rfl) (c3.elim .inl (fun q => .inr (.inl ⟨rfl, q⟩))) rx1 c2.1 (lt_len (lyo_7_1 t0 (HXk (HX_refl h) c0 rfl)).2 c2.2) (fun h4 eh4 t4 u4 => ?_)
  have w := w h4 eh4 t4 u4
  have s4 := HX_trans (HX_refl h) u4
  refine r_aldn (pc1 := 13) rfl rfl rfl ?_
  refine r_dupR (pc1 := 14) rfl rfl ?_
  refine r_gfI (pc1 := 17) rfl rfl rfl t4 (HXk s4 c0 rfl) rfl rfl ?_
  refine r_n (pc1 := 18) [.int (J 1), .int (J (hI h4 t 0)), rv t] _ rfl rfl ?_
  refine r_iadd (pc1 := 19) rfl rfl ?_
  refine r_pfI (pc1 := 22) rfl rfl rfl t4 (HXk s4 c0 rfl) rfl rfl rfl (fun h5 eh5 t5 u5 => ?_)
  have w := w h5 eh5 t5 u5
  have s5 := HX_trans s4 u5
  refine r_n (pc1 := 23) [.int (J x1)] _ rfl rfl ?_
  exact r_retI rfl rfl rfl (k _ _ t5 s5 rx1 w)
def w_X12_wish  (K : Int → XH → Prop) (E : Nat → XH → Prop) (h : XH) : Prop :=
  (w_X11_atHand (fun a1 => (hk h a1 = 7 ∧ ((hI h a1 0 < 8 → (w_X12_checkedNeed 0 (fun a3 h4 => HT h4 → HX h h4 → (w_X12_remember (fun h5 => HT h5 → HX h4 h5 → (w_X11_atHand (fun a6 => (hk h5 a6 = 7 ∧ w_X6_addWish a6 a3 (fun x8 h9 => HT h9 → HX h5 h9 → rg x8 → (K x8 h9)) h5)) h5)) h4)) E h)) ∧ (¬ (hI h a1 0 < 8) → (E 0 (nT h)))))) h)
set_option maxHeartbeats 4000000 in
theorem a_X12_wish {sc : Nat × (Nat → Int32)} {goal : XO → XH → Prop} {fs : List XF} {h : XH}  {K : Int → XH → Prop} {E : Nat → XH → Prop} (hd : fs.length + 7 ≤ 1000) (w : w_X12_wish  K E h) (t0 : HT h) (k : ∀ (r : Int) (h1 : XH), HT h1 → HX h h1 → rg r → K r h1 → XFin xP sc goal fs (.inl (some (.int (J r)))) h1) (kE : ∀ (x : Nat) (h1 : XH), HT h1 → HX h h1 → E x h1 → XFin xP sc goal fs (.inr x) h1) : RR sc goal fs 164 0 [some (rv 2), none] [] h := by
  unfold w_X12_wish at w
  refine r_aldn (pc1 := 1) rfl rfl rfl ?_
  refine r_gfC (pc1 := 4) (q := 8) rfl rfl rfl t0 (lyk t0 rfl) rfl rfl (lyR t0 rfl rfl) ?_
  refine r_iv rfl rfl rfl rfl rfl rfl t0 (lyk t0 rfl) rfl (xe_of (xa_r xa_0) rfl rfl) (r_d0 hd rfl) (a_X11_atHand  (r_d1 hd rfl)  w t0 (fun a1 w => ?_))
  refine r_fR (pc1 := 7) rfl ?_
  obtain ⟨c2, w⟩ := w
  refine r_gfI (pc1 := 10) rfl rfl rfl t0 c2 rfl rfl ?_
  refine r_n (pc1 := 12) [.int (J 8), .int (J (hI h a1 0))] _ rfl rfl ?_
  refine r_ic (t := 26) (pc1 := 15) rfl rfl rfl (rgh _ _ _) (rgk rfl) (fun c10 => ?_) (fun c10 => ?_)
  · have w := w.1 c10
    refine r_aldn (pc1 := 27) rfl rfl rfl ?_
    refine r_n (pc1 := 28) [.int (J 0), rv 2] _ rfl rfl ?_
    refine r_iv rfl rfl rfl rfl rfl rfl t0 (lyk t0 rfl) rfl (xe_of (xa_r (xa_i xa_0)) rfl rfl) (r_d0 hd rfl) (a_X12_checkedNeed 0 (r_d1 hd rfl) (rgk rfl) w t0 (fun a3 h4 t4 u4 w => ?_) (fun x y ty uy w => r_finx rfl rfl (kE x y ty (HX_trans (HX_refl h) uy) w)))
    refine r_fR (pc1 := 31) rfl ?_
    have s4 := HX_trans (HX_refl h) u4
    have w := w t4 u4
    refine r_astn (pc1 := 32) (ls1 := [some (rv 2), some (rv a3)]) rfl rfl rfl rfl ?_
    refine r_aldn (pc1 := 33) rfl rfl rfl ?_
    refine r_iv rfl rfl rfl rfl rfl rfl t4 (lyk t4 rfl) rfl (xe_of (xa_r xa_0) rfl rfl) (r_d0 hd rfl) (a_X12_remember  (r_d1 hd rfl)  w t4 (fun h5 t5 u5 w => ?_))
    refine r_fV (pc1 := 36) rfl ?_
    have s5 := HX_trans s4 u5
    have w := w t5 u5
    refine r_aldn (pc1 := 37) rfl rfl rfl ?_
    refine r_gfC (pc1 := 40) (q := 8) rfl rfl rfl t5 (lyk t5 rfl) rfl rfl (lyR t5 rfl rfl) ?_
    refine r_iv rfl rfl rfl rfl rfl rfl t5 (lyk t5 rfl) rfl (xe_of (xa_r xa_0) rfl rfl) (r_d0 hd rfl) (a_X11_atHand  (r_d1 hd rfl)  w t5 (fun a6 w => ?_))
    refine r_fR (pc1 := 43) rfl ?_
    refine r_aldn (pc1 := 44) rfl rfl rfl ?_
    obtain ⟨c7, w⟩ := w
    refine r_iv rfl rfl rfl rfl rfl rfl t5 c7 rfl (xe_of (xa_r (xa_r xa_0)) rfl rfl) (r_d0 hd rfl) (a_X6_addWish a6 a3 (r_d1 hd rfl) c7  w t5 (fun x8 h9 t9 u9 rx8 w => ?_))
    refine r_fI (pc1 := 47) rfl ?_
    have s9 := HX_trans s5 u9
    have w := w t9 u9
    have w := w rx8
    exact r_retI rfl rfl rfl (k _ _ t9 s9 rx8 w)
  · have w := w.2 c10
    exact r_thr rfl rfl rfl rfl rfl rfl (kE _ _ (HT_nT t0).1 (HX_trans (HX_refl h) (HT_nT t0).2) w)
def w_L_wish  (K : Int → XH → Prop) (h : XH) : Prop :=
  (w_X12_wish (fun x1 h2 => HT h2 → HX h h2 → rg x1 → (∀ h5 : XH, h5 = sL h2 467 0 (i2l x1) → HT h5 → HX h2 h5 → (K 0 h5))) (fun y4 h3 => ((y4 = 0 ∧ K 1 h3) ∨ (y4 = 1 ∧ K 2 h3))) h)
set_option maxHeartbeats 4000000 in
theorem a_L_wish {sc : Nat × (Nat → Int32)} {goal : XO → XH → Prop} {fs : List XF} {h : XH}  {K : Int → XH → Prop} (hd : fs.length + 8 ≤ 1000) (w : w_L_wish  K h) (t0 : HT h) (k : ∀ (r : Int) (h1 : XH), HT h1 → HX h h1 → rg r → K r h1 → XFin xP sc goal fs (.inl (some (.int (J r)))) h1) : RR sc goal fs 69 0 [some (rv 2), some (rv 467), none] [] h := by
  unfold w_L_wish at w
  refine r_aldn (pc1 := 1) rfl rfl rfl ?_
  refine r_n (pc1 := 2) [.int (J 0), rv 467] _ rfl rfl ?_
  refine r_aldn (pc1 := 3) rfl rfl rfl ?_
  refine r_iv rfl rfl rfl rfl rfl rfl t0 (lyk t0 rfl) rfl (xe_of (xa_r xa_0) rfl rfl) (r_d0 hd rfl) (a_X12_wish  (r_d1 hd rfl)  w t0 (fun x1 h2 t2 u2 rx1 w => ?_) (fun y4 h3 ty uy w => ?_))
  · refine r_fI (pc1 := 6) rfl ?_
    have s2 := HX_trans (HX_refl h) u2
    have w := w t2 u2
    have w := w rx1
    refine r_i2l (pc1 := 7) rfl rfl ?_
    refine r_last (pc1 := 8) rfl rfl t2 (lyk t2 rfl) (rgk rfl) (by decide) (lt_len (lyn t2 rfl) (by decide)) (fun h5 eh5 t5 u5 => ?_)
    have w := w h5 eh5 t5 u5
    have s5 := HX_trans s2 u5
    refine r_goto (t := 17) rfl rfl ?_
    refine r_n (pc1 := 18) [.int (J 0)] _ rfl rfl ?_
    exact r_retI rfl rfl rfl (k _ _ t5 s5 (rgk rfl) w)
  · rcases w with ⟨rfl, w⟩ | w
    · exact r_fink (z := 1) rfl (by decide) rfl rfl (k _ _ ty (HX_trans (HX_refl h) uy) (rgk rfl) w)
    obtain ⟨rfl, w⟩ := w
    exact r_fink (z := 2) rfl (by decide) rfl rfl (k _ _ ty (HX_trans (HX_refl h) uy) (rgk rfl) w)
