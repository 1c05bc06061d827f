/-! printed by dec.py: what each method wants, and that the machine keeps it -/ 
def w_J13_bitCount_95d88 (p0 : BitVec 64) (K : Int → Prop) (h : XH) : Prop :=
  (∀ b1 : BitVec 64, b1 = p0 - ((lushr p0 1) &&& (6148914691236517205#64)) → ∀ b2 : BitVec 64, b2 = (b1 &&& (3689348814741910323#64)) + ((lushr b1 2) &&& (3689348814741910323#64)) → ∀ b3 : BitVec 64, b3 = (b2 + (lushr b2 4)) &&& (1085102592571150095#64) → ∀ b4 : BitVec 64, b4 = b3 + (lushr b3 8) → ∀ b5 : BitVec 64, b5 = b4 + (lushr b4 16) → ∀ b6 : BitVec 64, b6 = b5 + (lushr b5 32) → K (iand (l2i b6) 127))
set_option maxHeartbeats 4000000 in
theorem a_J13_bitCount_95d88 {sc : Nat × (Nat → Int32)} {goal : XO → XH → Prop} {fs : List XF} {h : XH} (p0 : BitVec 64) {K : Int → Prop} (hd : fs.length + 0 ≤ 1000) (w : w_J13_bitCount_95d88 p0 K h) (t0 : HT h) (k : ∀ (r : Int), rg r → K r → XFin xP sc goal fs (.inl (some (.int (J r)))) h) : RR sc goal fs 1 0 [some (.long (G p0)), none] [] h := by
  unfold w_J13_bitCount_95d88 at w
  refine r_n (pc1 := 1) [.long (G p0)] _ rfl rfl ?_
  refine r_n (pc1 := 2) [.long (G p0), .long (G p0)] _ rfl rfl ?_
  refine r_n (pc1 := 3) [.int (J 1), .long (G p0), .long (G p0)] _ rfl rfl ?_
  refine r_lushr (pc1 := 4) rfl rfl ?_
  refine r_n (pc1 := 7) [.long (G (6148914691236517205#64)), .long (G (lushr p0 1)), .long (G p0)] _ rfl rfl ?_
  refine r_land (pc1 := 8) rfl rfl ?_
  refine r_lsub (pc1 := 9) rfl rfl ?_
  refine r_vL (fun b1 eb1 => ?_)
  have w := w b1 eb1
  refine r_lstn (pc1 := 10) (ls1 := [some (.long (G b1)), none]) rfl rfl rfl rfl ?_
  refine r_n (pc1 := 11) [.long (G b1)] _ rfl rfl ?_
  refine r_n (pc1 := 14) [.long (G (3689348814741910323#64)), .long (G b1)] _ rfl rfl ?_
  refine r_land (pc1 := 15) rfl rfl ?_
  refine r_n (pc1 := 16) [.long (G b1), .long (G (b1 &&& (3689348814741910323#64)))] _ rfl rfl ?_
  refine r_n (pc1 := 17) [.int (J 2), .long (G b1), .long (G (b1 &&& (3689348814741910323#64)))] _ rfl rfl ?_
  refine r_lushr (pc1 := 18) rfl rfl ?_
  refine r_n (pc1 := 21) [.long (G (3689348814741910323#64)), .long (G (lushr b1 2)), .long (G (b1 &&& (3689348814741910323#64)))] _ rfl rfl ?_
  refine r_land (pc1 := 22) rfl rfl ?_
  refine r_ladd (pc1 := 23) rfl rfl ?_
  refine r_vL (fun b2 eb2 => ?_)
  have w := w b2 eb2
  refine r_lstn (pc1 := 24) (ls1 := [some (.long (G b2)), none]) rfl rfl rfl rfl ?_
  refine r_n (pc1 := 25) [.long (G b2)] _ rfl rfl ?_
  refine r_n (pc1 := 26) [.long (G b2), .long (G b2)] _ rfl rfl ?_
  refine r_n (pc1 := 27) [.int (J 4), .long (G b2), .long (G b2)] _ rfl rfl ?_
  refine r_lushr (pc1 := 28) rfl rfl ?_
  refine r_ladd (pc1 := 29) rfl rfl ?_
  refine r_n (pc1 := 32) [.long (G (1085102592571150095#64)), .long (G (b2 + (lushr b2 4)))] _ rfl rfl ?_
  refine r_land (pc1 := 33) rfl rfl ?_
  refine r_vL (fun b3 eb3 => ?_)
  have w := w b3 eb3
  refine r_lstn (pc1 := 34) (ls1 := [some (.long (G b3)), none]) rfl rfl rfl rfl ?_
  refine r_n (pc1 := 35) [.long (G b3)] _ rfl rfl ?_
  refine r_n (pc1 := 36) [.long (G b3), .long (G b3)] _ rfl rfl ?_
  refine r_n (pc1 := 38) [.int (J 8), .long (G b3), .long (G b3)] _ rfl rfl ?_
  refine r_lushr (pc1 := 39) rfl rfl ?_
  refine r_ladd (pc1 := 40) rfl rfl ?_
  refine r_vL (fun b4 eb4 => ?_)
  have w := w b4 eb4
  refine r_lstn (pc1 := 41) (ls1 := [some (.long (G b4)), none]) rfl rfl rfl rfl ?_
  refine r_n (pc1 := 42) [.long (G b4)] _ rfl rfl ?_
  refine r_n (pc1 := 43) [.long (G b4), .long (G b4)] _ rfl rfl ?_
  refine r_n (pc1 := 45) [.int (J 16), .long (G b4), .long (G b4)] _ rfl rfl ?_
  refine r_lushr (pc1 := 46) rfl rfl ?_
  refine r_ladd (pc1 := 47) rfl rfl ?_
  refine r_vL (fun b5 eb5 => ?_)
  have w := w b5 eb5
  refine r_lstn (pc1 := 48) (ls1 := [some (.long (G b5)), none]) rfl rfl rfl rfl ?_
  refine r_n (pc1 := 49) [.long (G b5)] _ rfl rfl ?_
  refine r_n (pc1 := 50) [.long (G b5), .long (G b5)] _ rfl rfl ?_
  refine r_n (pc1 := 52) [.int (J 32), .long (G b5), .long (G b5)] _ rfl rfl ?_
  refine r_lushr (pc1 := 53) rfl rfl ?_
  refine r_ladd (pc1 := 54) rfl rfl ?_
  refine r_vL (fun b6 eb6 => ?_)
  have w := w b6 eb6
  refine r_lstn (pc1 := 55) (ls1 := [some (.long (G b6)), none]) rfl rfl rfl rfl ?_
  refine r_n (pc1 := 56) [.long (G b6)] _ rfl rfl ?_
  refine r_l2i (pc1 := 57) rfl rfl ?_
  refine r_n (pc1 := 59) [.int (J 127), .int (J (l2i b6))] _ rfl rfl ?_
  refine r_iand (pc1 := 60) rfl rfl ?_
  exact r_retI rfl rfl rfl (k _ (rgt _) w)
def w_J13_lowestOneBit_067f4 (p0 : BitVec 64) (K : BitVec 64 → Prop) (h : XH) : Prop :=
  (K (p0 &&& (-p0)))
set_option maxHeartbeats 4000000 in
theorem a_J13_lowestOneBit_067f4 {sc : Nat × (Nat → Int32)} {goal : XO → XH → Prop} {fs : List XF} {h : XH} (p0 : BitVec 64) {K : BitVec 64 → Prop} (hd : fs.length + 0 ≤ 1000) (w : w_J13_lowestOneBit_067f4 p0 K h) (t0 : HT h) (k : ∀ (r : BitVec 64), K r → XFin xP sc goal fs (.inl (some (.long (G r)))) h) : RR sc goal fs 2 0 [some (.long (G p0)), none] [] h := by
  unfold w_J13_lowestOneBit_067f4 at w
  refine r_n (pc1 := 1) [.long (G p0)] _ rfl rfl ?_
  refine r_n (pc1 := 2) [.long (G p0), .long (G p0)] _ rfl rfl ?_
  refine r_lneg (pc1 := 3) rfl rfl ?_
  refine r_land (pc1 := 4) rfl rfl ?_
  exact r_retL rfl rfl rfl (k _ w)
def w_J3_checkIndex_8e157 (p0 : Int) (p1 : Int) (p2 : Nat) (K : Int → Prop) (h : XH) : Prop :=
  (∃ J1 : Prop, (J1 → (False)) ∧ ((p0 < 0 → J1) ∧ (¬ (p0 < 0) → (((p0 < p1 → (K p0)) ∧ (¬ (p0 < p1) → J1))))))
set_option maxHeartbeats 4000000 in
theorem a_J3_checkIndex_8e157 {sc : Nat × (Nat → Int32)} {goal : XO → XH → Prop} {fs : List XF} {h : XH} (p0 : Int) (p1 : Int) (p2 : Nat) {K : Int → Prop} (hd : fs.length + 0 ≤ 1000) (rp0 : rg p0) (rp1 : rg p1) (w : w_J3_checkIndex_8e157 p0 p1 p2 K h) (t0 : HT h) (k : ∀ (r : Int), rg r → K r → XFin xP sc goal fs (.inl (some (.int (J r)))) h) : RR sc goal fs 4 0 [some (.int (J p0)), some (.int (J p1)), some (rv p2)] [] h := by
  unfold w_J3_checkIndex_8e157 at w
  refine r_n (pc1 := 1) [.int (J p0)] _ rfl rfl ?_
  obtain ⟨J1, j1, w⟩ := w
  have Q1 : J1 → RR sc goal fs 4 9 [some (.int (J p0)), some (.int (J p1)), some (rv p2)] [] h := by
    intro z1
    have w := j1 z1
    refine r_aldn (pc1 := 10) rfl rfl rfl ?_
    refine r_n (pc1 := 11) [.int (J p0), rv p2] _ rfl rfl ?_
    refine r_n (pc1 := 12) [.int (J p1), .int (J p0), rv p2] _ rfl rfl ?_
    exact w.elim
  refine r_iz (t := 9) (pc1 := 4) rfl rfl rfl rp0 (fun c3 => ?_) (fun c3 => ?_)
  · have w := w.1 c3
    exact Q1     w
  · have w := w.2 c3
    refine r_n (pc1 := 5) [.int (J p0)] _ rfl rfl ?_
    refine r_n (pc1 := 6) [.int (J p1), .int (J p0)] _ rfl rfl ?_
    refine r_ic (t := 16) (pc1 := 9) rfl rfl rfl rp0 rp1 (fun c2 => ?_) (fun c2 => ?_)
    · have w := w.1 c2
      refine r_n (pc1 := 17) [.int (J p0)] _ rfl rfl ?_
      exact r_retI rfl rfl rfl (k _ rp0 w)
    · have w := w.2 c2
      exact Q1     w
def w_J15_checkIndex_7cf53 (p0 : Int) (p1 : Int) (K : Int → Prop) (h : XH) : Prop :=
  (w_J3_checkIndex_8e157 p0 p1 0 (fun x1 => rg x1 → (K x1)) h)
set_option maxHeartbeats 4000000 in
theorem a_J15_checkIndex_7cf53 {sc : Nat × (Nat → Int32)} {goal : XO → XH → Prop} {fs : List XF} {h : XH} (p0 : Int) (p1 : Int) {K : Int → Prop} (hd : fs.length + 1 ≤ 1000) (rp0 : rg p0) (rp1 : rg p1) (w : w_J15_checkIndex_7cf53 p0 p1 K h) (t0 : HT h) (k : ∀ (r : Int), rg r → K r → XFin xP sc goal fs (.inl (some (.int (J r)))) h) : RR sc goal fs 3 0 [some (.int (J p0)), some (.int (J p1))] [] h := by
  unfold w_J15_checkIndex_7cf53 at w
  refine r_n (pc1 := 1) [.int (J p0)] _ rfl rfl ?_
  refine r_n (pc1 := 2) [.int (J p1), .int (J p0)] _ rfl rfl ?_
  refine r_n (pc1 := 3) [rv 0, .int (J p1), .int (J p0)] _ rfl rfl ?_
  refine r_iq rfl rfl rfl rfl rfl rfl (xe_of (xa_i (xa_i (xa_r xa_0))) rfl rfl) (r_d0 hd rfl) (a_J3_checkIndex_8e157 p0 p1 0 (r_d1 hd rfl) rp0 rp1 w t0 (fun x1 rx1 w => ?_))
  refine r_fI (pc1 := 6) rfl ?_
  have w := w rx1
  exact r_retI rfl rfl rfl (k _ rx1 w)
def w_J6_bitCount_0f7a4 (p0 : Int) (K : Int → Prop) (h : XH) : Prop :=
  (∀ x1 : Int, x1 = wr (p0 - (iand (iushr p0 1) 1431655765)) → rg x1 → ∀ x2 : Int, x2 = wr ((iand x1 858993459) + (iand (iushr x1 2) 858993459)) → rg x2 → ∀ x3 : Int, x3 = iand (wr (x2 + (iushr x2 4))) 252645135 → rg x3 → ∀ x4 : Int, x4 = wr (x3 + (iushr x3 8)) → rg x4 → ∀ x5 : Int, x5 = wr (x4 + (iushr x4 16)) → rg x5 → K (iand x5 63))
set_option maxHeartbeats 4000000 in
theorem a_J6_bitCount_0f7a4 {sc : Nat × (Nat → Int32)} {goal : XO → XH → Prop} {fs : List XF} {h : XH} (p0 : Int) {K : Int → Prop} (hd : fs.length + 0 ≤ 1000) (rp0 : rg p0) (w : w_J6_bitCount_0f7a4 p0 K h) (t0 : HT h) (k : ∀ (r : Int), rg r → K r → XFin xP sc goal fs (.inl (some (.int (J r)))) h) : RR sc goal fs 5 0 [some (.int (J p0))] [] h := by
  unfold w_J6_bitCount_0f7a4 at w
  refine r_n (pc1 := 1) [.int (J p0)] _ rfl rfl ?_
  refine r_n (pc1 := 2) [.int (J p0), .int (J p0)] _ rfl rfl ?_
  refine r_n (pc1 := 3) [.int (J 1), .int (J p0), .int (J p0)] _ rfl rfl ?_
  refine r_iushr (pc1 := 4) rfl rfl ?_
  refine r_n (pc1 := 7) [.int (J 1431655765), .int (J (iushr p0 1)), .int (J p0)] _ rfl rfl ?_
  refine r_iand (pc1 := 8) rfl rfl ?_
  refine r_isub (pc1 := 9) rfl rfl ?_
  refine r_vI (rgw _) (fun x1 ex1 rx1 => ?_)
  have w := w x1 ex1 rx1
  refine r_istn (pc1 := 10) (ls1 := [some (.int (J x1))]) rfl rfl rfl rfl ?_
  refine r_n (pc1 := 11) [.int (J x1)] _ rfl rfl ?_
  refine r_n (pc1 := 14) [.int (J 858993459), .int (J x1)] _ rfl rfl ?_
  refine r_iand (pc1 := 15) rfl rfl ?_
  refine r_n (pc1 := 16) [.int (J x1), .int (J (iand x1 858993459))] _ rfl rfl ?_
  refine r_n (pc1 := 17) [.int (J 2), .int (J x1), .int (J (iand x1 858993459))] _ rfl rfl ?_
  refine r_iushr (pc1 := 18) rfl rfl ?_
  refine r_n (pc1 := 21) [.int (J 858993459), .int (J (iushr x1 2)), .int (J (iand x1 858993459))] _ rfl rfl ?_
  refine r_iand (pc1 := 22) rfl rfl ?_
  refine r_iadd (pc1 := 23) rfl rfl ?_
  refine r_vI (rgw _) (fun x2 ex2 rx2 => ?_)
  have w := w x2 ex2 rx2
  refine r_istn (pc1 := 24) (ls1 := [some (.int (J x2))]) rfl rfl rfl rfl ?_
  refine r_n (pc1 := 25) [.int (J x2)] _ rfl rfl ?_
  refine r_n (pc1 := 26) [.int (J x2), .int (J x2)] _ rfl rfl ?_
  refine r_n (pc1 := 27) [.int (J 4), .int (J x2), .int (J x2)] _ rfl rfl ?_
  refine r_iushr (pc1 := 28) rfl rfl ?_
  refine r_iadd (pc1 := 29) rfl rfl ?_
  refine r_n (pc1 := 32) [.int (J 252645135), .int (J (wr (x2 + (iushr x2 4))))] _ rfl rfl ?_
  refine r_iand (pc1 := 33) rfl rfl ?_
  refine r_vI (rgt _) (fun x3 ex3 rx3 => ?_)
  have w := w x3 ex3 rx3
  refine r_istn (pc1 := 34) (ls1 := [some (.int (J x3))]) rfl rfl rfl rfl ?_
  refine r_n (pc1 := 35) [.int (J x3)] _ rfl rfl ?_
  refine r_n (pc1 := 36) [.int (J x3), .int (J x3)] _ rfl rfl ?_
  refine r_n (pc1 := 38) [.int (J 8), .int (J x3), .int (J x3)] _ rfl rfl ?_
  refine r_iushr (pc1 := 39) rfl rfl ?_
  refine r_iadd (pc1 := 40) rfl rfl ?_
  refine r_vI (rgw _) (fun x4 ex4 rx4 => ?_)
  have w := w x4 ex4 rx4
  refine r_istn (pc1 := 41) (ls1 := [some (.int (J x4))]) rfl rfl rfl rfl ?_
  refine r_n (pc1 := 42) [.int (J x4)] _ rfl rfl ?_
  refine r_n (pc1 := 43) [.int (J x4), .int (J x4)] _ rfl rfl ?_
  refine r_n (pc1 := 45) [.int (J 16), .int (J x4), .int (J x4)] _ rfl rfl ?_
  refine r_iushr (pc1 := 46) rfl rfl ?_
  refine r_iadd (pc1 := 47) rfl rfl ?_
  refine r_vI (rgw _) (fun x5 ex5 rx5 => ?_)
  have w := w x5 ex5 rx5
  refine r_istn (pc1 := 48) (ls1 := [some (.int (J x5))]) rfl rfl rfl rfl ?_
  refine r_n (pc1 := 49) [.int (J x5)] _ rfl rfl ?_
  refine r_n (pc1 := 51) [.int (J 63), .int (J x5)] _ rfl rfl ?_
  refine r_iand (pc1 := 52) rfl rfl ?_
  exact r_retI rfl rfl rfl (k _ (rgt _) w)
def w_J6_numberOfLeadingZeros_0f7a4 (p0 : Int) (K : Int → Prop) (h : XH) : Prop :=
  (((0 < p0 → (∃ J3 : Int → Int → Prop, (∀ (x1 : Int) (x2 : Int), rg x1 → rg x2 → J3 x1 x2 → (∃ J6 : Int → Int → Prop, (∀ (x4 : Int) (x5 : Int), rg x4 → rg x5 → J6 x4 x5 → (∃ J9 : Int → Int → Prop, (∀ (x7 : Int) (x8 : Int), rg x7 → rg x8 → J9 x7 x8 → (∃ J12 : Int → Int → Prop, (∀ (x10 : Int) (x11 : Int), rg x10 → rg x11 → J12 x10 x11 → (K (wr (x11 - (iushr x10 1))))) ∧ ((x7 < 4 → J12 x7 x8) ∧ (¬ (x7 < 4) → (∀ x13 : Int, x13 = wr (x8 + (-2)) → rg x13 → ∀ x14 : Int, x14 = iushr x7 2 → rg x14 → J12 x14 x13))))) ∧ ((x4 < 16 → J9 x4 x5) ∧ (¬ (x4 < 16) → (∀ x16 : Int, x16 = wr (x5 + (-4)) → rg x16 → ∀ x17 : Int, x17 = iushr x4 4 → rg x17 → J9 x17 x16))))) ∧ ((x1 < 256 → J6 x1 x2) ∧ (¬ (x1 < 256) → (∀ x19 : Int, x19 = wr (x2 + (-8)) → rg x19 → ∀ x20 : Int, x20 = iushr x1 8 → rg x20 → J6 x20 x19))))) ∧ ((p0 < 65536 → J3 p0 31) ∧ (¬ (p0 < 65536) → (∀ x22 : Int, x22 = wr (31 + (-16)) → rg x22 → ∀ x23 : Int, x23 = iushr p0 16 → rg x23 → J3 x23 x22))))) ∧ (¬ (0 < p0) → (∃ J26 : Int → Prop, (∀ (x25 : Int), rg x25 → J26 x25 → (K x25)) ∧ ((¬ p0 = 0 → (J26 0)) ∧ (¬ (¬ p0 = 0) → (J26 32)))))))
set_option maxHeartbeats 4000000 in
theorem a_J6_numberOfLeadingZeros_0f7a4 {sc : Nat × (Nat → Int32)} {goal : XO → XH → Prop} {fs : List XF} {h : XH} (p0 : Int) {K : Int → Prop} (hd : fs.length + 0 ≤ 1000) (rp0 : rg p0) (w : w_J6_numberOfLeadingZeros_0f7a4 p0 K h) (t0 : HT h) (k : ∀ (r : Int), rg r → K r → XFin xP sc goal fs (.inl (some (.int (J r)))) h) : RR sc goal fs 6 0 [some (.int (J p0)), none] [] h := by
  unfold w_J6_numberOfLeadingZeros_0f7a4 at w
  refine r_n (pc1 := 1) [.int (J p0)] _ rfl rfl ?_
  refine r_iz (t := 15) (pc1 := 4) rfl rfl rfl rp0 (fun c28 => ?_) (fun c28 => ?_)
  · have w := w.1 c28
    refine r_n (pc1 := 17) [.int (J 31)] _ rfl rfl ?_
    refine r_istn (pc1 := 18) (ls1 := [some (.int (J p0)), some (.int (J 31))]) rfl rfl rfl rfl ?_
    refine r_n (pc1 := 19) [.int (J p0)] _ rfl rfl ?_
    refine r_n (pc1 := 22) [.int (J 65536), .int (J p0)] _ rfl rfl ?_
    obtain ⟨J3, j3, w⟩ := w
    have Q3 : ∀ (x1 : Int) (x2 : Int), rg x1 → rg x2 → J3 x1 x2 → RR sc goal fs 6 33 [some (.int (J x1)), some (.int (J x2))] [] h := by
      intro x1 x2 rx1 rx2 z3
      have w := j3 x1 x2 rx1 rx2 z3
      refine r_n (pc1 := 34) [.int (J x1)] _ rfl rfl ?_
      refine r_n (pc1 := 37) [.int (J 256), .int (J x1)] _ rfl rfl ?_
      obtain ⟨J6, j6, w⟩ := w
      have Q6 : ∀ (x4 : Int) (x5 : Int), rg x4 → rg x5 → J6 x4 x5 → RR sc goal fs 6 48 [some (.int (J x4)), some (.int (J x5))] [] h := by
        intro x4 x5 rx4 rx5 z6
        have w := j6 x4 x5 rx4 rx5 z6
        refine r_n (pc1 := 49) [.int (J x4)] _ rfl rfl ?_
        refine r_n (pc1 := 51) [.int (J 16), .int (J x4)] _ rfl rfl ?_
        obtain ⟨J9, j9, w⟩ := w
        have Q9 : ∀ (x7 : Int) (x8 : Int), rg x7 → rg x8 → J9 x7 x8 → RR sc goal fs 6 61 [some (.int (J x7)), some (.int (J x8))] [] h := by
          intro x7 x8 rx7 rx8 z9
          have w := j9 x7 x8 rx7 rx8 z9
          refine r_n (pc1 := 62) [.int (J x7)] _ rfl rfl ?_
          refine r_n (pc1 := 63) [.int (J 4), .int (J x7)] _ rfl rfl ?_
          obtain ⟨J12, j12, w⟩ := w
          have Q12 : ∀ (x10 : Int) (x11 : Int), rg x10 → rg x11 → J12 x10 x11 → RR sc goal fs 6 73 [some (.int (J x10)), some (.int (J x11))] [] h := by
            intro x10 x11 rx10 rx11 z12
            have w := j12 x10 x11 rx10 rx11 z12
            refine r_n (pc1 := 74) [.int (J x11)] _ rfl rfl ?_
            refine r_n (pc1 := 75) [.int (J x10), .int (J x11)] _ rfl rfl ?_
            refine r_n (pc1 := 76) [.int (J 1), .int (J x10), .int (J x11)] _ rfl rfl ?_
            refine r_iushr (pc1 := 77) rfl rfl ?_
            refine r_isub (pc1 := 78) rfl rfl ?_
            exact r_retI rfl rfl rfl (k _ (rgw _) w)
          refine r_ic (t := 73) (pc1 := 66) rfl rfl rfl rx7 (rgk rfl) (fun c15 => ?_) (fun c15 => ?_)
          · have w := w.1 c15
            exact Q12  x7 x8  rx7 rx8 w
          · have w := w.2 c15
            refine r_inc (pc1 := 69) (g := fun zz => [some (.int (J x7)), some (.int (J zz))]) rfl rfl rfl rfl (fun _ => rfl) (fun x13 ex13 rx13 => ?_)
            have w := w x13 ex13 rx13
            refine r_n (pc1 := 70) [.int (J x7)] _ rfl rfl ?_
            refine r_n (pc1 := 71) [.int (J 2), .int (J x7)] _ rfl rfl ?_
            refine r_iushr (pc1 := 72) rfl rfl ?_
            refine r_vI (rgt _) (fun x14 ex14 rx14 => ?_)
            have w := w x14 ex14 rx14
            refine r_istn (pc1 := 73) (ls1 := [some (.int (J x14)), some (.int (J x13))]) rfl rfl rfl rfl ?_
            exact Q12  x14 x13  rx14 rx13 w
        refine r_ic (t := 61) (pc1 := 54) rfl rfl rfl rx4 (rgk rfl) (fun c18 => ?_) (fun c18 => ?_)
        · have w := w.1 c18
          exact Q9  x4 x5  rx4 rx5 w
        · have w := w.2 c18
          refine r_inc (pc1 := 57) (g := fun zz => [some (.int (J x4)), some (.int (J zz))]) rfl rfl rfl rfl (fun _ => rfl) (fun x16 ex16 rx16 => ?_)
          have w := w x16 ex16 rx16
          refine r_n (pc1 := 58) [.int (J x4)] _ rfl rfl ?_
          refine r_n (pc1 := 59) [.int (J 4), .int (J x4)] _ rfl rfl ?_
          refine r_iushr (pc1 := 60) rfl rfl ?_
          refine r_vI (rgt _) (fun x17 ex17 rx17 => ?_)
          have w := w x17 ex17 rx17
          refine r_istn (pc1 := 61) (ls1 := [some (.int (J x17)), some (.int (J x16))]) rfl rfl rfl rfl ?_
          exact Q9  x17 x16  rx17 rx16 w
      refine r_ic (t := 48) (pc1 := 40) rfl rfl rfl rx1 (rgk rfl) (fun c21 => ?_) (fun c21 => ?_)
      · have w := w.1 c21
        exact Q6  x1 x2  rx1 rx2 w
      · have w := w.2 c21
        refine r_inc (pc1 := 43) (g := fun zz => [some (.int (J x1)), some (.int (J zz))]) rfl rfl rfl rfl (fun _ => rfl) (fun x19 ex19 rx19 => ?_)
        have w := w x19 ex19 rx19
        refine r_n (pc1 := 44) [.int (J x1)] _ rfl rfl ?_
        refine r_n (pc1 := 46) [.int (J 8), .int (J x1)] _ rfl rfl ?_
        refine r_iushr (pc1 := 47) rfl rfl ?_
        refine r_vI (rgt _) (fun x20 ex20 rx20 => ?_)
        have w := w x20 ex20 rx20
        refine r_istn (pc1 := 48) (ls1 := [some (.int (J x20)), some (.int (J x19))]) rfl rfl rfl rfl ?_
        exact Q6  x20 x19  rx20 rx19 w
    refine r_ic (t := 33) (pc1 := 25) rfl rfl rfl rp0 (rgk rfl) (fun c24 => ?_) (fun c24 => ?_)
    · have w := w.1 c24
      exact Q3  p0 31  rp0 (rgk rfl) w
    · have w := w.2 c24
      refine r_inc (pc1 := 28) (g := fun zz => [some (.int (J p0)), some (.int (J zz))]) rfl rfl rfl rfl (fun _ => rfl) (fun x22 ex22 rx22 => ?_)
      have w := w x22 ex22 rx22
      refine r_n (pc1 := 29) [.int (J p0)] _ rfl rfl ?_
      refine r_n (pc1 := 31) [.int (J 16), .int (J p0)] _ rfl rfl ?_
      refine r_iushr (pc1 := 32) rfl rfl ?_
      refine r_vI (rgt _) (fun x23 ex23 rx23 => ?_)
      have w := w x23 ex23 rx23
      refine r_istn (pc1 := 33) (ls1 := [some (.int (J x23)), some (.int (J x22))]) rfl rfl rfl rfl ?_
      exact Q3  x23 x22  rx23 rx22 w
  · have w := w.2 c28
    refine r_n (pc1 := 5) [.int (J p0)] _ rfl rfl ?_
    obtain ⟨J26, j26, w⟩ := w
    have Q26 : ∀ (x25 : Int), rg x25 → J26 x25 → RR sc goal fs 6 14 [some (.int (J p0)), none] [.int (J x25)] h := by
      intro x25 rx25 z26
      have w := j26 x25 rx25 z26
      exact r_retI rfl rfl rfl (k _ rx25 w)
    refine r_iz (t := 13) (pc1 := 8) rfl rfl rfl rp0 (fun c27 => ?_) (fun c27 => ?_)
    · have w := w.1 c27
      refine r_n (pc1 := 14) [.int (J 0)] _ rfl rfl ?_
      exact Q26  0  (rgk rfl) w
    · have w := w.2 c27
      refine r_n (pc1 := 10) [.int (J 32)] _ rfl rfl ?_
      refine r_goto (t := 14) rfl rfl ?_
      exact Q26  32  (rgk rfl) w
def w_J7_fill_53178 (p0 : Nat) (p1 : Int) (K : XH → Prop) (h : XH) : Prop :=
  (hk h p0 = 100 ∧ (hn h p0 : Int) < 2147483648 ∧ ∀ x3 : Int, x3 = (hn h p0 : Int) → rg x3 → (∃ (I6 : Int → XH → Prop) (m6 : Int → XH → Nat), I6 0 h ∧ ∀ (x4 : Int) (h5 : XH), HT h5 → HX h h5 → rg x4 → I6 x4 h5 → (((x3 ≤ x4 → (K h5)) ∧ (¬ (x3 ≤ x4) → (hk h5 p0 = 100 ∧ (0 ≤ x4 ∧ x4 < (hn h5 p0 : Int)) ∧ ∀ h9 : XH, h9 = sI h5 p0 x4.toNat p1 → HT h9 → HX h5 h9 → ∀ x10 : Int, x10 = wr (x4 + 1) → rg x10 → (I6 x10 h9 ∧ m6 x10 h9 < m6 x4 h5)))))))
set_option maxHeartbeats 4000000 in
theorem a_J7_fill_53178 {sc : Nat × (Nat → Int32)} {goal : XO → XH → Prop} {fs : List XF} {h : XH} (p0 : Nat) (p1 : Int) {K : XH → Prop} (hd : fs.length + 0 ≤ 1000) (rp1 : rg p1) (w : w_J7_fill_53178 p0 p1 K h) (t0 : HT h) (k : ∀ (h1 : XH), HT h1 → HX h h1 → K h1 → XFin xP sc goal fs (.inl none) h1) : RR sc goal fs 9 0 [some (rv p0), some (.int (J p1)), none, none] [] h := by
  unfold w_J7_fill_53178 at w
  refine r_n (pc1 := 1) [.int (J 0)] _ rfl rfl ?_
  refine r_istn (pc1 := 2) (ls1 := [some (rv p0), some (.int (J p1)), some (.int (J 0)), none]) rfl rfl rfl rfl ?_
  refine r_aldn (pc1 := 3) rfl rfl rfl ?_
  obtain ⟨c1, w⟩ := w
  obtain ⟨c2, w⟩ := w
  refine r_len (pc1 := 4) (u := 0) rfl rfl t0 c1 (by decide) (fun rc2 => ?_) c2
  refine r_vI rc2 (fun x3 ex3 rx3 => ?_)
  have w := w x3 ex3 rx3
  refine r_istn (pc1 := 5) (ls1 := [some (rv p0), some (.int (J p1)), some (.int (J 0)), some (.int (J x3))]) rfl rfl rfl rfl ?_
  obtain ⟨I6, m6, w, y6⟩ := w
  have Q6 : ∀ (n : Nat)  (x4 : Int) (h5 : XH), HT h5 → HX h h5 → rg x4 → m6 x4 h5 < n → I6 x4 h5 → RR sc goal fs 9 5 [some (rv p0), some (.int (J p1)), some (.int (J x4)), some (.int (J x3))] [] h5 := by
    intro n
    induction n with
    | zero => intro x4 h5 t5 s5 rx4 q6 _; exact absurd q6 (Nat.not_lt_zero _)
    | succ n ih6 =>
      intro x4 h5 t5 s5 rx4 q6 z6
      have w := y6 x4 h5 t5 s5 rx4 z6
      refine r_n (pc1 := 6) [.int (J x4)] _ rfl rfl ?_
      refine r_n (pc1 := 7) [.int (J x3), .int (J x4)] _ rfl rfl ?_
      refine r_ic (t := 20) (pc1 := 10) rfl rfl rfl rx4 rx3 (fun c11 => ?_) (fun c11 => ?_)
      · have w := w.1 c11
        exact r_retV rfl rfl rfl (k _ t5 s5 w)
      · have w := w.2 c11
        refine r_aldn (pc1 := 11) rfl rfl rfl ?_
        refine r_n (pc1 := 12) [.int (J x4), rv p0] _ rfl rfl ?_
        refine r_n (pc1 := 13) [.int (J p1), .int (J x4), rv p0] _ rfl rfl ?_
        obtain ⟨c7, w⟩ := w
        obtain ⟨c8, w⟩ := w
        refine r_iast (pc1 := 14) rfl rfl t5 c7 rx4 c8.1 c8.2 (fun h9 eh9 t9 u9 => ?_)
        have w := w h9 eh9 t9 u9
        have s9 := HX_trans s5 u9
        refine r_inc (pc1 := 17) (g := fun zz => [some (rv p0), some (.int (J p1)), some (.int (J zz)), some (.int (J x3))]) rfl rfl rfl rfl (fun _ => rfl) (fun x10 ex10 rx10 => ?_)
        have w := w x10 ex10 rx10
        refine r_goto (t := 5) rfl rfl ?_
        exact ih6  x10 h9 t9 s9 rx10 (Nat.lt_of_lt_of_le w.2 (Nat.le_of_lt_succ q6)) w.1
  exact Q6 _  0 h t0 (HX_refl h) (rgk rfl) (Nat.lt_succ_self _) w
def w_J7_fill_d0a16 (p0 : Nat) (p1 : BitVec 64) (K : XH → Prop) (h : XH) : Prop :=
  (hk h p0 = 101 ∧ (hn h p0 : Int) < 2147483648 ∧ ∀ x3 : Int, x3 = (hn h p0 : Int) → rg x3 → (∃ (I6 : Int → XH → Prop) (m6 : Int → XH → Nat), I6 0 h ∧ ∀ (x4 : Int) (h5 : XH), HT h5 → HX h h5 → rg x4 → I6 x4 h5 → (((x3 ≤ x4 → (K h5)) ∧ (¬ (x3 ≤ x4) → (hk h5 p0 = 101 ∧ (0 ≤ x4 ∧ x4 < (hn h5 p0 : Int)) ∧ ∀ h9 : XH, h9 = sL h5 p0 x4.toNat p1 → HT h9 → HX h5 h9 → ∀ x10 : Int, x10 = wr (x4 + 1) → rg x10 → (I6 x10 h9 ∧ m6 x10 h9 < m6 x4 h5)))))))
set_option maxHeartbeats 4000000 in
theorem a_J7_fill_d0a16 {sc : Nat × (Nat → Int32)} {goal : XO → XH → Prop} {fs : List XF} {h : XH} (p0 : Nat) (p1 : BitVec 64) {K : XH → Prop} (hd : fs.length + 0 ≤ 1000) (w : w_J7_fill_d0a16 p0 p1 K h) (t0 : HT h) (k : ∀ (h1 : XH), HT h1 → HX h h1 → K h1 → XFin xP sc goal fs (.inl none) h1) : RR sc goal fs 10 0 [some (rv p0), some (.long (G p1)), none, none, none] [] h := by
  unfold w_J7_fill_d0a16 at w
  refine r_n (pc1 := 1) [.int (J 0)] _ rfl rfl ?_
  refine r_istn (pc1 := 2) (ls1 := [some (rv p0), some (.long (G p1)), none, some (.int (J 0)), none]) rfl rfl rfl rfl ?_
  refine r_aldn (pc1 := 3) rfl rfl rfl ?_
  obtain ⟨c1, w⟩ := w
  obtain ⟨c2, w⟩ := w
  refine r_len (pc1 := 4) (u := 1) rfl rfl t0 c1 (by decide) (fun rc2 => ?_) c2
  refine r_vI rc2 (fun x3 ex3 rx3 => ?_)
  have w := w x3 ex3 rx3
  refine r_ist (pc1 := 6) (ls1 := [some (rv p0), some (.long (G p1)), none, some (.int (J 0)), some (.int (J x3))]) rfl rfl rfl rfl ?_
  obtain ⟨I6, m6, w, y6⟩ := w
  have Q6 : ∀ (n : Nat)  (x4 : Int) (h5 : XH), HT h5 → HX h h5 → rg x4 → m6 x4 h5 < n → I6 x4 h5 → RR sc goal fs 10 6 [some (rv p0), some (.long (G p1)), none, some (.int (J x4)), some (.int (J x3))] [] h5 := by
    intro n
    induction n with
    | zero => intro x4 h5 t5 s5 rx4 q6 _; exact absurd q6 (Nat.not_lt_zero _)
    | succ n ih6 =>
      intro x4 h5 t5 s5 rx4 q6 z6
      have w := y6 x4 h5 t5 s5 rx4 z6
      refine r_n (pc1 := 7) [.int (J x4)] _ rfl rfl ?_
      refine r_n (pc1 := 9) [.int (J x3), .int (J x4)] _ rfl rfl ?_
      refine r_ic (t := 22) (pc1 := 12) rfl rfl rfl rx4 rx3 (fun c11 => ?_) (fun c11 => ?_)
      · have w := w.1 c11
        exact r_retV rfl rfl rfl (k _ t5 s5 w)
      · have w := w.2 c11
        refine r_aldn (pc1 := 13) rfl rfl rfl ?_
        refine r_n (pc1 := 14) [.int (J x4), rv p0] _ rfl rfl ?_
        refine r_n (pc1 := 15) [.long (G p1), .int (J x4), rv p0] _ rfl rfl ?_
        obtain ⟨c7, w⟩ := w
        obtain ⟨c8, w⟩ := w
        refine r_last (pc1 := 16) rfl rfl t5 c7 rx4 c8.1 c8.2 (fun h9 eh9 t9 u9 => ?_)
        have w := w h9 eh9 t9 u9
        have s9 := HX_trans s5 u9
        refine r_inc (pc1 := 19) (g := fun zz => [some (rv p0), some (.long (G p1)), none, some (.int (J zz)), some (.int (J x3))]) rfl rfl rfl rfl (fun _ => rfl) (fun x10 ex10 rx10 => ?_)
        have w := w x10 ex10 rx10
        refine r_goto (t := 6) rfl rfl ?_
        exact ih6  x10 h9 t9 s9 rx10 (Nat.lt_of_lt_of_le w.2 (Nat.le_of_lt_succ q6)) w.1
  exact Q6 _  0 h t0 (HX_refl h) (rgk rfl) (Nat.lt_succ_self _) w
def w_J9_abs_0f7a4 (p0 : Int) (K : Int → Prop) (h : XH) : Prop :=
  (∃ J2 : Int → Prop, (∀ (x1 : Int), rg x1 → J2 x1 → (K x1)) ∧ ((0 ≤ p0 → (J2 p0)) ∧ (¬ (0 ≤ p0) → (J2 (wr (-p0))))))
set_option maxHeartbeats 4000000 in
theorem a_J9_abs_0f7a4 {sc : Nat × (Nat → Int32)} {goal : XO → XH → Prop} {fs : List XF} {h : XH} (p0 : Int) {K : Int → Prop} (hd : fs.length + 0 ≤ 1000) (rp0 : rg p0) (w : w_J9_abs_0f7a4 p0 K h) (t0 : HT h) (k : ∀ (r : Int), rg r → K r → XFin xP sc goal fs (.inl (some (.int (J r)))) h) : RR sc goal fs 13 0 [some (.int (J p0))] [] h := by
  unfold w_J9_abs_0f7a4 at w
  refine r_n (pc1 := 1) [.int (J p0)] _ rfl rfl ?_
  obtain ⟨J2, j2, w⟩ := w
  have Q2 : ∀ (x1 : Int), rg x1 → J2 x1 → RR sc goal fs 13 10 [some (.int (J p0))] [.int (J x1)] h := by
    intro x1 rx1 z2
    have w := j2 x1 rx1 z2
    exact r_retI rfl rfl rfl (k _ rx1 w)
  refine r_iz (t := 9) (pc1 := 4) rfl rfl rfl rp0 (fun c3 => ?_) (fun c3 => ?_)
  · have w := w.1 c3
    refine r_n (pc1 := 10) [.int (J p0)] _ rfl rfl ?_
    exact Q2  p0  rp0 w
  · have w := w.2 c3
    refine r_n (pc1 := 5) [.int (J p0)] _ rfl rfl ?_
    refine r_ineg (pc1 := 6) rfl rfl ?_
    refine r_goto (t := 10) rfl rfl ?_
    exact Q2  (wr (-p0))  (rgw _) w
def w_J9_floorMod_7cf53 (p0 : Int) (p1 : Int) (K : Int → Prop) (h : XH) : Prop :=
  (¬ p1 = 0 ∧ ∀ x2 : Int, x2 = irem p0 p1 → rg x2 → ∃ J3 : Prop, (J3 → (K x2)) ∧ ((0 ≤ ixor p0 p1 → J3) ∧ (¬ (0 ≤ ixor p0 p1) → (((x2 = 0 → J3) ∧ (¬ (x2 = 0) → (K (wr (x2 + p1)))))))))
set_option maxHeartbeats 4000000 in
theorem a_J9_floorMod_7cf53 {sc : Nat × (Nat → Int32)} {goal : XO → XH → Prop} {fs : List XF} {h : XH} (p0 : Int) (p1 : Int) {K : Int → Prop} (hd : fs.length + 0 ≤ 1000) (rp0 : rg p0) (rp1 : rg p1) (w : w_J9_floorMod_7cf53 p0 p1 K h) (t0 : HT h) (k : ∀ (r : Int), rg r → K r → XFin xP sc goal fs (.inl (some (.int (J r)))) h) : RR sc goal fs 14 0 [some (.int (J p0)), some (.int (J p1)), none] [] h := by
  unfold w_J9_floorMod_7cf53 at w
  refine r_n (pc1 := 1) [.int (J p0)] _ rfl rfl ?_
  refine r_n (pc1 := 2) [.int (J p1), .int (J p0)] _ rfl rfl ?_
  obtain ⟨c1, w⟩ := w
  refine r_irem (pc1 := 3) rfl rfl rp1 c1 ?_
  refine r_vI (rgt _) (fun x2 ex2 rx2 => ?_)
  have w := w x2 ex2 rx2
  refine r_istn (pc1 := 4) (ls1 := [some (.int (J p0)), some (.int (J p1)), some (.int (J x2))]) rfl rfl rfl rfl ?_
  refine r_n (pc1 := 5) [.int (J p0)] _ rfl rfl ?_
  refine r_n (pc1 := 6) [.int (J p1), .int (J p0)] _ rfl rfl ?_
  refine r_ixor (pc1 := 7) rfl rfl ?_
  obtain ⟨J3, j3, w⟩ := w
  have Q3 : J3 → RR sc goal fs 14 18 [some (.int (J p0)), some (.int (J p1)), some (.int (J x2))] [] h := by
    intro z3
    have w := j3 z3
    refine r_n (pc1 := 19) [.int (J x2)] _ rfl rfl ?_
    exact r_retI rfl rfl rfl (k _ rx2 w)
  refine r_iz (t := 18) (pc1 := 10) rfl rfl rfl (rgt _) (fun c5 => ?_) (fun c5 => ?_)
  · have w := w.1 c5
    exact Q3     w
  · have w := w.2 c5
    refine r_n (pc1 := 11) [.int (J x2)] _ rfl rfl ?_
    refine r_iz (t := 18) (pc1 := 14) rfl rfl rfl rx2 (fun c4 => ?_) (fun c4 => ?_)
    · have w := w.1 c4
      exact Q3     w
    · have w := w.2 c4
      refine r_n (pc1 := 15) [.int (J x2)] _ rfl rfl ?_
      refine r_n (pc1 := 16) [.int (J p1), .int (J x2)] _ rfl rfl ?_
      refine r_iadd (pc1 := 17) rfl rfl ?_
      exact r_retI rfl rfl rfl (k _ (rgw _) w)
def w_J9_max_7cf53 (p0 : Int) (p1 : Int) (K : Int → Prop) (h : XH) : Prop :=
  (∃ J2 : Int → Prop, (∀ (x1 : Int), rg x1 → J2 x1 → (K x1)) ∧ ((p0 < p1 → (J2 p1)) ∧ (¬ (p0 < p1) → (J2 p0))))
set_option maxHeartbeats 4000000 in
theorem a_J9_max_7cf53 {sc : Nat × (Nat → Int32)} {goal : XO → XH → Prop} {fs : List XF} {h : XH} (p0 : Int) (p1 : Int) {K : Int → Prop} (hd : fs.length + 0 ≤ 1000) (rp0 : rg p0) (rp1 : rg p1) (w : w_J9_max_7cf53 p0 p1 K h) (t0 : HT h) (k : ∀ (r : Int), rg r → K r → XFin xP sc goal fs (.inl (some (.int (J r)))) h) : RR sc goal fs 15 0 [some (.int (J p0)), some (.int (J p1))] [] h := by
  unfold w_J9_max_7cf53 at w
  refine r_n (pc1 := 1) [.int (J p0)] _ rfl rfl ?_
  refine r_n (pc1 := 2) [.int (J p1), .int (J p0)] _ rfl rfl ?_
  obtain ⟨J2, j2, w⟩ := w
  have Q2 : ∀ (x1 : Int), rg x1 → J2 x1 → RR sc goal fs 15 10 [some (.int (J p0)), some (.int (J p1))] [.int (J x1)] h := by
    intro x1 rx1 z2
    have w := j2 x1 rx1 z2
    exact r_retI rfl rfl rfl (k _ rx1 w)
  refine r_ic (t := 9) (pc1 := 5) rfl rfl rfl rp0 rp1 (fun c3 => ?_) (fun c3 => ?_)
  · have w := w.1 c3
    refine r_n (pc1 := 10) [.int (J p1)] _ rfl rfl ?_
    exact Q2  p1  rp1 w
  · have w := w.2 c3
    refine r_n (pc1 := 6) [.int (J p0)] _ rfl rfl ?_
    refine r_goto (t := 10) rfl rfl ?_
    exact Q2  p0  rp0 w
def w_J9_min_7cf53 (p0 : Int) (p1 : Int) (K : Int → Prop) (h : XH) : Prop :=
  (∃ J2 : Int → Prop, (∀ (x1 : Int), rg x1 → J2 x1 → (K x1)) ∧ ((p1 < p0 → (J2 p1)) ∧ (¬ (p1 < p0) → (J2 p0))))
set_option maxHeartbeats 4000000 in
theorem a_J9_min_7cf53 {sc : Nat × (Nat → Int32)} {goal : XO → XH → Prop} {fs : List XF} {h : XH} (p0 : Int) (p1 : Int) {K : Int → Prop} (hd : fs.length + 0 ≤ 1000) (rp0 : rg p0) (rp1 : rg p1) (w : w_J9_min_7cf53 p0 p1 K h) (t0 : HT h) (k : ∀ (r : Int), rg r → K r → XFin xP sc goal fs (.inl (some (.int (J r)))) h) : RR sc goal fs 16 0 [some (.int (J p0)), some (.int (J p1))] [] h := by
  unfold w_J9_min_7cf53 at w
  refine r_n (pc1 := 1) [.int (J p0)] _ rfl rfl ?_
  refine r_n (pc1 := 2) [.int (J p1), .int (J p0)] _ rfl rfl ?_
  obtain ⟨J2, j2, w⟩ := w
  have Q2 : ∀ (x1 : Int), rg x1 → J2 x1 → RR sc goal fs 16 10 [some (.int (J p0)), some (.int (J p1))] [.int (J x1)] h := by
    intro x1 rx1 z2
    have w := j2 x1 rx1 z2
    exact r_retI rfl rfl rfl (k _ rx1 w)
  refine r_ic (t := 9) (pc1 := 5) rfl rfl rfl rp0 rp1 (fun c3 => ?_) (fun c3 => ?_)
  · have w := w.1 c3
    refine r_n (pc1 := 10) [.int (J p1)] _ rfl rfl ?_
    exact Q2  p1  rp1 w
  · have w := w.2 c3
    refine r_n (pc1 := 6) [.int (J p0)] _ rfl rfl ?_
    refine r_goto (t := 10) rfl rfl ?_
    exact Q2  p0  rp0 w
def w_Jx4a65c_elementData_915e3 (p0 : Int) (K : Nat → Prop) (h : XH) : Prop :=
  ((0 ≤ p0 ∧ p0 < 10) ∧ K (hR h 121 p0.toNat))
set_option maxHeartbeats 4000000 in
theorem a_Jx4a65c_elementData_915e3 {sc : Nat × (Nat → Int32)} {goal : XO → XH → Prop} {fs : List XF} {h : XH} (p0 : Int) {K : Nat → Prop} (hd : fs.length + 0 ≤ 1000) (rp0 : rg p0) (w : w_Jx4a65c_elementData_915e3 p0 K h) (t0 : HT h) (k : ∀ (r : Nat), K r → XFin xP sc goal fs (.inl (some (rv r))) h) : RR sc goal fs 19 0 [some (rv 43), some (.int (J p0))] [] h := by
  unfold w_Jx4a65c_elementData_915e3 at w
  refine r_aldn (pc1 := 1) rfl rfl rfl ?_
  refine r_gfC (pc1 := 4) (q := 121) rfl rfl rfl t0 (lyk t0 rfl) rfl rfl (lyR t0 rfl rfl) ?_
  refine r_n (pc1 := 5) [.int (J p0), rv 121] _ rfl rfl ?_
  obtain ⟨c1, w⟩ := w
  refine r_aal (pc1 := 6) (u := 5) rfl rfl t0 (lyk t0 rfl) rfl rfl rp0 c1.1 (lt_len (lyn t0 rfl) c1.2) ?_
  exact r_retR rfl rfl rfl xok_O xokr_O (k _ w)
def w_Jx4a65c_get_915e3 (p0 : Int) (K : Nat → Prop) (h : XH) : Prop :=
  (w_J15_checkIndex_7cf53 p0 (hI h 43 2) (fun x1 => rg x1 → (w_Jx4a65c_elementData_915e3 p0 (fun a2 => (K a2)) h)) h)
set_option maxHeartbeats 4000000 in
theorem a_Jx4a65c_get_915e3 {sc : Nat × (Nat → Int32)} {goal : XO → XH → Prop} {fs : List XF} {h : XH} (p0 : Int) {K : Nat → Prop} (hd : fs.length + 2 ≤ 1000) (rp0 : rg p0) (w : w_Jx4a65c_get_915e3 p0 K h) (t0 : HT h) (k : ∀ (r : Nat), K r → XFin xP sc goal fs (.inl (some (rv r))) h) : RR sc goal fs 20 0 [some (rv 43), some (.int (J p0))] [] h := by
  unfold w_Jx4a65c_get_915e3 at w
  refine r_n (pc1 := 1) [.int (J p0)] _ rfl rfl ?_
  refine r_aldn (pc1 := 2) rfl rfl rfl ?_
  refine r_gfI (pc1 := 5) rfl rfl rfl t0 (lyk t0 rfl) rfl rfl ?_
  refine r_iq rfl rfl rfl rfl rfl rfl (xe_of (xa_i (xa_i xa_0)) rfl rfl) (r_d0 hd rfl) (a_J15_checkIndex_7cf53 p0 (hI h 43 2) (r_d1 hd rfl) rp0 (rgh _ _ _) w t0 (fun x1 rx1 w => ?_))
  refine r_fI (pc1 := 8) rfl ?_
  have w := w rx1
  refine r_n (pc1 := 9) [] _ rfl rfl ?_
  refine r_aldn (pc1 := 10) rfl rfl rfl ?_
  refine r_n (pc1 := 11) [.int (J p0), rv 43] _ rfl rfl ?_
  refine r_iv rfl rfl rfl rfl rfl rfl t0 (lyk t0 rfl) rfl (xe_of (xa_r (xa_i xa_0)) rfl rfl) (r_d0 hd rfl) (a_Jx4a65c_elementData_915e3 p0 (r_d1 hd rfl) rp0 w t0 (fun a2 w => ?_))
  refine r_fR (pc1 := 14) rfl ?_
  exact r_retR rfl rfl rfl xok_O xokr_O (k _ w)
def w_Jx4a65c_size_8abf5  (K : Int → Prop) (h : XH) : Prop :=
  (K (hI h 43 2))
set_option maxHeartbeats 4000000 in
theorem a_Jx4a65c_size_8abf5 {sc : Nat × (Nat → Int32)} {goal : XO → XH → Prop} {fs : List XF} {h : XH}  {K : Int → Prop} (hd : fs.length + 0 ≤ 1000) (w : w_Jx4a65c_size_8abf5  K h) (t0 : HT h) (k : ∀ (r : Int), rg r → K r → XFin xP sc goal fs (.inl (some (.int (J r)))) h) : RR sc goal fs 24 0 [some (rv 43)] [] h := by
  unfold w_Jx4a65c_size_8abf5 at w
  refine r_aldn (pc1 := 1) rfl rfl rfl ?_
  refine r_gfI (pc1 := 4) rfl rfl rfl t0 (lyk t0 rfl) rfl rfl ?_
  exact r_retI rfl rfl rfl (k _ (rgh _ _ _) w)
def w_X5_bytesIn (p0 : Int) (K : Int → Prop) (h : XH) : Prop :=
  ((∃ (I3 : Int → Int → Prop) (m3 : Int → Int → Nat), I3 0 24 ∧ ∀ (x1 : Int) (x2 : Int), rg x1 → rg x2 → I3 x1 x2 → (((x2 < 0 → (K x1)) ∧ (¬ (x2 < 0) → (∃ J5 : Int → Prop, (∀ (x4 : Int), rg x4 → J5 x4 → (∀ x6 : Int, x6 = wr (x1 + x4) → rg x6 → ∀ x7 : Int, x7 = wr (x2 + (-8)) → rg x7 → (I3 x6 x7 ∧ m3 x6 x7 < m3 x1 x2))) ∧ ((iand (iushr p0 x2) 255 = 0 → (J5 0)) ∧ (¬ (iand (iushr p0 x2) 255 = 0) → (J5 1)))))))))
set_option maxHeartbeats 4000000 in
theorem a_X5_bytesIn {sc : Nat × (Nat → Int32)} {goal : XO → XH → Prop} {fs : List XF} {h : XH} (p0 : Int) {K : Int → Prop} (hd : fs.length + 0 ≤ 1000) (rp0 : rg p0) (w : w_X5_bytesIn p0 K h) (t0 : HT h) (k : ∀ (r : Int), rg r → K r → XFin xP sc goal fs (.inl (some (.int (J r)))) h) : RR sc goal fs 392 0 [some (.int (J p0)), none, none] [] h := by
  unfold w_X5_bytesIn at w
  refine r_n (pc1 := 1) [.int (J 0)] _ rfl rfl ?_
  refine r_istn (pc1 := 2) (ls1 := [some (.int (J p0)), some (.int (J 0)), none]) rfl rfl rfl rfl ?_
  refine r_n (pc1 := 4) [.int (J 24)] _ rfl rfl ?_
  refine r_istn (pc1 := 5) (ls1 := [some (.int (J p0)), some (.int (J 0)), some (.int (J 24))]) rfl rfl rfl rfl ?_
  obtain ⟨I3, m3, w, y3⟩ := w
  have Q3 : ∀ (n : Nat)  (x1 : Int) (x2 : Int), rg x1 → rg x2 → m3 x1 x2 < n → I3 x1 x2 → RR sc goal fs 392 5 [some (.int (J p0)), some (.int (J x1)), some (.int (J x2))] [] h := by
    intro n
    induction n with
    | zero => intro x1 x2 rx1 rx2 q3 _; exact absurd q3 (Nat.not_lt_zero _)
    | succ n ih3 =>
      intro x1 x2 rx1 rx2 q3 z3
      have w := y3 x1 x2 rx1 rx2 z3
      refine r_n (pc1 := 6) [.int (J x2)] _ rfl rfl ?_
      refine r_iz (t := 33) (pc1 := 9) rfl rfl rfl rx2 (fun c9 => ?_) (fun c9 => ?_)
      · have w := w.1 c9
        refine r_n (pc1 := 34) [.int (J x1)] _ rfl rfl ?_
        exact r_retI rfl rfl rfl (k _ rx1 w)
      · have w := w.2 c9
        refine r_n (pc1 := 10) [.int (J x1)] _ rfl rfl ?_
        refine r_n (pc1 := 11) [.int (J p0), .int (J x1)] _ rfl rfl ?_
        refine r_n (pc1 := 12) [.int (J x2), .int (J p0), .int (J x1)] _ rfl rfl ?_
        refine r_iushr (pc1 := 13) rfl rfl ?_
        refine r_n (pc1 := 16) [.int (J 255), .int (J (iushr p0 x2)), .int (J x1)] _ rfl rfl ?_
        refine r_iand (pc1 := 17) rfl rfl ?_
        obtain ⟨J5, j5, w⟩ := w
        have Q5 : ∀ (x4 : Int), rg x4 → J5 x4 → RR sc goal fs 392 25 [some (.int (J p0)), some (.int (J x1)), some (.int (J x2))] [.int (J x4), .int (J x1)] h := by
          intro x4 rx4 z5
          have w := j5 x4 rx4 z5
          refine r_iadd (pc1 := 26) rfl rfl ?_
          refine r_vI (rgw _) (fun x6 ex6 rx6 => ?_)
          have w := w x6 ex6 rx6
          refine r_istn (pc1 := 27) (ls1 := [some (.int (J p0)), some (.int (J x6)), some (.int (J x2))]) rfl rfl rfl rfl ?_
          refine r_inc (pc1 := 30) (g := fun zz => [some (.int (J p0)), some (.int (J x6)), some (.int (J zz))]) rfl rfl rfl rfl (fun _ => rfl) (fun x7 ex7 rx7 => ?_)
          have w := w x7 ex7 rx7
          refine r_goto (t := 5) rfl rfl ?_
          exact ih3  x6 x7  rx6 rx7 (Nat.lt_of_lt_of_le w.2 (Nat.le_of_lt_succ q3)) w.1
        refine r_iz (t := 24) (pc1 := 20) rfl rfl rfl (rgt _) (fun c8 => ?_) (fun c8 => ?_)
        · have w := w.1 c8
          refine r_n (pc1 := 25) [.int (J 0), .int (J x1)] _ rfl rfl ?_
          exact Q5  0  (rgk rfl) w
        · have w := w.2 c8
          refine r_n (pc1 := 21) [.int (J 1), .int (J x1)] _ rfl rfl ?_
          refine r_goto (t := 25) rfl rfl ?_
          exact Q5  1  (rgk rfl) w
  exact Q3 _  0 24  (rgk rfl) (rgk rfl) (Nat.lt_succ_self _) w
def w_X5_hasRoomFor (p0 : Int) (K : Int → Prop) (h : XH) : Prop :=
  (∃ J2 : Int → Prop, (∀ (x1 : Int), rg x1 → J2 x1 → ((x1 = 0 ∨ x1 = 1) ∧ K x1)) ∧ ((200 < wr ((hI h 3 1) + p0) → (J2 0)) ∧ (¬ (200 < wr ((hI h 3 1) + p0)) → (J2 1))))
set_option maxHeartbeats 4000000 in
theorem a_X5_hasRoomFor {sc : Nat × (Nat → Int32)} {goal : XO → XH → Prop} {fs : List XF} {h : XH} (p0 : Int) {K : Int → Prop} (hd : fs.length + 0 ≤ 1000) (rp0 : rg p0) (w : w_X5_hasRoomFor p0 K h) (t0 : HT h) (k : ∀ (r : Int), rg r → (r = 0 ∨ r = 1) → K r → XFin xP sc goal fs (.inl (some (.int (J r)))) h) : RR sc goal fs 397 0 [some (rv 3), some (.int (J p0))] [] h := by
  unfold w_X5_hasRoomFor at w
  refine r_aldn (pc1 := 1) rfl rfl rfl ?_
  refine r_gfI (pc1 := 4) rfl rfl rfl t0 (lyk t0 rfl) rfl rfl ?_
  refine r_n (pc1 := 5) [.int (J p0), .int (J (hI h 3 1))] _ rfl rfl ?_
  refine r_iadd (pc1 := 6) rfl rfl ?_
  refine r_n (pc1 := 9) [.int (J 200), .int (J (wr ((hI h 3 1) + p0)))] _ rfl rfl ?_
  obtain ⟨J2, j2, w⟩ := w
  have Q2 : ∀ (x1 : Int), rg x1 → J2 x1 → RR sc goal fs 397 17 [some (rv 3), some (.int (J p0))] [.int (J x1)] h := by
    intro x1 rx1 z2
    have w := j2 x1 rx1 z2
    obtain ⟨c3, w⟩ := w
    exact r_retB rfl rfl rfl c3 (k _ rx1 c3 w)
  refine r_ic (t := 16) (pc1 := 12) rfl rfl rfl (rgw _) (rgk rfl) (fun c4 => ?_) (fun c4 => ?_)
  · have w := w.1 c4
    refine r_n (pc1 := 17) [.int (J 0)] _ rfl rfl ?_
    exact Q2  0  (rgk rfl) w
  · have w := w.2 c4
    refine r_n (pc1 := 13) [.int (J 1)] _ rfl rfl ?_
    refine r_goto (t := 17) rfl rfl ?_
    exact Q2  1  (rgk rfl) w
def w_X5_put (p0 : Int) (K : XH → Prop) (h : XH) : Prop :=
  ((∃ (I4 : Int → XH → Prop) (m4 : Int → XH → Nat), I4 24 h ∧ ∀ (x1 : Int) (h3 : XH), HT h3 → HX h h3 → rg x1 → I4 x1 h3 → (((x1 < 0 → (K h3)) ∧ (¬ (x1 < 0) → (∀ x5 : Int, x5 = iand (iushr p0 x1) 255 → rg x5 → ∃ J7 : XH → Prop, (∀ (h6 : XH), HT h6 → HX h h6 → J7 h6 → (∀ x8 : Int, x8 = wr (x1 + (-8)) → rg x8 → (I4 x8 h6 ∧ m4 x8 h6 < m4 x1 h3))) ∧ ((x5 = 0 → J7 h3) ∧ (¬ (x5 = 0) → (((200 ≤ hI h3 3 1 → J7 h3) ∧ (¬ (200 ≤ hI h3 3 1) → ((0 ≤ hI h3 3 1 ∧ hI h3 3 1 < 200) ∧ ∀ h10 : XH, h10 = sI h3 4 (hI h3 3 1).toNat x5 → HT h10 → HX h3 h10 → ∀ h11 : XH, h11 = sI h10 3 1 (wr ((hI h10 3 1) + 1)) → HT h11 → HX h10 h11 → J7 h11))))))))))))
set_option maxHeartbeats 4000000 in
theorem a_X5_put {sc : Nat × (Nat → Int32)} {goal : XO → XH → Prop} {fs : List XF} {h : XH} (p0 : Int) {K : XH → Prop} (hd : fs.length + 0 ≤ 1000) (rp0 : rg p0) (w : w_X5_put p0 K h) (t0 : HT h) (k : ∀ (h1 : XH), HT h1 → HX h h1 → K h1 → XFin xP sc goal fs (.inl none) h1) : RR sc goal fs 406 0 [some (rv 3), some (.int (J p0)), none, none] [] h := by
  unfold w_X5_put at w
  refine r_n (pc1 := 2) [.int (J 24)] _ rfl rfl ?_
  refine r_istn (pc1 := 3) (ls1 := [some (rv 3), some (.int (J p0)), some (.int (J 24)), none]) rfl rfl rfl rfl ?_
  obtain ⟨I4, m4, w, y4⟩ := w
  have Q4 : ∀ (n : Nat) (d2 : Option Value) (x1 : Int) (h3 : XH), HT h3 → HX h h3 → rg x1 → m4 x1 h3 < n → I4 x1 h3 → RR sc goal fs 406 3 [some (rv 3), some (.int (J p0)), some (.int (J x1)), d2] [] h3 := by
    intro n
    induction n with
    | zero => intro d2 x1 h3 t3 s3 rx1 q4 _; exact absurd q4 (Nat.not_lt_zero _)
    | succ n ih4 =>
      intro d2 x1 h3 t3 s3 rx1 q4 z4
      have w := y4 x1 h3 t3 s3 rx1 z4
      refine r_n (pc1 := 4) [.int (J x1)] _ rfl rfl ?_
      refine r_iz (t := 55) (pc1 := 7) rfl rfl rfl rx1 (fun c14 => ?_) (fun c14 => ?_)
      · have w := w.1 c14
        exact r_retV rfl rfl rfl (k _ t3 s3 w)
      · have w := w.2 c14
        refine r_n (pc1 := 8) [.int (J p0)] _ rfl rfl ?_
        refine r_n (pc1 := 9) [.int (J x1), .int (J p0)] _ rfl rfl ?_
        refine r_iushr (pc1 := 10) rfl rfl ?_
        refine r_n (pc1 := 13) [.int (J 255), .int (J (iushr p0 x1))] _ rfl rfl ?_
        refine r_iand (pc1 := 14) rfl rfl ?_
        refine r_vI (rgt _) (fun x5 ex5 rx5 => ?_)
        have w := w x5 ex5 rx5
        refine r_istn (pc1 := 15) (ls1 := [some (rv 3), some (.int (J p0)), some (.int (J x1)), some (.int (J x5))]) rfl rfl rfl rfl ?_
        refine r_n (pc1 := 16) [.int (J x5)] _ rfl rfl ?_
        obtain ⟨J7, j7, w⟩ := w
        have Q7 : ∀ (h6 : XH), HT h6 → HX h h6 → J7 h6 → RR sc goal fs 406 49 [some (rv 3), some (.int (J p0)), some (.int (J x1)), some (.int (J x5))] [] h6 := by
          intro h6 t6 s6 z7
          have w := j7 h6 t6 s6 z7
          refine r_inc (pc1 := 52) (g := fun zz => [some (rv 3), some (.int (J p0)), some (.int (J zz)), some (.int (J x5))]) rfl rfl rfl rfl (fun _ => rfl) (fun x8 ex8 rx8 => ?_)
          have w := w x8 ex8 rx8
          refine r_goto (t := 3) rfl rfl ?_
          exact ih4 _ x8 h6 t6 s6 rx8 (Nat.lt_of_lt_of_le w.2 (Nat.le_of_lt_succ q4)) w.1
        refine r_iz (t := 49) (pc1 := 19) rfl rfl rfl rx5 (fun c13 => ?_) (fun c13 => ?_)
        · have w := w.1 c13
          exact Q7   h3 t3 s3  w
        · have w := w.2 c13
          refine r_aldn (pc1 := 20) rfl rfl rfl ?_
          refine r_gfI (pc1 := 23) rfl rfl rfl t3 (lyk t3 rfl) rfl rfl ?_
          refine r_n (pc1 := 26) [.int (J 200), .int (J (hI h3 3 1))] _ rfl rfl ?_
          refine r_ic (t := 49) (pc1 := 29) rfl rfl rfl (rgh _ _ _) (rgk rfl) (fun c12 => ?_) (fun c12 => ?_)
          · have w := w.1 c12
            exact Q7   h3 t3 s3  w
          · have w := w.2 c12
            refine r_aldn (pc1 := 30) rfl rfl rfl ?_
            refine r_gfC (pc1 := 33) (q := 4) rfl rfl rfl t3 (lyk t3 rfl) rfl rfl (lyR t3 rfl rfl) ?_
            refine r_aldn (pc1 := 34) rfl rfl rfl ?_
            refine r_gfI (pc1 := 37) rfl rfl rfl t3 (lyk t3 rfl) rfl rfl ?_
            refine r_n (pc1 := 38) [.int (J x5), .int (J (hI h3 3 1)), rv 4] _ rfl rfl ?_
            obtain ⟨c9, w⟩ := w
            refine r_iast (pc1 := 39) rfl rfl t3 (lyk t3 rfl) (rgh _ _ _) c9.1 (lt_len (lyn t3 rfl) c9.2) (fun h10 eh10 t10 u10 => ?_)
            have w := w h10 eh10 t10 u10
            have s10 := HX_trans s3 u10
            refine r_aldn (pc1 := 40) rfl rfl rfl ?_
            refine r_dupR (pc1 := 41) rfl rfl ?_
            refine r_gfI (pc1 := 44) rfl rfl rfl t10 (lyk t10 rfl) rfl rfl ?_
            refine r_n (pc1 := 45) [.int (J 1), .int (J (hI h10 3 1)), rv 3] _ rfl rfl ?_
            refine r_iadd (pc1 := 46) rfl rfl ?_
            refine r_pfI (pc1 := 49) rfl rfl rfl t10 (lyk t10 rfl) rfl rfl rfl (fun h11 eh11 t11 u11 => ?_)
            have w := w h11 eh11 t11 u11
            have s11 := HX_trans s10 u11
            exact Q7   h11 t11 s11  w
  exact Q4 _ _ 24 h t0 (HX_refl h) (rgk rfl) (Nat.lt_succ_self _) w
def w_X5_length  (K : Int → Prop) (h : XH) : Prop :=
  (K (hI h 3 1))
set_option maxHeartbeats 4000000 in
theorem a_X5_length {sc : Nat × (Nat → Int32)} {goal : XO → XH → Prop} {fs : List XF} {h : XH}  {K : Int → Prop} (hd : fs.length + 0 ≤ 1000) (w : w_X5_length  K h) (t0 : HT h) (k : ∀ (r : Int), rg r → K r → XFin xP sc goal fs (.inl (some (.int (J r)))) h) : RR sc goal fs 404 0 [some (rv 3)] [] h := by
  unfold w_X5_length at w
  refine r_aldn (pc1 := 1) rfl rfl rfl ?_
  refine r_gfI (pc1 := 4) rfl rfl rfl t0 (lyk t0 rfl) rfl rfl ?_
  exact r_retI rfl rfl rfl (k _ (rgh _ _ _) w)
def w_X12_append (p0 : Int) (p1 : Int) (p2 : Int) (p3 : Int) (p4 : Int) (K : Int → XH → Prop) (E : Nat → XH → Prop) (h : XH) : Prop :=
  (w_X5_bytesIn p0 (fun x1 => rg x1 → (w_X5_bytesIn p1 (fun x2 => rg x2 → (w_X5_bytesIn p2 (fun x3 => rg x3 → (w_X5_bytesIn p3 (fun x4 => rg x4 → (w_X5_bytesIn p4 (fun x5 => rg x5 → (∀ x6 : Int, x6 = wr ((wr ((wr ((wr (x1 + x2)) + x3)) + x4)) + x5) → rg x6 → w_X5_hasRoomFor x6 (fun x7 => rg x7 → (x7 = 0 ∨ x7 = 1) → (((¬ x7 = 0 → (w_X5_put p0 (fun h8 => HT h8 → HX h h8 → (w_X5_put p1 (fun h9 => HT h9 → HX h8 h9 → (w_X5_put p2 (fun h10 => HT h10 → HX h9 h10 → (w_X5_put p3 (fun h11 => HT h11 → HX h10 h11 → (w_X5_put p4 (fun h12 => HT h12 → HX h11 h12 → (w_X5_length (fun x13 => rg x13 → (K x13 h12)) h12)) h11)) h10)) h9)) h8)) h)) ∧ (¬ (¬ x7 = 0) → (E 0 (nT h)))))) h)) h)) h)) h)) h)) h)
set_option maxHeartbeats 4000000 in
theorem a_X12_append {sc : Nat × (Nat → Int32)} {goal : XO → XH → Prop} {fs : List XF} {h : XH} (p0 : Int) (p1 : Int) (p2 : Int) (p3 : Int) (p4 : Int) {K : Int → XH → Prop} {E : Nat → XH → Prop} (hd : fs.length + 1 ≤ 1000) (rp0 : rg p0) (rp1 : rg p1) (rp2 : rg p2) (rp3 : rg p3) (rp4 : rg p4) (w : w_X12_append p0 p1 p2 p3 p4 K E h) (t0 : HT h) (k : ∀ (r : Int) (h1 : XH), HT h1 → HX h h1 → rg r → K r h1 → XFin xP sc goal fs (.inl (some (.int (J r)))) h1) (kE : ∀ (x : Nat) (h1 : XH), HT h1 → HX h h1 → E x h1 → XFin xP sc goal fs (.inr x) h1) : RR sc goal fs 83 0 [some (rv 2), some (.int (J p0)), some (.int (J p1)), some (.int (J p2)), some (.int (J p3)), some (.int (J p4)), none] [] h := by
  unfold w_X12_append at w
  refine r_n (pc1 := 1) [.int (J p0)] _ rfl rfl ?_
  refine r_iq rfl rfl rfl rfl rfl rfl (xe_of (xa_i xa_0) rfl rfl) (r_d0 hd rfl) (a_X5_bytesIn p0 (r_d1 hd rfl) rp0 w t0 (fun x1 rx1 w => ?_))
  refine r_fI (pc1 := 4) rfl ?_
  have w := w rx1
  refine r_n (pc1 := 5) [.int (J p1), .int (J x1)] _ rfl rfl ?_
  refine r_iq rfl rfl rfl rfl rfl rfl (xe_of (xa_i xa_0) rfl rfl) (r_d0 hd rfl) (a_X5_bytesIn p1 (r_d1 hd rfl) rp1 w t0 (fun x2 rx2 w => ?_))
  refine r_fI (pc1 := 8) rfl ?_
  have w := w rx2
  refine r_iadd (pc1 := 9) rfl rfl ?_
  refine r_n (pc1 := 10) [.int (J p2), .int (J (wr (x1 + x2)))] _ rfl rfl ?_
  refine r_iq rfl rfl rfl rfl rfl rfl (xe_of (xa_i xa_0) rfl rfl) (r_d0 hd rfl) (a_X5_bytesIn p2 (r_d1 hd rfl) rp2 w t0 (fun x3 rx3 w => ?_))
  refine r_fI (pc1 := 13) rfl ?_
  have w := w rx3
  refine r_iadd (pc1 := 14) rfl rfl ?_
  refine r_n (pc1 := 16) [.int (J p3), .int (J (wr ((wr (x1 + x2)) + x3)))] _ rfl rfl ?_
  refine r_iq rfl rfl rfl rfl rfl rfl (xe_of (xa_i xa_0) rfl rfl) (r_d0 hd rfl) (a_X5_bytesIn p3 (r_d1 hd rfl) rp3 w t0 (fun x4 rx4 w => ?_))
  refine r_fI (pc1 := 19) rfl ?_
  have w := w rx4
  refine r_iadd (pc1 := 20) rfl rfl ?_
  refine r_n (pc1 := 22) [.int (J p4), .int (J (wr ((wr ((wr (x1 + x2)) + x3)) + x4)))] _ rfl rfl ?_
  refine r_iq rfl rfl rfl rfl rfl rfl (xe_of (xa_i xa_0) rfl rfl) (r_d0 hd rfl) (a_X5_bytesIn p4 (r_d1 hd rfl) rp4 w t0 (fun x5 rx5 w => ?_))
  refine r_fI (pc1 := 25) rfl ?_
  have w := w rx5
  refine r_iadd (pc1 := 26) rfl rfl ?_
  refine r_vI (rgw _) (fun x6 ex6 rx6 => ?_)
  have w := w x6 ex6 rx6
  refine r_ist (pc1 := 28) (ls1 := [some (rv 2), some (.int (J p0)), some (.int (J p1)), some (.int (J p2)), some (.int (J p3)), some (.int (J p4)), some (.int (J x6))]) rfl rfl rfl rfl ?_
  refine r_aldn (pc1 := 29) rfl rfl rfl ?_
  refine r_gfC (pc1 := 32) (q := 3) rfl rfl rfl t0 (lyk t0 rfl) rfl rfl (lyR t0 rfl rfl) ?_
  refine r_n (pc1 := 34) [.int (J x6), rv 3] _ rfl rfl ?_
  refine r_iv rfl rfl rfl rfl rfl rfl t0 (lyk t0 rfl) rfl (xe_of (xa_r (xa_i xa_0)) rfl rfl) (r_d0 hd rfl) (a_X5_hasRoomFor x6 (r_d1 hd rfl) rx6 w t0 (fun x7 rx7 vx7 w => ?_))
  refine r_fI (pc1 := 37) rfl ?_
  have w := w rx7 vx7
  refine r_iz (t := 50) (pc1 := 40) rfl rfl rfl rx7 (fun c14 => ?_) (fun c14 => ?_)
  · have w := w.1 c14
    refine r_aldn (pc1 := 51) rfl rfl rfl ?_
    refine r_gfC (pc1 := 54) (q := 3) rfl rfl rfl t0 (lyk t0 rfl) rfl rfl (lyR t0 rfl rfl) ?_
    refine r_n (pc1 := 55) [.int (J p0), rv 3] _ rfl rfl ?_
    refine r_iv rfl rfl rfl rfl rfl rfl t0 (lyk t0 rfl) rfl (xe_of (xa_r (xa_i xa_0)) rfl rfl) (r_d0 hd rfl) (a_X5_put p0 (r_d1 hd rfl) rp0 w t0 (fun h8 t8 u8 w => ?_))
    refine r_fV (pc1 := 58) rfl ?_
    have s8 := HX_trans (HX_refl h) u8
    have w := w t8 u8
    refine r_aldn (pc1 := 59) rfl rfl rfl ?_
    refine r_gfC (pc1 := 62) (q := 3) rfl rfl rfl t8 (lyk t8 rfl) rfl rfl (lyR t8 rfl rfl) ?_
    refine r_n (pc1 := 63) [.int (J p1), rv 3] _ rfl rfl ?_
    refine r_iv rfl rfl rfl rfl rfl rfl t8 (lyk t8 rfl) rfl (xe_of (xa_r (xa_i xa_0)) rfl rfl) (r_d0 hd rfl) (a_X5_put p1 (r_d1 hd rfl) rp1 w t8 (fun h9 t9 u9 w => ?_))
    refine r_fV (pc1 := 66) rfl ?_
    have s9 := HX_trans s8 u9
    have w := w t9 u9
    refine r_aldn (pc1 := 67) rfl rfl rfl ?_
    refine r_gfC (pc1 := 70) (q := 3) rfl rfl rfl t9 (lyk t9 rfl) rfl rfl (lyR t9 rfl rfl) ?_
    refine r_n (pc1 := 71) [.int (J p2), rv 3] _ rfl rfl ?_
    refine r_iv rfl rfl rfl rfl rfl rfl t9 (lyk t9 rfl) rfl (xe_of (xa_r (xa_i xa_0)) rfl rfl) (r_d0 hd rfl) (a_X5_put p2 (r_d1 hd rfl) rp2 w t9 (fun h10 t10 u10 w => ?_))
    refine r_fV (pc1 := 74) rfl ?_
    have s10 := HX_trans s9 u10
    have w := w t10 u10
    refine r_aldn (pc1 := 75) rfl rfl rfl ?_
    refine r_gfC (pc1 := 78) (q := 3) rfl rfl rfl t10 (lyk t10 rfl) rfl rfl (lyR t10 rfl rfl) ?_
    refine r_n (pc1 := 80) [.int (J p3), rv 3] _ rfl rfl ?_
    refine r_iv rfl rfl rfl rfl rfl rfl t10 (lyk t10 rfl) rfl (xe_of (xa_r (xa_i xa_0)) rfl rfl) (r_d0 hd rfl) (a_X5_put p3 (r_d1 hd rfl) rp3 w t10 (fun h11 t11 u11 w => ?_))
    refine r_fV (pc1 := 83) rfl ?_
    have s11 := HX_trans s10 u11
    have w := w t11 u11
    refine r_aldn (pc1 := 84) rfl rfl rfl ?_
    refine r_gfC (pc1 := 87) (q := 3) rfl rfl rfl t11 (lyk t11 rfl) rfl rfl (lyR t11 rfl rfl) ?_
    refine r_n (pc1 := 89) [.int (J p4), rv 3] _ rfl rfl ?_
    refine r_iv rfl rfl rfl rfl rfl rfl t11 (lyk t11 rfl) rfl (xe_of (xa_r (xa_i xa_0)) rfl rfl) (r_d0 hd rfl) (a_X5_put p4 (r_d1 hd rfl) rp4 w t11 (fun h12 t12 u12 w => ?_))
    refine r_fV (pc1 := 92) rfl ?_
    have s12 := HX_trans s11 u12
    have w := w t12 u12
    refine r_aldn (pc1 := 93) rfl rfl rfl ?_
    refine r_gfC (pc1 := 96) (q := 3) rfl rfl rfl t12 (lyk t12 rfl) rfl rfl (lyR t12 rfl rfl) ?_
    refine r_iv rfl rfl rfl rfl rfl rfl t12 (lyk t12 rfl) rfl (xe_of (xa_r xa_0) rfl rfl) (r_d0 hd rfl) (a_X5_length  (r_d1 hd rfl)  w t12 (fun x13 rx13 w => ?_))
    refine r_fI (pc1 := 99) rfl ?_
    have w := w rx13
    exact r_retI rfl rfl rfl (k _ _ t12 s12 rx13 w)
  · have w := w.2 c14
    exact r_thr rfl rfl rfl rfl rfl rfl (kE _ _ (HT_nT t0).1 (HX_trans (HX_refl h) (HT_nT t0).2) w)
def w_L_append (p1 : Int) (p2 : Int) (p3 : Int) (p4 : Int) (p5 : Int) (K : Int → XH → Prop) (h : XH) : Prop :=
  (w_X12_append p1 p2 p3 p4 p5 (fun x1 h2 => HT h2 → HX h h2 → rg x1 → (∀ h5 : XH, h5 = sL h2 467 0 (i2l x1) → HT h5 → HX h2 h5 → (K 0 h5))) (fun y4 h3 => ((y4 = 0 ∧ K 1 h3))) h)
set_option maxHeartbeats 4000000 in
theorem a_L_append {sc : Nat × (Nat → Int32)} {goal : XO → XH → Prop} {fs : List XF} {h : XH} (p1 : Int) (p2 : Int) (p3 : Int) (p4 : Int) (p5 : Int) {K : Int → XH → Prop} (hd : fs.length + 2 ≤ 1000) (rp1 : rg p1) (rp2 : rg p2) (rp3 : rg p3) (rp4 : rg p4) (rp5 : rg p5) (w : w_L_append p1 p2 p3 p4 p5 K h) (t0 : HT h) (k : ∀ (r : Int) (h1 : XH), HT h1 → HX h h1 → rg r → K r h1 → XFin xP sc goal fs (.inl (some (.int (J r)))) h1) : RR sc goal fs 27 0 [some (rv 2), some (.int (J p1)), some (.int (J p2)), some (.int (J p3)), some (.int (J p4)), some (.int (J p5)), some (rv 467), none] [] h := by
  unfold w_L_append at w
  refine r_ald (pc1 := 2) rfl rfl rfl ?_
  refine r_n (pc1 := 3) [.int (J 0), rv 467] _ rfl rfl ?_
  refine r_aldn (pc1 := 4) rfl rfl rfl ?_
  refine r_n (pc1 := 5) [.int (J p1), rv 2, .int (J 0), rv 467] _ rfl rfl ?_
  refine r_n (pc1 := 6) [.int (J p2), .int (J p1), rv 2, .int (J 0), rv 467] _ rfl rfl ?_
  refine r_n (pc1 := 7) [.int (J p3), .int (J p2), .int (J p1), rv 2, .int (J 0), rv 467] _ rfl rfl ?_
  refine r_n (pc1 := 9) [.int (J p4), .int (J p3), .int (J p2), .int (J p1), rv 2, .int (J 0), rv 467] _ rfl rfl ?_
  refine r_n (pc1 := 11) [.int (J p5), .int (J p4), .int (J p3), .int (J p2), .int (J p1), rv 2, .int (J 0), rv 467] _ rfl rfl ?_
  refine r_iv rfl rfl rfl rfl rfl rfl t0 (lyk t0 rfl) rfl (xe_of (xa_r (xa_i (xa_i (xa_i (xa_i (xa_i xa_0)))))) rfl rfl) (r_d0 hd rfl) (a_X12_append p1 p2 p3 p4 p5 (r_d1 hd rfl) rp1 rp2 rp3 rp4 rp5 w t0 (fun x1 h2 t2 u2 rx1 w => ?_) (fun y4 h3 ty uy w => ?_))
  · refine r_fI (pc1 := 14) rfl ?_
    have s2 := HX_trans (HX_refl h) u2
    have w := w t2 u2
    have w := w rx1
    refine r_i2l (pc1 := 15) rfl rfl ?_
    refine r_last (pc1 := 16) rfl rfl t2 (lyk t2 rfl) (rgk rfl) (by decide) (lt_len (lyn t2 rfl) (by decide)) (fun h5 eh5 t5 u5 => ?_)
    have w := w h5 eh5 t5 u5
    have s5 := HX_trans s2 u5
    refine r_goto (t := 23) rfl rfl ?_
    refine r_n (pc1 := 24) [.int (J 0)] _ rfl rfl ?_
    exact r_retI rfl rfl rfl (k _ _ t5 s5 (rgk rfl) w)
  · obtain ⟨rfl, w⟩ := w
    exact r_fink (z := 1) rfl (by decide) rfl rfl (k _ _ ty (HX_trans (HX_refl h) uy) (rgk rfl) w)
def w_X11_rootOf (p0 : Int) (K : Nat → Prop) (h : XH) : Prop :=
  (∃ J2 : Nat → Prop, (∀ (a1 : Nat), J2 a1 → (K a1)) ∧ ((¬ p0 = 1 → (((¬ p0 = 2 → (J2 27)) ∧ (¬ (¬ p0 = 2) → (J2 35))))) ∧ (¬ (¬ p0 = 1) → (J2 31))))
set_option maxHeartbeats 4000000 in
theorem a_X11_rootOf {sc : Nat × (Nat → Int32)} {goal : XO → XH → Prop} {fs : List XF} {h : XH} (p0 : Int) {K : Nat → Prop} (hd : fs.length + 0 ≤ 1000) (rp0 : rg p0) (w : w_X11_rootOf p0 K h) (t0 : HT h) (k : ∀ (r : Nat), K r → XFin xP sc goal fs (.inl (some (rv r))) h) : RR sc goal fs 81 0 [some (rv 8), some (.int (J p0))] [] h := by
  unfold w_X11_rootOf at w
  refine r_n (pc1 := 1) [.int (J p0)] _ rfl rfl ?_
  refine r_n (pc1 := 2) [.int (J 1), .int (J p0)] _ rfl rfl ?_
  obtain ⟨J2, j2, w⟩ := w
  have Q2 : ∀ (a1 : Nat), J2 a1 → RR sc goal fs 81 28 [some (rv 8), some (.int (J p0))] [rv a1] h := by
    intro a1 z2
    have w := j2 a1 z2
    exact r_retR rfl rfl rfl xok_O xokr_O (k _ w)
  refine r_ic (t := 12) (pc1 := 5) rfl rfl rfl rp0 (rgk rfl) (fun c4 => ?_) (fun c4 => ?_)
  · have w := w.1 c4
    refine r_n (pc1 := 13) [.int (J p0)] _ rfl rfl ?_
    refine r_n (pc1 := 14) [.int (J 2), .int (J p0)] _ rfl rfl ?_
    refine r_ic (t := 24) (pc1 := 17) rfl rfl rfl rp0 (rgk rfl) (fun c3 => ?_) (fun c3 => ?_)
    · have w := w.1 c3
      refine r_aldn (pc1 := 25) rfl rfl rfl ?_
      refine r_gfC (pc1 := 28) (q := 27) rfl rfl rfl t0 (lyk t0 rfl) rfl rfl (lyR t0 rfl rfl) ?_
      exact Q2  27   w
    · have w := w.2 c3
      refine r_aldn (pc1 := 18) rfl rfl rfl ?_
      refine r_gfC (pc1 := 21) (q := 35) rfl rfl rfl t0 (lyk t0 rfl) rfl rfl (lyR t0 rfl rfl) ?_
      refine r_goto (t := 28) rfl rfl ?_
      exact Q2  35   w
  · have w := w.2 c4
    refine r_aldn (pc1 := 6) rfl rfl rfl ?_
    refine r_gfC (pc1 := 9) (q := 31) rfl rfl rfl t0 (lyk t0 rfl) rfl rfl (lyR t0 rfl rfl) ?_
    refine r_goto (t := 28) rfl rfl ?_
    exact Q2  31   w
def w_X11_atHand  (K : Nat → Prop) (h : XH) : Prop :=
  (w_X11_rootOf (hI h 8 4) (fun a1 => (K a1)) h)
set_option maxHeartbeats 4000000 in
theorem a_X11_atHand {sc : Nat × (Nat → Int32)} {goal : XO → XH → Prop} {fs : List XF} {h : XH}  {K : Nat → Prop} (hd : fs.length + 1 ≤ 1000) (w : w_X11_atHand  K h) (t0 : HT h) (k : ∀ (r : Nat), K r → XFin xP sc goal fs (.inl (some (rv r))) h) : RR sc goal fs 76 0 [some (rv 8)] [] h := by
  unfold w_X11_atHand at w
  refine r_aldn (pc1 := 1) rfl rfl rfl ?_
  refine r_aldn (pc1 := 2) rfl rfl rfl ?_
  refine r_gfI (pc1 := 5) rfl rfl rfl t0 (lyk t0 rfl) rfl rfl ?_
  refine r_iv rfl rfl rfl rfl rfl rfl t0 (lyk t0 rfl) rfl (xe_of (xa_r (xa_i xa_0)) rfl rfl) (r_d0 hd rfl) (a_X11_rootOf (hI h 8 4) (r_d1 hd rfl) (rgh _ _ _) w t0 (fun a1 w => ?_))
  refine r_fR (pc1 := 8) rfl ?_
  exact r_retR rfl rfl rfl xok_O xokr_O (k _ w)
def w_X6_isKept (t : Nat) (p0 : Int) (K : Int → Prop) (h : XH) : Prop :=
  (∃ J2 : Int → Prop, (∀ (x1 : Int), rg x1 → J2 x1 → ((x1 = 0 ∨ x1 = 1) ∧ K x1)) ∧ ∃ J4 : Prop, (J4 → (J2 0)) ∧ ((p0 < 0 → J4) ∧ (¬ (p0 < 0) → (((hI h t 7 ≤ p0 → J4) ∧ (¬ (hI h t 7 ≤ p0) → (((p0 < wr ((hI h t 7) - 20) → J4) ∧ (¬ (p0 < wr ((hI h t 7) - 20)) → (J2 1))))))))))
set_option maxHeartbeats 4000000 in
theorem a_X6_isKept {sc : Nat × (Nat → Int32)} {goal : XO → XH → Prop} {fs : List XF} {h : XH} (t : Nat) (p0 : Int) {K : Int → Prop} (hd : fs.length + 0 ≤ 1000) (c0 : hk h t = 7) (rp0 : rg p0) (w : w_X6_isKept t p0 K h) (t0 : HT h) (k : ∀ (r : Int), rg r → (r = 0 ∨ r = 1) → K r → XFin xP sc goal fs (.inl (some (.int (J r)))) h) : RR sc goal fs 417 0 [some (rv t), some (.int (J p0))] [] h := by
  unfold w_X6_isKept at w
  refine r_n (pc1 := 1) [.int (J p0)] _ rfl rfl ?_
  obtain ⟨J2, j2, w⟩ := w
  have Q2 : ∀ (x1 : Int), rg x1 → J2 x1 → RR sc goal fs 417 28 [some (rv t), some (.int (J p0))] [.int (J x1)] h := by
    intro x1 rx1 z2
    have w := j2 x1 rx1 z2
    obtain ⟨c3, w⟩ := w
    exact r_retB rfl rfl rfl c3 (k _ rx1 c3 w)
  obtain ⟨J4, j4, w⟩ := w
  have Q4 : J4 → RR sc goal fs 417 27 [some (rv t), some (.int (J p0))] [] h := by
    intro z4
    have w := j4 z4
    refine r_n (pc1 := 28) [.int (J 0)] _ rfl rfl ?_
    exact Q2  0  (rgk rfl) w
  refine r_iz (t := 27) (pc1 := 4) rfl rfl rfl rp0 (fun c7 => ?_) (fun c7 => ?_)
  · have w := w.1 c7
    exact Q4     w
  · have w := w.2 c7
    refine r_n (pc1 := 5) [.int (J p0)] _ rfl rfl ?_
    refine r_aldn (pc1 := 6) rfl rfl rfl ?_
    refine r_gfI (pc1 := 9) rfl rfl rfl t0 (HXk (HX_refl h) c0 rfl) rfl rfl ?_
    refine r_ic (t := 27) (pc1 := 12) rfl rfl rfl rp0 (rgh _ _ _) (fun c6 => ?_) (fun c6 => ?_)
    · have w := w.1 c6
      exact Q4     w
    · have w := w.2 c6
      refine r_n (pc1 := 13) [.int (J p0)] _ rfl rfl ?_
      refine r_aldn (pc1 := 14) rfl rfl rfl ?_
      refine r_gfI (pc1 := 17) rfl rfl rfl t0 (HXk (HX_refl h) c0 rfl) rfl rfl ?_
      refine r_n (pc1 := 19) [.int (J 20), .int (J (hI h t 7)), .int (J p0)] _ rfl rfl ?_
      refine r_isub (pc1 := 20) rfl rfl ?_
      refine r_ic (t := 27) (pc1 := 23) rfl rfl rfl rp0 (rgw _) (fun c5 => ?_) (fun c5 => ?_)
      · have w := w.1 c5
        exact Q4     w
      · have w := w.2 c5
        refine r_n (pc1 := 24) [.int (J 1)] _ rfl rfl ?_
        refine r_goto (t := 28) rfl rfl ?_
        exact Q2  1  (rgk rfl) w
def w_X8_copyFrom (t : Nat) (p0 : Nat) (K : XH → Prop) (h : XH) : Prop :=
  (hk h p0 = 9 ∧ ∀ h2 : XH, h2 = sI h t 0 (hI h p0 0) → HT h2 → HX h h2 → ∀ h3 : XH, h3 = sI h2 t 1 (hI h2 p0 1) → HT h3 → HX h2 h3 → (¬ (p0 + 1) = (t + 1) ∧ (0 : Int) ≤ 0 ∧ (0 : Int) ≤ 0 ∧ (0 : Int) ≤ 12 ∧ ((0 + 12 : Int)) ≤ 12 ∧ ((0 + 12 : Int)) ≤ 12) ∧ ∀ h5 : XH, h5 = cA h3 (p0 + 1) 0 (t + 1) 0 12 → HT h5 → HX h3 h5 → (¬ (p0 + 2) = (t + 2) ∧ (0 : Int) ≤ 0 ∧ (0 : Int) ≤ 0 ∧ (0 : Int) ≤ 12 ∧ ((0 + 12 : Int)) ≤ 12 ∧ ((0 + 12 : Int)) ≤ 12) ∧ ∀ h7 : XH, h7 = cA h5 (p0 + 2) 0 (t + 2) 0 12 → HT h7 → HX h5 h7 → (¬ (p0 + 3) = (t + 3) ∧ (0 : Int) ≤ 0 ∧ (0 : Int) ≤ 0 ∧ (0 : Int) ≤ 96 ∧ ((0 + 96 : Int)) ≤ 96 ∧ ((0 + 96 : Int)) ≤ 96) ∧ ∀ h9 : XH, h9 = cA h7 (p0 + 3) 0 (t + 3) 0 96 → HT h9 → HX h7 h9 → (¬ (p0 + 4) = (t + 4) ∧ (0 : Int) ≤ 0 ∧ (0 : Int) ≤ 0 ∧ (0 : Int) ≤ 40 ∧ ((0 + 40 : Int)) ≤ 40 ∧ ((0 + 40 : Int)) ≤ 40) ∧ ∀ h11 : XH, h11 = cA h9 (p0 + 4) 0 (t + 4) 0 40 → HT h11 → HX h9 h11 → (¬ (p0 + 5) = (t + 5) ∧ (0 : Int) ≤ 0 ∧ (0 : Int) ≤ 0 ∧ (0 : Int) ≤ 40 ∧ ((0 + 40 : Int)) ≤ 40 ∧ ((0 + 40 : Int)) ≤ 40) ∧ ∀ h13 : XH, h13 = cA h11 (p0 + 5) 0 (t + 5) 0 40 → HT h13 → HX h11 h13 → (¬ (p0 + 6) = (t + 6) ∧ (0 : Int) ≤ 0 ∧ (0 : Int) ≤ 0 ∧ (0 : Int) ≤ 40 ∧ ((0 + 40 : Int)) ≤ 40 ∧ ((0 + 40 : Int)) ≤ 40) ∧ ∀ h15 : XH, h15 = cA h13 (p0 + 6) 0 (t + 6) 0 40 → HT h15 → HX h13 h15 → (¬ (p0 + 7) = (t + 7) ∧ (0 : Int) ≤ 0 ∧ (0 : Int) ≤ 0 ∧ (0 : Int) ≤ 40 ∧ ((0 + 40 : Int)) ≤ 40 ∧ ((0 + 40 : Int)) ≤ 40) ∧ ∀ h17 : XH, h17 = cA h15 (p0 + 7) 0 (t + 7) 0 40 → HT h17 → HX h15 h17 → (¬ (p0 + 8) = (t + 8) ∧ (0 : Int) ≤ 0 ∧ (0 : Int) ≤ 0 ∧ (0 : Int) ≤ 40 ∧ ((0 + 40 : Int)) ≤ 40 ∧ ((0 + 40 : Int)) ≤ 40) ∧ ∀ h19 : XH, h19 = cA h17 (p0 + 8) 0 (t + 8) 0 40 → HT h19 → HX h17 h19 → (¬ (p0 + 9) = (t + 9) ∧ (0 : Int) ≤ 0 ∧ (0 : Int) ≤ 0 ∧ (0 : Int) ≤ 40 ∧ ((0 + 40 : Int)) ≤ 40 ∧ ((0 + 40 : Int)) ≤ 40) ∧ ∀ h21 : XH, h21 = cA h19 (p0 + 9) 0 (t + 9) 0 40 → HT h21 → HX h19 h21 → (¬ (p0 + 12) = (t + 12) ∧ (0 : Int) ≤ 0 ∧ (0 : Int) ≤ 0 ∧ (0 : Int) ≤ 40 ∧ ((0 + 40 : Int)) ≤ 40 ∧ ((0 + 40 : Int)) ≤ 40) ∧ ∀ h23 : XH, h23 = cA h21 (p0 + 12) 0 (t + 12) 0 40 → HT h23 → HX h21 h23 → (¬ (p0 + 14) = (t + 14) ∧ (0 : Int) ≤ 0 ∧ (0 : Int) ≤ 0 ∧ (0 : Int) ≤ 40 ∧ ((0 + 40 : Int)) ≤ 40 ∧ ((0 + 40 : Int)) ≤ 40) ∧ ∀ h25 : XH, h25 = cA h23 (p0 + 14) 0 (t + 14) 0 40 → HT h25 → HX h23 h25 → (¬ (p0 + 15) = (t + 15) ∧ (0 : Int) ≤ 0 ∧ (0 : Int) ≤ 0 ∧ (0 : Int) ≤ 80 ∧ ((0 + 80 : Int)) ≤ 80 ∧ ((0 + 80 : Int)) ≤ 80) ∧ ∀ h27 : XH, h27 = cA h25 (p0 + 15) 0 (t + 15) 0 80 → HT h27 → HX h25 h27 → (¬ (p0 + 16) = (t + 16) ∧ (0 : Int) ≤ 0 ∧ (0 : Int) ≤ 0 ∧ (0 : Int) ≤ 80 ∧ ((0 + 80 : Int)) ≤ 80 ∧ ((0 + 80 : Int)) ≤ 80) ∧ ∀ h29 : XH, h29 = cA h27 (p0 + 16) 0 (t + 16) 0 80 → HT h29 → HX h27 h29 → ∀ h30 : XH, h30 = sL h29 t 10 (hL h29 p0 10) → HT h30 → HX h29 h30 → (∃ (I33 : Int → XH → Prop) (m33 : Int → XH → Nat), I33 0 h30 ∧ ∀ (x31 : Int) (h32 : XH), HT h32 → HX h h32 → rg x31 → I33 x31 h32 → (((120 ≤ x31 → ((∃ (I36 : Int → XH → Prop) (m36 : Int → XH → Nat), I36 0 h32 ∧ ∀ (x34 : Int) (h35 : XH), HT h35 → HX h h35 → rg x34 → I36 x34 h35 → (((80 ≤ x34 → ((∃ (I39 : Int → XH → Prop) (m39 : Int → XH → Nat), I39 0 h35 ∧ ∀ (x37 : Int) (h38 : XH), HT h38 → HX h h38 → rg x37 → I39 x37 h38 → (((40 ≤ x37 → (K h38)) ∧ (¬ (40 ≤ x37) → (hk h38 p0 = 9 ∧ (0 ≤ x37 ∧ x37 < 40) ∧ ∀ h42 : XH, h42 = sR h38 (t + 17) x37.toNat (hR h38 (p0 + 17) x37.toNat) → HT h42 → HX h38 h42 → ∀ x43 : Int, x43 = wr (x37 + 1) → rg x43 → (I39 x43 h42 ∧ m39 x43 h42 < m39 x37 h38)))))))) ∧ (¬ (80 ≤ x34) → (hk h35 p0 = 9 ∧ (0 ≤ x34 ∧ x34 < 80) ∧ ∀ h47 : XH, h47 = sR h35 (t + 13) x34.toNat (hR h35 (p0 + 13) x34.toNat) → HT h47 → HX h35 h47 → ∀ x48 : Int, x48 = wr (x34 + 1) → rg x48 → (I36 x48 h47 ∧ m36 x48 h47 < m36 x34 h35)))))))) ∧ (¬ (120 ≤ x31) → (hk h32 p0 = 9 ∧ (0 ≤ x31 ∧ x31 < 120) ∧ ∀ h52 : XH, h52 = sR h32 (t + 10) x31.toNat (hR h32 (p0 + 10) x31.toNat) → HT h52 → HX h32 h52 → ∀ h53 : XH, h53 = sI h52 (t + 11) x31.toNat (hI h52 (p0 + 11) x31.toNat) → HT h53 → HX h52 h53 → ∀ x54 : Int, x54 = wr (x31 + 1) → rg x54 → (I33 x54 h53 ∧ m33 x54 h53 < m33 x31 h32)))))))
set_option maxHeartbeats 4000000 in
theorem a_X8_copyFrom {sc : Nat × (Nat → Int32)} {goal : XO → XH → Prop} {fs : List XF} {h : XH} (t : Nat) (p0 : Nat) {K : XH → Prop} (hd : fs.length + 0 ≤ 1000) (c0 : hk h t = 9) (w : w_X8_copyFrom t p0 K h) (t0 : HT h) (k : ∀ (h1 : XH), HT h1 → HX h h1 → K h1 → XFin xP sc goal fs (.inl none) h1) : RR sc goal fs 455 0 [some (rv t), some (rv p0), none] [] h := by
  unfold w_X8_copyFrom at w
  refine r_aldn (pc1 := 1) rfl rfl rfl ?_
  refine r_aldn (pc1 := 2) rfl rfl rfl ?_
  obtain ⟨c1, w⟩ := w
  refine r_gfI (pc1 := 5) rfl rfl rfl t0 c1 rfl rfl ?_
  refine r_pfI (pc1 := 8) rfl rfl rfl t0 (HXk (HX_refl h) c0 rfl) rfl rfl rfl (fun h2 eh2 t2 u2 => ?_)
  have w := w h2 eh2 t2 u2
  have s2 := HX_trans (HX_refl h) u2
  refine r_aldn (pc1 := 9) rfl rfl rfl ?_
  refine r_aldn (pc1 := 10) rfl rfl rfl ?_
  refine r_gfI (pc1 := 13) rfl rfl rfl t2 (HXk u2 c1 rfl) rfl rfl ?_
  refine r_pfI (pc1 := 16) rfl rfl rfl t2 (HXk s2 c0 rfl) rfl rfl rfl (fun h3 eh3 t3 u3 => ?_)
  have w := w h3 eh3 t3 u3
  have s3 := HX_trans s2 u3
  refine r_aldn (pc1 := 17) rfl rfl rfl ?_
  refine r_gfC (pc1 := 20) (q := (p0 + 1)) rfl rfl rfl t3 (HXk u3 (HXk u2 c1 rfl) rfl) rfl rfl (lyr_9_2 t3 (HXk u3 (HXk u2 c1 rfl) rfl)) ?_
  refine r_n (pc1 := 21) [.int (J 0), rv (p0 + 1)] _ rfl rfl ?_
  refine r_aldn (pc1 := 22) rfl rfl rfl ?_
  refine r_gfC (pc1 := 25) (q := (t + 1)) rfl rfl rfl t3 (HXk s3 c0 rfl) rfl rfl (lyr_9_2 t3 (HXk s3 c0 rfl)) ?_
  refine r_n (pc1 := 26) [.int (J 0), rv (t + 1), .int (J 0), rv (p0 + 1)] _ rfl rfl ?_
  refine r_n (pc1 := 28) [.int (J 12), .int (J 0), rv (t + 1), .int (J 0), rv (p0 + 1)] _ rfl rfl ?_
  obtain ⟨c4, w⟩ := w
  refine r_cp (pc1 := 31) (u := 0) rfl rfl rfl rfl t3 (lyo_9_2 t3 (HXk u3 (HXk u2 c1 rfl) rfl)).1 (lyo_9_2 t3 (HXk s3 c0 rfl)).1 (by decide) (rgk rfl) (rgk rfl) (rgk rfl) (lyo_9_2 t3 (HXk u3 (HXk u2 c1 rfl) rfl)).2 (lyo_9_2 t3 (HXk s3 c0 rfl)).2 c4 (fun h5 eh5 t5 u5 => ?_)
  have w := w h5 eh5 t5 u5
  have s5 := HX_trans s3 u5
  refine r_aldn (pc1 := 32) rfl rfl rfl ?_
  refine r_gfC (pc1 := 35) (q := (p0 + 2)) rfl rfl rfl t5 (HXk u5 (HXk u3 (HXk u2 c1 rfl) rfl) rfl) rfl rfl (lyr_9_3 t5 (HXk u5 (HXk u3 (HXk u2 c1 rfl) rfl) rfl)) ?_
  refine r_n (pc1 := 36) [.int (J 0), rv (p0 + 2)] _ rfl rfl ?_
  refine r_aldn (pc1 := 37) rfl rfl rfl ?_
  refine r_gfC (pc1 := 40) (q := (t + 2)) rfl rfl rfl t5 (HXk s5 c0 rfl) rfl rfl (lyr_9_3 t5 (HXk s5 c0 rfl)) ?_
  refine r_n (pc1 := 41) [.int (J 0), rv (t + 2), .int (J 0), rv (p0 + 2)] _ rfl rfl ?_
  refine r_n (pc1 := 43) [.int (J 12), .int (J 0), rv (t + 2), .int (J 0), rv (p0 + 2)] _ rfl rfl ?_
  obtain ⟨c6, w⟩ := w
  refine r_cp (pc1 := 46) (u := 1) rfl rfl rfl rfl t5 (lyo_9_3 t5 (HXk u5 (HXk u3 (HXk u2 c1 rfl) rfl) rfl)).1 (lyo_9_3 t5 (HXk s5 c0 rfl)).1 (by decide) (rgk rfl) (rgk rfl) (rgk rfl) (lyo_9_3 t5 (HXk u5 (HXk u3 (HXk u2 c1 rfl) rfl) rfl)).2 (lyo_9_3 t5 (HXk s5 c0 rfl)).2 c6 (fun h7 eh7 t7 u7 => ?_)
  have w := w h7 eh7 t7 u7
  have s7 := HX_trans s5 u7
  refine r_aldn (pc1 := 47) rfl rfl rfl ?_
  refine r_gfC (pc1 := 50) (q := (p0 + 3)) rfl rfl rfl t7 (HXk u7 (HXk u5 (HXk u3 (HXk u2 c1 rfl) rfl) rfl) rfl) rfl rfl (lyr_9_4 t7 (HXk u7 (HXk u5 (HXk u3 (HXk u2 c1 rfl) rfl) rfl) rfl)) ?_
  refine r_n (pc1 := 51) [.int (J 0), rv (p0 + 3)] _ rfl rfl ?_
  refine r_aldn (pc1 := 52) rfl rfl rfl ?_
  refine r_gfC (pc1 := 55) (q := (t + 3)) rfl rfl rfl t7 (HXk s7 c0 rfl) rfl rfl (lyr_9_4 t7 (HXk s7 c0 rfl)) ?_
  refine r_n (pc1 := 56) [.int (J 0), rv (t + 3), .int (J 0), rv (p0 + 3)] _ rfl rfl ?_
  refine r_n (pc1 := 58) [.int (J 96), .int (J 0), rv (t + 3), .int (J 0), rv (p0 + 3)] _ rfl rfl ?_
  obtain ⟨c8, w⟩ := w
  refine r_cp (pc1 := 61) (u := 0) rfl rfl rfl rfl t7 (lyo_9_4 t7 (HXk u7 (HXk u5 (HXk u3 (HXk u2 c1 rfl) rfl) rfl) rfl)).1 (lyo_9_4 t7 (HXk s7 c0 rfl)).1 (by decide) (rgk rfl) (rgk rfl) (rgk rfl) (lyo_9_4 t7 (HXk u7 (HXk u5 (HXk u3 (HXk u2 c1 rfl) rfl) rfl) rfl)).2 (lyo_9_4 t7 (HXk s7 c0 rfl)).2 c8 (fun h9 eh9 t9 u9 => ?_)
  have w := w h9 eh9 t9 u9
  have s9 := HX_trans s7 u9
  refine r_aldn (pc1 := 62) rfl rfl rfl ?_
  refine r_gfC (pc1 := 65) (q := (p0 + 4)) rfl rfl rfl t9 (HXk u9 (HXk u7 (HXk u5 (HXk u3 (HXk u2 c1 rfl) rfl) rfl) rfl) rfl) rfl rfl (lyr_9_5 t9 (HXk u9 (HXk u7 (HXk u5 (HXk u3 (HXk u2 c1 rfl) rfl) rfl) rfl) rfl)) ?_
  refine r_n (pc1 := 66) [.int (J 0), rv (p0 + 4)] _ rfl rfl ?_
  refine r_aldn (pc1 := 67) rfl rfl rfl ?_
  refine r_gfC (pc1 := 70) (q := (t + 4)) rfl rfl rfl t9 (HXk s9 c0 rfl) rfl rfl (lyr_9_5 t9 (HXk s9 c0 rfl)) ?_
  refine r_n (pc1 := 71) [.int (J 0), rv (t + 4), .int (J 0), rv (p0 + 4)] _ rfl rfl ?_
  refine r_n (pc1 := 73) [.int (J 40), .int (J 0), rv (t + 4), .int (J 0), rv (p0 + 4)] _ rfl rfl ?_
  obtain ⟨c10, w⟩ := w
  refine r_cp (pc1 := 76) (u := 0) rfl rfl rfl rfl t9 (lyo_9_5 t9 (HXk u9 (HXk u7 (HXk u5 (HXk u3 (HXk u2 c1 rfl) rfl) rfl) rfl) rfl)).1 (lyo_9_5 t9 (HXk s9 c0 rfl)).1 (by decide) (rgk rfl) (rgk rfl) (rgk rfl) (lyo_9_5 t9 (HXk u9 (HXk u7 (HXk u5 (HXk u3 (HXk u2 c1 rfl) rfl) rfl) rfl) rfl)).2 (lyo_9_5 t9 (HXk s9 c0 rfl)).2 c10 (fun h11 eh11 t11 u11 => ?_)
  have w := w h11 eh11 t11 u11
  have s11 := HX_trans s9 u11
  refine r_aldn (pc1 := 77) rfl rfl rfl ?_
  refine r_gfC (pc1 := 80) (q := (p0 + 5)) rfl rfl rfl t11 (HXk u11 (HXk u9 (HXk u7 (HXk u5 (HXk u3 (HXk u2 c1 rfl) rfl) rfl) rfl) rfl) rfl) rfl rfl (lyr_9_6 t11 (HXk u11 (HXk u9 (HXk u7 (HXk u5 (HXk u3 (HXk u2 c1 rfl) rfl) rfl) rfl) rfl) rfl)) ?_
  refine r_n (pc1 := 81) [.int (J 0), rv (p0 + 5)] _ rfl rfl ?_
  refine r_aldn (pc1 := 82) rfl rfl rfl ?_
  refine r_gfC (pc1 := 85) (q := (t + 5)) rfl rfl rfl t11 (HXk s11 c0 rfl) rfl rfl (lyr_9_6 t11 (HXk s11 c0 rfl)) ?_
  refine r_n (pc1 := 86) [.int (J 0), rv (t + 5), .int (J 0), rv (p0 + 5)] _ rfl rfl ?_
  refine r_n (pc1 := 88) [.int (J 40), .int (J 0), rv (t + 5), .int (J 0), rv (p0 + 5)] _ rfl rfl ?_
  obtain ⟨c12, w⟩ := w
  refine r_cp (pc1 := 91) (u := 0) rfl rfl rfl rfl t11 (lyo_9_6 t11 (HXk u11 (HXk u9 (HXk u7 (HXk u5 (HXk u3 (HXk u2 c1 rfl) rfl) rfl) rfl) rfl) rfl)).1 (lyo_9_6 t11 (HXk s11 c0 rfl)).1 (by decide) (rgk rfl) (rgk rfl) (rgk rfl) (lyo_9_6 t11 (HXk u11 (HXk u9 (HXk u7 (HXk u5 (HXk u3 (HXk u2 c1 rfl) rfl) rfl) rfl) rfl) rfl)).2 (lyo_9_6 t11 (HXk s11 c0 rfl)).2 c12 (fun h13 eh13 t13 u13 => ?_)
  have w := w h13 eh13 t13 u13
  have s13 := HX_trans s11 u13
  refine r_aldn (pc1 := 92) rfl rfl rfl ?_
  refine r_gfC (pc1 := 95) (q := (p0 + 6)) rfl rfl rfl t13 (HXk u13 (HXk u11 (HXk u9 (HXk u7 (HXk u5 (HXk u3 (HXk u2 c1 rfl) rfl) rfl) rfl) rfl) rfl) rfl) rfl rfl (lyr_9_7 t13 (HXk u13 (HXk u11 (HXk u9 (HXk u7 (HXk u5 (HXk u3 (HXk u2 c1 rfl) rfl) rfl) rfl) rfl) rfl) rfl)) ?_
  refine r_n (pc1 := 96) [.int (J 0), rv (p0 + 6)] _ rfl rfl ?_
  refine r_aldn (pc1 := 97) rfl rfl rfl ?_
  refine r_gfC (pc1 := 100) (q := (t + 6)) rfl rfl rfl t13 (HXk s13 c0 rfl) rfl rfl (lyr_9_7 t13 (HXk s13 c0 rfl)) ?_
  refine r_n (pc1 := 101) [.int (J 0), rv (t + 6), .int (J 0), rv (p0 + 6)] _ rfl rfl ?_
  refine r_n (pc1 := 103) [.int (J 40), .int (J 0), rv (t + 6), .int (J 0), rv (p0 + 6)] _ rfl rfl ?_
  obtain ⟨c14, w⟩ := w
  refine r_cp (pc1 := 106) (u := 0) rfl rfl rfl rfl t13 (lyo_9_7 t13 (HXk u13 (HXk u11 (HXk u9 (HXk u7 (HXk u5 (HXk u3 (HXk u2 c1 rfl) rfl) rfl) rfl) rfl) rfl) rfl)).1 (lyo_9_7 t13 (HXk s13 c0 rfl)).1 (by decide) (rgk rfl) (rgk rfl) (rgk rfl) (lyo_9_7 t13 (HXk u13 (HXk u11 (HXk u9 (HXk u7 (HXk u5 (HXk u3 (HXk u2 c1 rfl) rfl) rfl) rfl) rfl) rfl) rfl)).2 (lyo_9_7 t13 (HXk s13 c0 rfl)).2 c14 (fun h15 eh15 t15 u15 => ?_)
  have w := w h15 eh15 t15 u15
  have s15 := HX_trans s13 u15
  refine r_aldn (pc1 := 107) rfl rfl rfl ?_
  refine r_gfC (pc1 := 110) (q := (p0 + 7)) rfl rfl rfl t15 (HXk u15 (HXk u13 (HXk u11 (HXk u9 (HXk u7 (HXk u5 (HXk u3 (HXk u2 c1 rfl) rfl) rfl) rfl) rfl) rfl) rfl) rfl) rfl rfl (lyr_9_8 t15 (HXk u15 (HXk u13 (HXk u11 (HXk u9 (HXk u7 (HXk u5 (HXk u3 (HXk u2 c1 rfl) rfl) rfl) rfl) rfl) rfl) rfl) rfl)) ?_
  refine r_n (pc1 := 111) [.int (J 0), rv (p0 + 7)] _ rfl rfl ?_
  refine r_aldn (pc1 := 112) rfl rfl rfl ?_
  refine r_gfC (pc1 := 115) (q := (t + 7)) rfl rfl rfl t15 (HXk s15 c0 rfl) rfl rfl (lyr_9_8 t15 (HXk s15 c0 rfl)) ?_
  refine r_n (pc1 := 116) [.int (J 0), rv (t + 7), .int (J 0), rv (p0 + 7)] _ rfl rfl ?_
  refine r_n (pc1 := 118) [.int (J 40), .int (J 0), rv (t + 7), .int (J 0), rv (p0 + 7)] _ rfl rfl ?_
  obtain ⟨c16, w⟩ := w
  refine r_cp (pc1 := 121) (u := 0) rfl rfl rfl rfl t15 (lyo_9_8 t15 (HXk u15 (HXk u13 (HXk u11 (HXk u9 (HXk u7 (HXk u5 (HXk u3 (HXk u2 c1 rfl) rfl) rfl) rfl) rfl) rfl) rfl) rfl)).1 (lyo_9_8 t15 (HXk s15 c0 rfl)).1 (by decide) (rgk rfl) (rgk rfl) (rgk rfl) (lyo_9_8 t15 (HXk u15 (HXk u13 (HXk u11 (HXk u9 (HXk u7 (HXk u5 (HXk u3 (HXk u2 c1 rfl) rfl) rfl) rfl) rfl) rfl) rfl) rfl)).2 (lyo_9_8 t15 (HXk s15 c0 rfl)).2 c16 (fun h17 eh17 t17 u17 => ?_)
  have w := w h17 eh17 t17 u17
  have s17 := HX_trans s15 u17
  refine r_aldn (pc1 := 122) rfl rfl rfl ?_
  refine r_gfC (pc1 := 125) (q := (p0 + 8)) rfl rfl rfl t17 (HXk u17 (HXk u15 (HXk u13 (HXk u11 (HXk u9 (HXk u7 (HXk u5 (HXk u3 (HXk u2 c1 rfl) rfl) rfl) rfl) rfl) rfl) rfl) rfl) rfl) rfl rfl (lyr_9_9 t17 (HXk u17 (HXk u15 (HXk u13 (HXk u11 (HXk u9 (HXk u7 (HXk u5 (HXk u3 (HXk u2 c1 rfl) rfl) rfl) rfl) rfl) rfl) rfl) rfl) rfl)) ?_
  refine r_n (pc1 := 126) [.int (J 0), rv (p0 + 8)] _ rfl rfl ?_
  refine r_aldn (pc1 := 127) rfl rfl rfl ?_
  refine r_gfC (pc1 := 130) (q := (t + 8)) rfl rfl rfl t17 (HXk s17 c0 rfl) rfl rfl (lyr_9_9 t17 (HXk s17 c0 rfl)) ?_
  refine r_n (pc1 := 131) [.int (J 0), rv (t + 8), .int (J 0), rv (p0 + 8)] _ rfl rfl ?_
  refine r_n (pc1 := 133) [.int (J 40), .int (J 0), rv (t + 8), .int (J 0), rv (p0 + 8)] _ rfl rfl ?_
  obtain ⟨c18, w⟩ := w
  refine r_cp (pc1 := 136) (u := 0) rfl rfl rfl rfl t17 (lyo_9_9 t17 (HXk u17 (HXk u15 (HXk u13 (HXk u11 (HXk u9 (HXk u7 (HXk u5 (HXk u3 (HXk u2 c1 rfl) rfl) rfl) rfl) rfl) rfl) rfl) rfl) rfl)).1 (lyo_9_9 t17 (HXk s17 c0 rfl)).1 (by decide) (rgk rfl) (rgk rfl) (rgk rfl) (lyo_9_9 t17 (HXk u17 (HXk u15 (HXk u13 (HXk u11 (HXk u9 (HXk u7 (HXk u5 (HXk u3 (HXk u2 c1 rfl) rfl) rfl) rfl) rfl) rfl) rfl) rfl) rfl)).2 (lyo_9_9 t17 (HXk s17 c0 rfl)).2 c18 (fun h19 eh19 t19 u19 => ?_)
  have w := w h19 eh19 t19 u19
  have s19 := HX_trans s17 u19
  refine r_aldn (pc1 := 137) rfl rfl rfl ?_
  refine r_gfC (pc1 := 140) (q := (p0 + 9)) rfl rfl rfl t19 (HXk u19 (HXk u17 (HXk u15 (HXk u13 (HXk u11 (HXk u9 (HXk u7 (HXk u5 (HXk u3 (HXk u2 c1 rfl) rfl) rfl) rfl) rfl) rfl) rfl) rfl) rfl) rfl) rfl rfl (lyr_9_11 t19 (HXk u19 (HXk u17 (HXk u15 (HXk u13 (HXk u11 (HXk u9 (HXk u7 (HXk u5 (HXk u3 (HXk u2 c1 rfl) rfl) rfl) rfl) rfl) rfl) rfl) rfl) rfl) rfl)) ?_
  refine r_n (pc1 := 141) [.int (J 0), rv (p0 + 9)] _ rfl rfl ?_
  refine r_aldn (pc1 := 142) rfl rfl rfl ?_
  refine r_gfC (pc1 := 145) (q := (t + 9)) rfl rfl rfl t19 (HXk s19 c0 rfl) rfl rfl (lyr_9_11 t19 (HXk s19 c0 rfl)) ?_
  refine r_n (pc1 := 146) [.int (J 0), rv (t + 9), .int (J 0), rv (p0 + 9)] _ rfl rfl ?_
  refine r_n (pc1 := 148) [.int (J 40), .int (J 0), rv (t + 9), .int (J 0), rv (p0 + 9)] _ rfl rfl ?_
  obtain ⟨c20, w⟩ := w
  refine r_cp (pc1 := 151) (u := 0) rfl rfl rfl rfl t19 (lyo_9_11 t19 (HXk u19 (HXk u17 (HXk u15 (HXk u13 (HXk u11 (HXk u9 (HXk u7 (HXk u5 (HXk u3 (HXk u2 c1 rfl) rfl) rfl) rfl) rfl) rfl) rfl) rfl) rfl) rfl)).1 (lyo_9_11 t19 (HXk s19 c0 rfl)).1 (by decide) (rgk rfl) (rgk rfl) (rgk rfl) (lyo_9_11 t19 (HXk u19 (HXk u17 (HXk u15 (HXk u13 (HXk u11 (HXk u9 (HXk u7 (HXk u5 (HXk u3 (HXk u2 c1 rfl) rfl) rfl) rfl) rfl) rfl) rfl) rfl) rfl) rfl)).2 (lyo_9_11 t19 (HXk s19 c0 rfl)).2 c20 (fun h21 eh21 t21 u21 => ?_)
  have w := w h21 eh21 t21 u21
  have s21 := HX_trans s19 u21
  refine r_aldn (pc1 := 152) rfl rfl rfl ?_
  refine r_gfC (pc1 := 155) (q := (p0 + 12)) rfl rfl rfl t21 (HXk u21 (HXk u19 (HXk u17 (HXk u15 (HXk u13 (HXk u11 (HXk u9 (HXk u7 (HXk u5 (HXk u3 (HXk u2 c1 rfl) rfl) rfl) rfl) rfl) rfl) rfl) rfl) rfl) rfl) rfl) rfl rfl (lyr_9_14 t21 (HXk u21 (HXk u19 (HXk u17 (HXk u15 (HXk u13 (HXk u11 (HXk u9 (HXk u7 (HXk u5 (HXk u3 (HXk u2 c1 rfl) rfl) rfl) rfl) rfl) rfl) rfl) rfl) rfl) rfl) rfl)) ?_
  refine r_n (pc1 := 156) [.int (J 0), rv (p0 + 12)] _ rfl rfl ?_
  refine r_aldn (pc1 := 157) rfl rfl rfl ?_
  refine r_gfC (pc1 := 160) (q := (t + 12)) rfl rfl rfl t21 (HXk s21 c0 rfl) rfl rfl (lyr_9_14 t21 (HXk s21 c0 rfl)) ?_
  refine r_n (pc1 := 161) [.int (J 0), rv (t + 12), .int (J 0), rv (p0 + 12)] _ rfl rfl ?_
  refine r_n (pc1 := 163) [.int (J 40), .int (J 0), rv (t + 12), .int (J 0), rv (p0 + 12)] _ rfl rfl ?_
  obtain ⟨c22, w⟩ := w
  refine r_cp (pc1 := 166) (u := 0) rfl rfl rfl rfl t21 (lyo_9_14 t21 (HXk u21 (HXk u19 (HXk u17 (HXk u15 (HXk u13 (HXk u11 (HXk u9 (HXk u7 (HXk u5 (HXk u3 (HXk u2 c1 rfl) rfl) rfl) rfl) rfl) rfl) rfl) rfl) rfl) rfl) rfl)).1 (lyo_9_14 t21 (HXk s21 c0 rfl)).1 (by decide) (rgk rfl) (rgk rfl) (rgk rfl) (lyo_9_14 t21 (HXk u21 (HXk u19 (HXk u17 (HXk u15 (HXk u13 (HXk u11 (HXk u9 (HXk u7 (HXk u5 (HXk u3 (HXk u2 c1 rfl) rfl) rfl) rfl) rfl) rfl) rfl) rfl) rfl) rfl) rfl)).2 (lyo_9_14 t21 (HXk s21 c0 rfl)).2 c22 (fun h23 eh23 t23 u23 => ?_)
  have w := w h23 eh23 t23 u23
  have s23 := HX_trans s21 u23
  refine r_aldn (pc1 := 167) rfl rfl rfl ?_
  refine r_gfC (pc1 := 170) (q := (p0 + 14)) rfl rfl rfl t23 (HXk u23 (HXk u21 (HXk u19 (HXk u17 (HXk u15 (HXk u13 (HXk u11 (HXk u9 (HXk u7 (HXk u5 (HXk u3 (HXk u2 c1 rfl) rfl) rfl) rfl) rfl) rfl) rfl) rfl) rfl) rfl) rfl) rfl) rfl rfl (lyr_9_16 t23 (HXk u23 (HXk u21 (HXk u19 (HXk u17 (HXk u15 (HXk u13 (HXk u11 (HXk u9 (HXk u7 (HXk u5 (HXk u3 (HXk u2 c1 rfl) rfl) rfl) rfl) rfl) rfl) rfl) rfl) rfl) rfl) rfl) rfl)) ?_
  refine r_n (pc1 := 171) [.int (J 0), rv (p0 + 14)] _ rfl rfl ?_
  refine r_aldn (pc1 := 172) rfl rfl rfl ?_
  refine r_gfC (pc1 := 175) (q := (t + 14)) rfl rfl rfl t23 (HXk s23 c0 rfl) rfl rfl (lyr_9_16 t23 (HXk s23 c0 rfl)) ?_
  refine r_n (pc1 := 176) [.int (J 0), rv (t + 14), .int (J 0), rv (p0 + 14)] _ rfl rfl ?_
  refine r_n (pc1 := 178) [.int (J 40), .int (J 0), rv (t + 14), .int (J 0), rv (p0 + 14)] _ rfl rfl ?_
  obtain ⟨c24, w⟩ := w
  refine r_cp (pc1 := 181) (u := 0) rfl rfl rfl rfl t23 (lyo_9_16 t23 (HXk u23 (HXk u21 (HXk u19 (HXk u17 (HXk u15 (HXk u13 (HXk u11 (HXk u9 (HXk u7 (HXk u5 (HXk u3 (HXk u2 c1 rfl) rfl) rfl) rfl) rfl) rfl) rfl) rfl) rfl) rfl) rfl) rfl)).1 (lyo_9_16 t23 (HXk s23 c0 rfl)).1 (by decide) (rgk rfl) (rgk rfl) (rgk rfl) (lyo_9_16 t23 (HXk u23 (HXk u21 (HXk u19 (HXk u17 (HXk u15 (HXk u13 (HXk u11 (HXk u9 (HXk u7 (HXk u5 (HXk u3 (HXk u2 c1 rfl) rfl) rfl) rfl) rfl) rfl) rfl) rfl) rfl) rfl) rfl) rfl)).2 (lyo_9_16 t23 (HXk s23 c0 rfl)).2 c24 (fun h25 eh25 t25 u25 => ?_)
  have w := w h25 eh25 t25 u25
  have s25 := HX_trans s23 u25
  refine r_aldn (pc1 := 182) rfl rfl rfl ?_
  refine r_gfC (pc1 := 185) (q := (p0 + 15)) rfl rfl rfl t25 (HXk u25 (HXk u23 (HXk u21 (HXk u19 (HXk u17 (HXk u15 (HXk u13 (HXk u11 (HXk u9 (HXk u7 (HXk u5 (HXk u3 (HXk u2 c1 rfl) rfl) rfl) rfl) rfl) rfl) rfl) rfl) rfl) rfl) rfl) rfl) rfl) rfl rfl (lyr_9_17 t25 (HXk u25 (HXk u23 (HXk u21 (HXk u19 (HXk u17 (HXk u15 (HXk u13 (HXk u11 (HXk u9 (HXk u7 (HXk u5 (HXk u3 (HXk u2 c1 rfl) rfl) rfl) rfl) rfl) rfl) rfl) rfl) rfl) rfl) rfl) rfl) rfl)) ?_
  refine r_n (pc1 := 186) [.int (J 0), rv (p0 + 15)] _ rfl rfl ?_
  refine r_aldn (pc1 := 187) rfl rfl rfl ?_
  refine r_gfC (pc1 := 190) (q := (t + 15)) rfl rfl rfl t25 (HXk s25 c0 rfl) rfl rfl (lyr_9_17 t25 (HXk s25 c0 rfl)) ?_
  refine r_n (pc1 := 191) [.int (J 0), rv (t + 15), .int (J 0), rv (p0 + 15)] _ rfl rfl ?_
  refine r_n (pc1 := 193) [.int (J 80), .int (J 0), rv (t + 15), .int (J 0), rv (p0 + 15)] _ rfl rfl ?_
  obtain ⟨c26, w⟩ := w
  refine r_cp (pc1 := 196) (u := 0) rfl rfl rfl rfl t25 (lyo_9_17 t25 (HXk u25 (HXk u23 (HXk u21 (HXk u19 (HXk u17 (HXk u15 (HXk u13 (HXk u11 (HXk u9 (HXk u7 (HXk u5 (HXk u3 (HXk u2 c1 rfl) rfl) rfl) rfl) rfl) rfl) rfl) rfl) rfl) rfl) rfl) rfl) rfl)).1 (lyo_9_17 t25 (HXk s25 c0 rfl)).1 (by decide) (rgk rfl) (rgk rfl) (rgk rfl) (lyo_9_17 t25 (HXk u25 (HXk u23 (HXk u21 (HXk u19 (HXk u17 (HXk u15 (HXk u13 (HXk u11 (HXk u9 (HXk u7 (HXk u5 (HXk u3 (HXk u2 c1 rfl) rfl) rfl) rfl) rfl) rfl) rfl) rfl) rfl) rfl) rfl) rfl) rfl)).2 (lyo_9_17 t25 (HXk s25 c0 rfl)).2 c26 (fun h27 eh27 t27 u27 => ?_)
  have w := w h27 eh27 t27 u27
  have s27 := HX_trans s25 u27
  refine r_aldn (pc1 := 197) rfl rfl rfl ?_
  refine r_gfC (pc1 := 200) (q := (p0 + 16)) rfl rfl rfl t27 (HXk u27 (HXk u25 (HXk u23 (HXk u21 (HXk u19 (HXk u17 (HXk u15 (HXk u13 (HXk u11 (HXk u9 (HXk u7 (HXk u5 (HXk u3 (HXk u2 c1 rfl) rfl) rfl) rfl) rfl) rfl) rfl) rfl) rfl) rfl) rfl) rfl) rfl) rfl) rfl rfl (lyr_9_18 t27 (HXk u27 (HXk u25 (HXk u23 (HXk u21 (HXk u19 (HXk u17 (HXk u15 (HXk u13 (HXk u11 (HXk u9 (HXk u7 (HXk u5 (HXk u3 (HXk u2 c1 rfl) rfl) rfl) rfl) rfl) rfl) rfl) rfl) rfl) rfl) rfl) rfl) rfl) rfl)) ?_
  refine r_n (pc1 := 201) [.int (J 0), rv (p0 + 16)] _ rfl rfl ?_
  refine r_aldn (pc1 := 202) rfl rfl rfl ?_
  refine r_gfC (pc1 := 205) (q := (t + 16)) rfl rfl rfl t27 (HXk s27 c0 rfl) rfl rfl (lyr_9_18 t27 (HXk s27 c0 rfl)) ?_
  refine r_n (pc1 := 206) [.int (J 0), rv (t + 16), .int (J 0), rv (p0 + 16)] _ rfl rfl ?_
  refine r_n (pc1 := 208) [.int (J 80), .int (J 0), rv (t + 16), .int (J 0), rv (p0 + 16)] _ rfl rfl ?_
  obtain ⟨c28, w⟩ := w
  refine r_cp (pc1 := 211) (u := 0) rfl rfl rfl rfl t27 (lyo_9_18 t27 (HXk u27 (HXk u25 (HXk u23 (HXk u21 (HXk u19 (HXk u17 (HXk u15 (HXk u13 (HXk u11 (HXk u9 (HXk u7 (HXk u5 (HXk u3 (HXk u2 c1 rfl) rfl) rfl) rfl) rfl) rfl) rfl) rfl) rfl) rfl) rfl) rfl) rfl) rfl)).1 (lyo_9_18 t27 (HXk s27 c0 rfl)).1 (by decide) (rgk rfl) (rgk rfl) (rgk rfl) (lyo_9_18 t27 (HXk u27 (HXk u25 (HXk u23 (HXk u21 (HXk u19 (HXk u17 (HXk u15 (HXk u13 (HXk u11 (HXk u9 (HXk u7 (HXk u5 (HXk u3 (HXk u2 c1 rfl) rfl) rfl) rfl) rfl) rfl) rfl) rfl) rfl) rfl) rfl) rfl) rfl) rfl)).2 (lyo_9_18 t27 (HXk s27 c0 rfl)).2 c28 (fun h29 eh29 t29 u29 => ?_)
  have w := w h29 eh29 t29 u29
  have s29 := HX_trans s27 u29
  refine r_aldn (pc1 := 212) rfl rfl rfl ?_
  refine r_aldn (pc1 := 213) rfl rfl rfl ?_
  refine r_gfL (pc1 := 216) rfl rfl rfl t29 (HXk u29 (HXk u27 (HXk u25 (HXk u23 (HXk u21 (HXk u19 (HXk u17 (HXk u15 (HXk u13 (HXk u11 (HXk u9 (HXk u7 (HXk u5 (HXk u3 (HXk u2 c1 rfl) rfl) rfl) rfl) rfl) rfl) rfl) rfl) rfl) rfl) rfl) rfl) rfl) rfl) rfl) rfl rfl ?_
  refine r_pfL (pc1 := 219) rfl rfl rfl t29 (HXk s29 c0 rfl) rfl rfl rfl (fun h30 eh30 t30 u30 => ?_)
  have w := w h30 eh30 t30 u30
  have s30 := HX_trans s29 u30
  refine r_n (pc1 := 220) [.int (J 0)] _ rfl rfl ?_
  refine r_istn (pc1 := 221) (ls1 := [some (rv t), some (rv p0), some (.int (J 0))]) rfl rfl rfl (xput1_rv rfl rfl) ?_
  obtain ⟨I33, m33, w, y33⟩ := w
  have Q33 : ∀ (n : Nat)  (x31 : Int) (h32 : XH), HT h32 → HX h h32 → rg x31 → m33 x31 h32 < n → I33 x31 h32 → RR sc goal fs 455 221 [some (rv t), some (rv p0), some (.int (J x31))] [] h32 := by
    intro n
    induction n with
    | zero => intro x31 h32 t32 s32 rx31 q33 _; exact absurd q33 (Nat.not_lt_zero _)
    | succ n ih33 =>
      intro x31 h32 t32 s32 rx31 q33 z33
      have w := y33 x31 h32 t32 s32 rx31 z33
      refine r_n (pc1 := 222) [.int (J x31)] _ rfl rfl ?_
      refine r_n (pc1 := 224) [.int (J 120), .int (J x31)] _ rfl rfl ?_
      refine r_ic (t := 257) (pc1 := 227) rfl rfl rfl rx31 (rgk rfl) (fun c55 => ?_) (fun c55 => ?_)
      · have w := w.1 c55
        refine r_n (pc1 := 258) [.int (J 0)] _ rfl rfl ?_
        refine r_istn (pc1 := 259) (ls1 := [some (rv t), some (rv p0), some (.int (J 0))]) rfl rfl rfl (xput1_rv rfl rfl) ?_
        obtain ⟨I36, m36, w, y36⟩ := w
        have Q36 : ∀ (n : Nat)  (x34 : Int) (h35 : XH), HT h35 → HX h h35 → rg x34 → m36 x34 h35 < n → I36 x34 h35 → RR sc goal fs 455 259 [some (rv t), some (rv p0), some (.int (J x34))] [] h35 := by
          intro n
          induction n with
          | zero => intro x34 h35 t35 s35 rx34 q36 _; exact absurd q36 (Nat.not_lt_zero _)
          | succ n ih36 =>
            intro x34 h35 t35 s35 rx34 q36 z36
            have w := y36 x34 h35 t35 s35 rx34 z36
            refine r_n (pc1 := 260) [.int (J x34)] _ rfl rfl ?_
            refine r_n (pc1 := 262) [.int (J 80), .int (J x34)] _ rfl rfl ?_
            refine r_ic (t := 283) (pc1 := 265) rfl rfl rfl rx34 (rgk rfl) (fun c49 => ?_) (fun c49 => ?_)
            · have w := w.1 c49
              refine r_n (pc1 := 284) [.int (J 0)] _ rfl rfl ?_
              refine r_istn (pc1 := 285) (ls1 := [some (rv t), some (rv p0), some (.int (J 0))]) rfl rfl rfl (xput1_rv rfl rfl) ?_
              obtain ⟨I39, m39, w, y39⟩ := w
              have Q39 : ∀ (n : Nat)  (x37 : Int) (h38 : XH), HT h38 → HX h h38 → rg x37 → m39 x37 h38 < n → I39 x37 h38 → RR sc goal fs 455 285 [some (rv t), some (rv p0), some (.int (J x37))] [] h38 := by
                intro n
                induction n with
                | zero => intro x37 h38 t38 s38 rx37 q39 _; exact absurd q39 (Nat.not_lt_zero _)
                | succ n ih39 =>
                  intro x37 h38 t38 s38 rx37 q39 z39
                  have w := y39 x37 h38 t38 s38 rx37 z39
                  refine r_n (pc1 := 286) [.int (J x37)] _ rfl rfl ?_
                  refine r_n (pc1 := 288) [.int (J 40), .int (J x37)] _ rfl rfl ?_
                  refine r_ic (t := 309) (pc1 := 291) rfl rfl rfl rx37 (rgk rfl) (fun c44 => ?_) (fun c44 => ?_)
                  · have w := w.1 c44
                    exact r_retV rfl rfl rfl (k _ t38 s38 w)
                  · have w := w.2 c44
                    refine r_aldn (pc1 := 292) rfl rfl rfl ?_
                    refine r_gfC (pc1 := 295) (q := (t + 17)) rfl rfl rfl t38 (HXk s38 c0 rfl) rfl rfl (lyr_9_19 t38 (HXk s38 c0 rfl)) ?_
                    refine r_n (pc1 := 296) [.int (J x37), rv (t + 17)] _ rfl rfl ?_
                    refine r_aldn (pc1 := 297) rfl rfl rfl ?_
                    obtain ⟨c40, w⟩ := w
                    refine r_gfC (pc1 := 300) (q := (p0 + 17)) rfl rfl rfl t38 c40 rfl rfl (lyr_9_19 t38 c40) ?_
                    refine r_n (pc1 := 301) [.int (J x37), rv (p0 + 17), .int (J x37), rv (t + 17)] _ rfl rfl ?_
                    obtain ⟨c41, w⟩ := w
                    refine r_aal (pc1 := 302) (u := 3) rfl rfl t38 (lyo_9_19 t38 c40).1 rfl rfl rx37 c41.1 (lt_len (lyo_9_19 t38 c40).2 c41.2) ?_
                    refine r_aast (pc1 := 303) (u := 3) rfl rfl t38 (lyo_9_19 t38 (HXk s38 c0 rfl)).1 (.inl rfl) ((te3 t38 (lyo_9_19 t38 c40).1).elim .inl (fun q => .inr (.inl ⟨rfl, q⟩))) rx37 c41.1 (lt_len (lyo_9_19 t38 (HXk s38 c0 rfl)).2 c41.2) (fun h42 eh42 t42 u42 => ?_)
                    have w := w h42 eh42 t42 u42
                    have s42 := HX_trans s38 u42
                    refine r_inc (pc1 := 306) (g := fun zz => [some (rv t), some (rv p0), some (.int (J zz))]) rfl rfl rfl rfl (fun _ => xput1_rv rfl rfl) (fun x43 ex43 rx43 => ?_)
                    have w := w x43 ex43 rx43
                    refine r_goto (t := 285) rfl rfl ?_
                    exact ih39  x43 h42 t42 s42 rx43 (Nat.lt_of_lt_of_le w.2 (Nat.le_of_lt_succ q39)) w.1
              exact Q39 _  0 h35 t35 s35 (rgk rfl) (Nat.lt_succ_self _) w
            · have w := w.2 c49
              refine r_aldn (pc1 := 266) rfl rfl rfl ?_
              refine r_gfC (pc1 := 269) (q := (t + 13)) rfl rfl rfl t35 (HXk s35 c0 rfl) rfl rfl (lyr_9_15 t35 (HXk s35 c0 rfl)) ?_
              refine r_n (pc1 := 270) [.int (J x34), rv (t + 13)] _ rfl rfl ?_
              refine r_aldn (pc1 := 271) rfl rfl rfl ?_
              obtain ⟨c45, w⟩ := w
              refine r_gfC (pc1 := 274) (q := (p0 + 13)) rfl rfl rfl t35 c45 rfl rfl (lyr_9_15 t35 c45) ?_
              refine r_n (pc1 := 275) [.int (J x34), rv (p0 + 13), .int (J x34), rv (t + 13)] _ rfl rfl ?_
              obtain ⟨c46, w⟩ := w
              refine r_aal (pc1 := 276) (u := 3) rfl rfl t35 (lyo_9_15 t35 c45).1 rfl rfl rx34 c46.1 (lt_len (lyo_9_15 t35 c45).2 c46.2) ?_
              refine r_aast (pc1 := 277) (u := 3) rfl rfl t35 (lyo_9_15 t35 (HXk s35 c0 rfl)).1 (.inl rfl) ((te3 t35 (lyo_9_15 t35 c45).1).elim .inl (fun q => .inr (.inl ⟨rfl, q⟩))) rx34 c46.1 (lt_len (lyo_9_15 t35 (HXk s35 c0 rfl)).2 c46.2) (fun h47 eh47 t47 u47 => ?_)
              have w := w h47 eh47 t47 u47
              have s47 := HX_trans s35 u47
              refine r_inc (pc1 := 280) (g := fun zz => [some (rv t), some (rv p0), some (.int (J zz))]) rfl rfl rfl rfl (fun _ => xput1_rv rfl rfl) (fun x48 ex48 rx48 => ?_)
              have w := w x48 ex48 rx48
              refine r_goto (t := 259) rfl rfl ?_
              exact ih36  x48 h47 t47 s47 rx48 (Nat.lt_of_lt_of_le w.2 (Nat.le_of_lt_succ q36)) w.1
        exact Q36 _  0 h32 t32 s32 (rgk rfl) (Nat.lt_succ_self _) w
      · have w := w.2 c55
        refine r_aldn (pc1 := 228) rfl rfl rfl ?_
        refine r_gfC (pc1 := 231) (q := (t + 10)) rfl rfl rfl t32 (HXk s32 c0 rfl) rfl rfl (lyr_9_12 t32 (HXk s32 c0 rfl)) ?_
        refine r_n (pc1 := 232) [.int (J x31), rv (t + 10)] _ rfl rfl ?_
        refine r_aldn (pc1 := 233) rfl rfl rfl ?_
        obtain ⟨c50, w⟩ := w
        refine r_gfC (pc1 := 236) (q := (p0 + 10)) rfl rfl rfl t32 c50 rfl rfl (lyr_9_12 t32 c50) ?_
        refine r_n (pc1 := 237) [.int (J x31), rv (p0 + 10), .int (J x31), rv (t + 10)] _ rfl rfl ?_
        obtain ⟨c51, w⟩ := w
        refine r_aal (pc1 := 238) (u := 3) rfl rfl t32 (lyo_9_12 t32 c50).1 rfl rfl rx31 c51.1 (lt_len (lyo_9_12 t32 c50).2 c51.2) ?_
        refine r_aast (pc1 := 239) (u := 3) rfl rfl t32 (lyo_9_12 t32 (HXk s32 c0 rfl)).1 (.inl rfl) ((te3 t32 (lyo_9_12 t32 c50).1).elim .inl (fun q => .inr (.inl ⟨rfl, q⟩))) rx31 c51.1 (lt_len (lyo_9_12 t32 (HXk s32 c0 rfl)).2 c51.2) (fun h52 eh52 t52 u52 => ?_)
        have w := w h52 eh52 t52 u52
        have s52 := HX_trans s32 u52
        refine r_aldn (pc1 := 240) rfl rfl rfl ?_
        refine r_gfC (pc1 := 243) (q := (t + 11)) rfl rfl rfl t52 (HXk s52 c0 rfl) rfl rfl (lyr_9_13 t52 (HXk s52 c0 rfl)) ?_
        refine r_n (pc1 := 244) [.int (J x31), rv (t + 11)] _ rfl rfl ?_
        refine r_aldn (pc1 := 245) rfl rfl rfl ?_
        refine r_gfC (pc1 := 248) (q := (p0 + 11)) rfl rfl rfl t52 (HXk u52 c50 rfl) rfl rfl (lyr_9_13 t52 (HXk u52 c50 rfl)) ?_
        refine r_n (pc1 := 249) [.int (J x31), rv (p0 + 11), .int (J x31), rv (t + 11)] _ rfl rfl ?_
        refine r_bal (pc1 := 250) rfl rfl t52 (lyo_9_13 t52 (HXk u52 c50 rfl)).1 rx31 c51.1 (lt_len (lyo_9_13 t52 (HXk u52 c50 rfl)).2 c51.2) ?_
        refine r_bast (pc1 := 251) rfl rfl t52 (lyo_9_13 t52 (HXk s52 c0 rfl)).1 (te2 t52 (lyo_9_13 t52 (HXk u52 c50 rfl)).1) rx31 c51.1 (lt_len (lyo_9_13 t52 (HXk s52 c0 rfl)).2 c51.2) (fun h53 eh53 t53 u53 => ?_)
        have w := w h53 eh53 t53 u53
        have s53 := HX_trans s52 u53
        refine r_inc (pc1 := 254) (g := fun zz => [some (rv t), some (rv p0), some (.int (J zz))]) rfl rfl rfl rfl (fun _ => xput1_rv rfl rfl) (fun x54 ex54 rx54 => ?_)
        have w := w x54 ex54 rx54
        refine r_goto (t := 221) rfl rfl ?_
        exact ih33  x54 h53 t53 s53 rx54 (Nat.lt_of_lt_of_le w.2 (Nat.le_of_lt_succ q33)) w.1
  exact Q33 _  0 h30 t30 s30 (rgk rfl) (Nat.lt_succ_self _) w
def w_X6_tellFailure (t : Nat) (p0 : Int) (p1 : Int) (p2 : Int) (K : XH → Prop) (h : XH) : Prop :=
  (∀ h1 : XH, h1 = sI h t 9 p0 → HT h1 → HX h h1 → ∀ h2 : XH, h2 = sI h1 t 10 p1 → HT h2 → HX h1 h2 → ∀ h3 : XH, h3 = sI h2 t 11 p2 → HT h3 → HX h2 h3 → K h3)
set_option maxHeartbeats 4000000 in
theorem a_X6_tellFailure {sc : Nat × (Nat → Int32)} {goal : XO → XH → Prop} {fs : List XF} {h : XH} (t : Nat) (p0 : Int) (p1 : Int) (p2 : Int) {K : XH → Prop} (hd : fs.length + 0 ≤ 1000) (c0 : hk h t = 7) (rp0 : rg p0) (rp1 : rg p1) (rp2 : rg p2) (w : w_X6_tellFailure t p0 p1 p2 K h) (t0 : HT h) (k : ∀ (h1 : XH), HT h1 → HX h h1 → K h1 → XFin xP sc goal fs (.inl none) h1) : RR sc goal fs 420 0 [some (rv t), some (.int (J p0)), some (.int (J p1)), some (.int (J p2))] [] h := by
  unfold w_X6_tellFailure at w
  refine r_aldn (pc1 := 1) rfl rfl rfl ?_
  refine r_n (pc1 := 2) [.int (J p0), rv t] _ rfl rfl ?_
  refine r_pfI (pc1 := 5) rfl rfl rfl t0 (HXk (HX_refl h) c0 rfl) rfl rfl rfl (fun h1 eh1 t1 u1 => ?_)
  have w := w h1 eh1 t1 u1
  have s1 := HX_trans (HX_refl h) u1
  refine r_aldn (pc1 := 6) rfl rfl rfl ?_
  refine r_n (pc1 := 7) [.int (J p1), rv t] _ rfl rfl ?_
  refine r_pfI (pc1 := 10) rfl rfl rfl t1 (HXk s1 c0 rfl) rfl rfl rfl (fun h2 eh2 t2 u2 => ?_)
  have w := w h2 eh2 t2 u2
  have s2 := HX_trans s1 u2
  refine r_aldn (pc1 := 11) rfl rfl rfl ?_
  refine r_n (pc1 := 12) [.int (J p2), rv t] _ rfl rfl ?_
  refine r_pfI (pc1 := 15) rfl rfl rfl t2 (HXk s2 c0 rfl) rfl rfl rfl (fun h3 eh3 t3 u3 => ?_)
  have w := w h3 eh3 t3 u3
  have s3 := HX_trans s2 u3
  exact r_retV rfl rfl rfl (k _ t3 s3 w)
def w_X6_copyFrom (t : Nat) (p0 : Nat) (K : XH → Prop) (h : XH) : Prop :=
  (hk h p0 = 7 ∧ ∀ h2 : XH, h2 = sI h t 0 (hI h p0 0) → HT h2 → HX h h2 → (∃ (I5 : Int → XH → Prop) (m5 : Int → XH → Nat), I5 0 h2 ∧ ∀ (x3 : Int) (h4 : XH), HT h4 → HX h h4 → rg x3 → I5 x3 h4 → (((8 ≤ x3 → (hk h4 p0 = 7 ∧ ∀ h7 : XH, h7 = sI h4 t 2 (hI h4 p0 2) → HT h7 → HX h4 h7 → (∃ (I10 : Int → XH → Prop) (m10 : Int → XH → Nat), I10 0 h7 ∧ ∀ (x8 : Int) (h9 : XH), HT h9 → HX h h9 → rg x8 → I10 x8 h9 → (((12 ≤ x8 → (hk h9 p0 = 7 ∧ ∀ h12 : XH, h12 = sI h9 t 4 (hI h9 p0 4) → HT h12 → HX h9 h12 → ∀ h13 : XH, h13 = sL h12 t 5 (hL h12 p0 5) → HT h13 → HX h12 h13 → ∀ h14 : XH, h14 = sL h13 t 6 (hL h13 p0 6) → HT h14 → HX h13 h14 → ∀ h15 : XH, h15 = sI h14 t 7 (hI h14 p0 7) → HT h15 → HX h14 h15 → (¬ (p0 + 3) = (t + 3) ∧ (0 : Int) ≤ 0 ∧ (0 : Int) ≤ 0 ∧ (0 : Int) ≤ 20 ∧ ((0 + 20 : Int)) ≤ 20 ∧ ((0 + 20 : Int)) ≤ 20) ∧ ∀ h17 : XH, h17 = cA h15 (p0 + 3) 0 (t + 3) 0 20 → HT h17 → HX h15 h17 → w_X6_tellFailure t (hI h17 p0 9) (hI h17 p0 10) (hI h17 p0 11) (fun h18 => HT h18 → HX h17 h18 → (K h18)) h17)) ∧ (¬ (12 ≤ x8) → (hk h9 p0 = 7 ∧ (0 ≤ x8 ∧ x8 < 12) ∧ ∀ h21 : XH, h21 = sR h9 (t + 2) x8.toNat (hR h9 (p0 + 2) x8.toNat) → HT h21 → HX h9 h21 → ∀ x22 : Int, x22 = wr (x8 + 1) → rg x22 → (I10 x22 h21 ∧ m10 x22 h21 < m10 x8 h9)))))))) ∧ (¬ (8 ≤ x3) → (hk h4 p0 = 7 ∧ (0 ≤ x3 ∧ x3 < 8) ∧ ∀ h26 : XH, h26 = sR h4 (t + 1) x3.toNat (hR h4 (p0 + 1) x3.toNat) → HT h26 → HX h4 h26 → ∀ x27 : Int, x27 = wr (x3 + 1) → rg x27 → (I5 x27 h26 ∧ m5 x27 h26 < m5 x3 h4)))))))
set_option maxHeartbeats 4000000 in
theorem a_X6_copyFrom {sc : Nat × (Nat → Int32)} {goal : XO → XH → Prop} {fs : List XF} {h : XH} (t : Nat) (p0 : Nat) {K : XH → Prop} (hd : fs.length + 1 ≤ 1000) (c0 : hk h t = 7) (w : w_X6_copyFrom t p0 K h) (t0 : HT h) (k : ∀ (h1 : XH), HT h1 → HX h h1 → K h1 → XFin xP sc goal fs (.inl none) h1) : RR sc goal fs 414 0 [some (rv t), some (rv p0), none] [] h := by
  unfold w_X6_copyFrom at w
  refine r_aldn (pc1 := 1) rfl rfl rfl ?_
  refine r_aldn (pc1 := 2) rfl rfl rfl ?_
  obtain ⟨c1, w⟩ := w
  refine r_gfI (pc1 := 5) rfl rfl rfl t0 c1 rfl rfl ?_
  refine r_pfI (pc1 := 8) rfl rfl rfl t0 (HXk (HX_refl h) c0 rfl) rfl rfl rfl (fun h2 eh2 t2 u2 => ?_)
  have w := w h2 eh2 t2 u2
  have s2 := HX_trans (HX_refl h) u2
  refine r_n (pc1 := 9) [.int (J 0)] _ rfl rfl ?_
  refine r_istn (pc1 := 10) (ls1 := [some (rv t), some (rv p0), some (.int (J 0))]) rfl rfl rfl (xput1_rv rfl rfl) ?_
  obtain ⟨I5, m5, w, y5⟩ := w
  have Q5 : ∀ (n : Nat)  (x3 : Int) (h4 : XH), HT h4 → HX h h4 → rg x3 → m5 x3 h4 < n → I5 x3 h4 → RR sc goal fs 414 10 [some (rv t), some (rv p0), some (.int (J x3))] [] h4 := by
    intro n
    induction n with
    | zero => intro x3 h4 t4 s4 rx3 q5 _; exact absurd q5 (Nat.not_lt_zero _)
    | succ n ih5 =>
      intro x3 h4 t4 s4 rx3 q5 z5
      have w := y5 x3 h4 t4 s4 rx3 z5
      refine r_n (pc1 := 11) [.int (J x3)] _ rfl rfl ?_
      refine r_n (pc1 := 13) [.int (J 8), .int (J x3)] _ rfl rfl ?_
      refine r_ic (t := 34) (pc1 := 16) rfl rfl rfl rx3 (rgk rfl) (fun c28 => ?_) (fun c28 => ?_)
      · have w := w.1 c28
        refine r_aldn (pc1 := 35) rfl rfl rfl ?_
        refine r_aldn (pc1 := 36) rfl rfl rfl ?_
        obtain ⟨c6, w⟩ := w
        refine r_gfI (pc1 := 39) rfl rfl rfl t4 c6 rfl rfl ?_
        refine r_pfI (pc1 := 42) rfl rfl rfl t4 (HXk s4 c0 rfl) rfl rfl rfl (fun h7 eh7 t7 u7 => ?_)
        have w := w h7 eh7 t7 u7
        have s7 := HX_trans s4 u7
        refine r_n (pc1 := 43) [.int (J 0)] _ rfl rfl ?_
        refine r_istn (pc1 := 44) (ls1 := [some (rv t), some (rv p0), some (.int (J 0))]) rfl rfl rfl (xput1_rv rfl rfl) ?_
        obtain ⟨I10, m10, w, y10⟩ := w
        have Q10 : ∀ (n : Nat)  (x8 : Int) (h9 : XH), HT h9 → HX h h9 → rg x8 → m10 x8 h9 < n → I10 x8 h9 → RR sc goal fs 414 44 [some (rv t), some (rv p0), some (.int (J x8))] [] h9 := by
          intro n
          induction n with
          | zero => intro x8 h9 t9 s9 rx8 q10 _; exact absurd q10 (Nat.not_lt_zero _)
          | succ n ih10 =>
            intro x8 h9 t9 s9 rx8 q10 z10
            have w := y10 x8 h9 t9 s9 rx8 z10
            refine r_n (pc1 := 45) [.int (J x8)] _ rfl rfl ?_
            refine r_n (pc1 := 47) [.int (J 12), .int (J x8)] _ rfl rfl ?_
            refine r_ic (t := 68) (pc1 := 50) rfl rfl rfl rx8 (rgk rfl) (fun c23 => ?_) (fun c23 => ?_)
            · have w := w.1 c23
              refine r_aldn (pc1 := 69) rfl rfl rfl ?_
              refine r_aldn (pc1 := 70) rfl rfl rfl ?_
              obtain ⟨c11, w⟩ := w
              refine r_gfI (pc1 := 73) rfl rfl rfl t9 c11 rfl rfl ?_
              refine r_pfI (pc1 := 76) rfl rfl rfl t9 (HXk s9 c0 rfl) rfl rfl rfl (fun h12 eh12 t12 u12 => ?_)
              have w := w h12 eh12 t12 u12
              have s12 := HX_trans s9 u12
              refine r_aldn (pc1 := 77) rfl rfl rfl ?_
              refine r_aldn (pc1 := 78) rfl rfl rfl ?_
              refine r_gfL (pc1 := 81) rfl rfl rfl t12 (HXk u12 c11 rfl) rfl rfl ?_
              refine r_pfL (pc1 := 84) rfl rfl rfl t12 (HXk s12 c0 rfl) rfl rfl rfl (fun h13 eh13 t13 u13 => ?_)
              have w := w h13 eh13 t13 u13
              have s13 := HX_trans s12 u13
              refine r_aldn (pc1 := 85) rfl rfl rfl ?_
              refine r_aldn (pc1 := 86) rfl rfl rfl ?_
              refine r_gfL (pc1 := 89) rfl rfl rfl t13 (HXk u13 (HXk u12 c11 rfl) rfl) rfl rfl ?_
              refine r_pfL (pc1 := 92) rfl rfl rfl t13 (HXk s13 c0 rfl) rfl rfl rfl (fun h14 eh14 t14 u14 => ?_)
              have w := w h14 eh14 t14 u14
              have s14 := HX_trans s13 u14
              refine r_aldn (pc1 := 93) rfl rfl rfl ?_
              refine r_aldn (pc1 := 94) rfl rfl rfl ?_
              refine r_gfI (pc1 := 97) rfl rfl rfl t14 (HXk u14 (HXk u13 (HXk u12 c11 rfl) rfl) rfl) rfl rfl ?_
              refine r_pfI (pc1 := 100) rfl rfl rfl t14 (HXk s14 c0 rfl) rfl rfl rfl (fun h15 eh15 t15 u15 => ?_)
              have w := w h15 eh15 t15 u15
              have s15 := HX_trans s14 u15
              refine r_aldn (pc1 := 101) rfl rfl rfl ?_
              refine r_gfC (pc1 := 104) (q := (p0 + 3)) rfl rfl rfl t15 (HXk u15 (HXk u14 (HXk u13 (HXk u12 c11 rfl) rfl) rfl) rfl) rfl rfl (lyr_7_8 t15 (HXk u15 (HXk u14 (HXk u13 (HXk u12 c11 rfl) rfl) rfl) rfl)) ?_
              refine r_n (pc1 := 105) [.int (J 0), rv (p0 + 3)] _ rfl rfl ?_
              refine r_aldn (pc1 := 106) rfl rfl rfl ?_
              refine r_gfC (pc1 := 109) (q := (t + 3)) rfl rfl rfl t15 (HXk s15 c0 rfl) rfl rfl (lyr_7_8 t15 (HXk s15 c0 rfl)) ?_
              refine r_n (pc1 := 110) [.int (J 0), rv (t + 3), .int (J 0), rv (p0 + 3)] _ rfl rfl ?_
              refine r_n (pc1 := 112) [.int (J 20), .int (J 0), rv (t + 3), .int (J 0), rv (p0 + 3)] _ rfl rfl ?_
              obtain ⟨c16, w⟩ := w
              refine r_cp (pc1 := 115) (u := 1) rfl rfl rfl rfl t15 (lyo_7_8 t15 (HXk u15 (HXk u14 (HXk u13 (HXk u12 c11 rfl) rfl) rfl) rfl)).1 (lyo_7_8 t15 (HXk s15 c0 rfl)).1 (by decide) (rgk rfl) (rgk rfl) (rgk rfl) (lyo_7_8 t15 (HXk u15 (HXk u14 (HXk u13 (HXk u12 c11 rfl) rfl) rfl) rfl)).2 (lyo_7_8 t15 (HXk s15 c0 rfl)).2 c16 (fun h17 eh17 t17 u17 => ?_)
              have w := w h17 eh17 t17 u17
              have s17 := HX_trans s15 u17
              refine r_aldn (pc1 := 116) rfl rfl rfl ?_
              refine r_aldn (pc1 := 117) rfl rfl rfl ?_
              refine r_gfI (pc1 := 120) rfl rfl rfl t17 (HXk u17 (HXk u15 (HXk u14 (HXk u13 (HXk u12 c11 rfl) rfl) rfl) rfl) rfl) rfl rfl ?_
              refine r_aldn (pc1 := 121) rfl rfl rfl ?_
              refine r_gfI (pc1 := 124) rfl rfl rfl t17 (HXk u17 (HXk u15 (HXk u14 (HXk u13 (HXk u12 c11 rfl) rfl) rfl) rfl) rfl) rfl rfl ?_
              refine r_aldn (pc1 := 125) rfl rfl rfl ?_
              refine r_gfI (pc1 := 128) rfl rfl rfl t17 (HXk u17 (HXk u15 (HXk u14 (HXk u13 (HXk u12 c11 rfl) rfl) rfl) rfl) rfl) rfl rfl ?_
              refine r_iv rfl rfl rfl rfl rfl rfl t17 (HXk s17 c0 rfl) rfl (xe_of (xa_r (xa_i (xa_i (xa_i xa_0)))) rfl rfl) (r_d0 hd rfl) (a_X6_tellFailure t (hI h17 p0 9) (hI h17 p0 10) (hI h17 p0 11) (r_d1 hd rfl) (HXk s17 c0 rfl) (rgh _ _ _) (rgh _ _ _) (rgh _ _ _) w t17 (fun h18 t18 u18 w => ?_))
              refine r_fV (pc1 := 131) rfl ?_
              have s18 := HX_trans s17 u18
              have w := w t18 u18
              exact r_retV rfl rfl rfl (k _ t18 s18 w)
            · have w := w.2 c23
              refine r_aldn (pc1 := 51) rfl rfl rfl ?_
              refine r_gfC (pc1 := 54) (q := (t + 2)) rfl rfl rfl t9 (HXk s9 c0 rfl) rfl rfl (lyr_7_3 t9 (HXk s9 c0 rfl)) ?_
              refine r_n (pc1 := 55) [.int (J x8), rv (t + 2)] _ rfl rfl ?_
              refine r_aldn (pc1 := 56) rfl rfl rfl ?_
              obtain ⟨c19, w⟩ := w
              refine r_gfC (pc1 := 59) (q := (p0 + 2)) rfl rfl rfl t9 c19 rfl rfl (lyr_7_3 t9 c19) ?_
              refine r_n (pc1 := 60) [.int (J x8), rv (p0 + 2), .int (J x8), rv (t + 2)] _ rfl rfl ?_
              obtain ⟨c20, w⟩ := w
              refine r_aal (pc1 := 61) (u := 4) rfl rfl t9 (lyo_7_3 t9 c19).1 rfl rfl rx8 c20.1 (lt_len (lyo_7_3 t9 c19).2 c20.2) ?_
              refine r_aast (pc1 := 62) (u := 4) rfl rfl t9 (lyo_7_3 t9 (HXk s9 c0 rfl)).1 (.inr (.inl rfl)) ((te4 t9 (lyo_7_3 t9 c19).1).elim .inl (fun q => .inr (.inr (.inl ⟨rfl, q⟩)))) rx8 c20.1 (lt_len (lyo_7_3 t9 (HXk s9 c0 rfl)).2 c20.2) (fun h21 eh21 t21 u21 => ?_)
              have w := w h21 eh21 t21 u21
              have s21 := HX_trans s9 u21
              refine r_inc (pc1 := 65) (g := fun zz => [some (rv t), some (rv p0), some (.int (J zz))]) rfl rfl rfl rfl (fun _ => xput1_rv rfl rfl) (fun x22 ex22 rx22 => ?_)
              have w := w x22 ex22 rx22
              refine r_goto (t := 44) rfl rfl ?_
              exact ih10  x22 h21 t21 s21 rx22 (Nat.lt_of_lt_of_le w.2 (Nat.le_of_lt_succ q10)) w.1
        exact Q10 _  0 h7 t7 s7 (rgk rfl) (Nat.lt_succ_self _) w
      · have w := w.2 c28
        refine r_aldn (pc1 := 17) rfl rfl rfl ?_
        refine r_gfC (pc1 := 20) (q := (t + 1)) rfl rfl rfl t4 (HXk s4 c0 rfl) rfl rfl (lyr_7_1 t4 (HXk s4 c0 rfl)) ?_
        refine r_n (pc1 := 21) [.int (J x3), rv (t + 1)] _ rfl rfl ?_
        refine r_aldn (pc1 := 22) rfl rfl rfl ?_
        obtain ⟨c24, w⟩ := w
        refine r_gfC (pc1 := 25) (q := (p0 + 1)) rfl rfl rfl t4 c24 rfl rfl (lyr_7_1 t4 c24) ?_
        refine r_n (pc1 := 26) [.int (J x3), rv (p0 + 1), .int (J x3), rv (t + 1)] _ rfl rfl ?_
        obtain ⟨c25, w⟩ := w
        refine r_aal (pc1 := 27) (u := 3) rfl rfl t4 (lyo_7_1 t4 c24).1 rfl rfl rx3 c25.1 (lt_len (lyo_7_1 t4 c24).2 c25.2) ?_
        refine r_aast (pc1 := 28) (u := 3) rfl rfl t4 (lyo_7_1 t4 (HXk s4 c0 rfl)).1 (.inl rfl) ((te3 t4 (lyo_7_1 t4 c24).1).elim .inl (fun q => .inr (.inl ⟨rfl, q⟩))) rx3 c25.1 (lt_len (lyo_7_1 t4 (HXk s4 c0 rfl)).2 c25.2) (fun h26 eh26 t26 u26 => ?_)
        have w := w h26 eh26 t26 u26
        have s26 := HX_trans s4 u26
        refine r_inc (pc1 := 31) (g := fun zz => [some (rv t), some (rv p0), some (.int (J zz))]) rfl rfl rfl rfl (fun _ => xput1_rv rfl rfl) (fun x27 ex27 rx27 => ?_)
        have w := w x27 ex27 rx27
        refine r_goto (t := 10) rfl rfl ?_
        exact ih5  x27 h26 t26 s26 rx27 (Nat.lt_of_lt_of_le w.2 (Nat.le_of_lt_succ q5)) w.1
  exact Q5 _  0 h2 t2 s2 (rgk rfl) (Nat.lt_succ_self _) w
def w_X11_copyFrom (t : Nat) (p0 : Nat) (K : XH → Prop) (h : XH) : Prop :=
  (hk h p0 = 12 ∧ w_X8_copyFrom (t + 1) (p0 + 1) (fun h2 => HT h2 → HX h h2 → (w_X6_copyFrom (t + 19) (p0 + 19) (fun h3 => HT h3 → HX h2 h3 → (w_X6_copyFrom (t + 23) (p0 + 23) (fun h4 => HT h4 → HX h3 h4 → (w_X6_copyFrom (t + 27) (p0 + 27) (fun h5 => HT h5 → HX h4 h5 → (∀ h6 : XH, h6 = sI h5 t 4 (hI h5 p0 4) → HT h6 → HX h5 h6 → (¬ (p0 + 31) = (t + 31) ∧ (0 : Int) ≤ 0 ∧ (0 : Int) ≤ 0 ∧ (0 : Int) ≤ 3 ∧ ((0 + 3 : Int)) ≤ 3 ∧ ((0 + 3 : Int)) ≤ 3) ∧ ∀ h8 : XH, h8 = cA h6 (p0 + 31) 0 (t + 31) 0 3 → HT h8 → HX h6 h8 → ∀ h9 : XH, h9 = sI h8 t 6 (hI h8 p0 6) → HT h9 → HX h8 h9 → ∀ h10 : XH, h10 = sI h9 t 7 (hI h9 p0 7) → HT h10 → HX h9 h10 → (¬ (p0 + 32) = (t + 32) ∧ (0 : Int) ≤ 0 ∧ (0 : Int) ≤ 0 ∧ (0 : Int) ≤ 3 ∧ ((0 + 3 : Int)) ≤ 3 ∧ ((0 + 3 : Int)) ≤ 3) ∧ ∀ h12 : XH, h12 = cA h10 (p0 + 32) 0 (t + 32) 0 3 → HT h12 → HX h10 h12 → (¬ (p0 + 33) = (t + 33) ∧ (0 : Int) ≤ 0 ∧ (0 : Int) ≤ 0 ∧ (0 : Int) ≤ 3 ∧ ((0 + 3 : Int)) ≤ 3 ∧ ((0 + 3 : Int)) ≤ 3) ∧ ∀ h14 : XH, h14 = cA h12 (p0 + 33) 0 (t + 33) 0 3 → HT h14 → HX h12 h14 → (¬ (p0 + 34) = (t + 34) ∧ (0 : Int) ≤ 0 ∧ (0 : Int) ≤ 0 ∧ (0 : Int) ≤ 120 ∧ ((0 + 120 : Int)) ≤ 120 ∧ ((0 + 120 : Int)) ≤ 120) ∧ ∀ h16 : XH, h16 = cA h14 (p0 + 34) 0 (t + 34) 0 120 → HT h16 → HX h14 h16 → K h16)) h4)) h3)) h2)) h)
set_option maxHeartbeats 4000000 in
theorem a_X11_copyFrom {sc : Nat × (Nat → Int32)} {goal : XO → XH → Prop} {fs : List XF} {h : XH} (t : Nat) (p0 : Nat) {K : XH → Prop} (hd : fs.length + 2 ≤ 1000) (c0 : hk h t = 12) (w : w_X11_copyFrom t p0 K h) (t0 : HT h) (k : ∀ (h1 : XH), HT h1 → HX h h1 → K h1 → XFin xP sc goal fs (.inl none) h1) : RR sc goal fs 77 0 [some (rv t), some (rv p0)] [] h := by
  unfold w_X11_copyFrom at w
  refine r_aldn (pc1 := 1) rfl rfl rfl ?_
  refine r_gfC (pc1 := 4) (q := (t + 1)) rfl rfl rfl t0 (HXk (HX_refl h) c0 rfl) rfl rfl (lyr_12_0 t0 (HXk (HX_refl h) c0 rfl)) ?_
  refine r_aldn (pc1 := 5) rfl rfl rfl ?_
  obtain ⟨c1, w⟩ := w
  refine r_gfC (pc1 := 8) (q := (p0 + 1)) rfl rfl rfl t0 c1 rfl rfl (lyr_12_0 t0 c1) ?_
  refine r_iv rfl rfl rfl rfl rfl rfl t0 (lyo_12_0 t0 (HXk (HX_refl h) c0 rfl)).1 rfl (xe_of (xa_r (xa_r xa_0)) rfl rfl) (r_d0 hd rfl) (a_X8_copyFrom (t + 1) (p0 + 1) (r_d1 hd rfl) (lyo_12_0 t0 (HXk (HX_refl h) c0 rfl)).1  w t0 (fun h2 t2 u2 w => ?_))
  refine r_fV (pc1 := 11) rfl ?_
  have s2 := HX_trans (HX_refl h) u2
  have w := w t2 u2
  refine r_aldn (pc1 := 12) rfl rfl rfl ?_
  refine r_gfC (pc1 := 15) (q := (t + 19)) rfl rfl rfl t2 (HXk s2 c0 rfl) rfl rfl (lyr_12_1 t2 (HXk s2 c0 rfl)) ?_
  refine r_aldn (pc1 := 16) rfl rfl rfl ?_
  refine r_gfC (pc1 := 19) (q := (p0 + 19)) rfl rfl rfl t2 (HXk u2 c1 rfl) rfl rfl (lyr_12_1 t2 (HXk u2 c1 rfl)) ?_
  refine r_iv rfl rfl rfl rfl rfl rfl t2 (lyo_12_1 t2 (HXk s2 c0 rfl)).1 rfl (xe_of (xa_r (xa_r xa_0)) rfl rfl) (r_d0 hd rfl) (a_X6_copyFrom (t + 19) (p0 + 19) (r_d1 hd rfl) (lyo_12_1 t2 (HXk s2 c0 rfl)).1  w t2 (fun h3 t3 u3 w => ?_))
  refine r_fV (pc1 := 22) rfl ?_
  have s3 := HX_trans s2 u3
  have w := w t3 u3
  refine r_aldn (pc1 := 23) rfl rfl rfl ?_
  refine r_gfC (pc1 := 26) (q := (t + 23)) rfl rfl rfl t3 (HXk s3 c0 rfl) rfl rfl (lyr_12_2 t3 (HXk s3 c0 rfl)) ?_
  refine r_aldn (pc1 := 27) rfl rfl rfl ?_
  refine r_gfC (pc1 := 30) (q := (p0 + 23)) rfl rfl rfl t3 (HXk u3 (HXk u2 c1 rfl) rfl) rfl rfl (lyr_12_2 t3 (HXk u3 (HXk u2 c1 rfl) rfl)) ?_
  refine r_iv rfl rfl rfl rfl rfl rfl t3 (lyo_12_2 t3 (HXk s3 c0 rfl)).1 rfl (xe_of (xa_r (xa_r xa_0)) rfl rfl) (r_d0 hd rfl) (a_X6_copyFrom (t + 23) (p0 + 23) (r_d1 hd rfl) (lyo_12_2 t3 (HXk s3 c0 rfl)).1  w t3 (fun h4 t4 u4 w => ?_))
  refine r_fV (pc1 := 33) rfl ?_
  have s4 := HX_trans s3 u4
  have w := w t4 u4
  refine r_aldn (pc1 := 34) rfl rfl rfl ?_
  refine r_gfC (pc1 := 37) (q := (t + 27)) rfl rfl rfl t4 (HXk s4 c0 rfl) rfl rfl (lyr_12_3 t4 (HXk s4 c0 rfl)) ?_
  refine r_aldn (pc1 := 38) rfl rfl rfl ?_
  refine r_gfC (pc1 := 41) (q := (p0 + 27)) rfl rfl rfl t4 (HXk u4 (HXk u3 (HXk u2 c1 rfl) rfl) rfl) rfl rfl (lyr_12_3 t4 (HXk u4 (HXk u3 (HXk u2 c1 rfl) rfl) rfl)) ?_
  refine r_iv rfl rfl rfl rfl rfl rfl t4 (lyo_12_3 t4 (HXk s4 c0 rfl)).1 rfl (xe_of (xa_r (xa_r xa_0)) rfl rfl) (r_d0 hd rfl) (a_X6_copyFrom (t + 27) (p0 + 27) (r_d1 hd rfl) (lyo_12_3 t4 (HXk s4 c0 rfl)).1  w t4 (fun h5 t5 u5 w => ?_))
  refine r_fV (pc1 := 44) rfl ?_
  have s5 := HX_trans s4 u5
  have w := w t5 u5
  refine r_aldn (pc1 := 45) rfl rfl rfl ?_
  refine r_aldn (pc1 := 46) rfl rfl rfl ?_
  refine r_gfI (pc1 := 49) rfl rfl rfl t5 (HXk u5 (HXk u4 (HXk u3 (HXk u2 c1 rfl) rfl) rfl) rfl) rfl rfl ?_
  refine r_pfI (pc1 := 52) rfl rfl rfl t5 (HXk s5 c0 rfl) rfl rfl rfl (fun h6 eh6 t6 u6 => ?_)
  have w := w h6 eh6 t6 u6
  have s6 := HX_trans s5 u6
  refine r_aldn (pc1 := 53) rfl rfl rfl ?_
  refine r_gfC (pc1 := 56) (q := (p0 + 31)) rfl rfl rfl t6 (HXk u6 (HXk u5 (HXk u4 (HXk u3 (HXk u2 c1 rfl) rfl) rfl) rfl) rfl) rfl rfl (lyr_12_5 t6 (HXk u6 (HXk u5 (HXk u4 (HXk u3 (HXk u2 c1 rfl) rfl) rfl) rfl) rfl)) ?_
  refine r_n (pc1 := 57) [.int (J 0), rv (p0 + 31)] _ rfl rfl ?_
  refine r_aldn (pc1 := 58) rfl rfl rfl ?_
  refine r_gfC (pc1 := 61) (q := (t + 31)) rfl rfl rfl t6 (HXk s6 c0 rfl) rfl rfl (lyr_12_5 t6 (HXk s6 c0 rfl)) ?_
  refine r_n (pc1 := 62) [.int (J 0), rv (t + 31), .int (J 0), rv (p0 + 31)] _ rfl rfl ?_
  refine r_n (pc1 := 63) [.int (J 3), .int (J 0), rv (t + 31), .int (J 0), rv (p0 + 31)] _ rfl rfl ?_
  obtain ⟨c7, w⟩ := w
  refine r_cp (pc1 := 66) (u := 1) rfl rfl rfl rfl t6 (lyo_12_5 t6 (HXk u6 (HXk u5 (HXk u4 (HXk u3 (HXk u2 c1 rfl) rfl) rfl) rfl) rfl)).1 (lyo_12_5 t6 (HXk s6 c0 rfl)).1 (by decide) (rgk rfl) (rgk rfl) (rgk rfl) (lyo_12_5 t6 (HXk u6 (HXk u5 (HXk u4 (HXk u3 (HXk u2 c1 rfl) rfl) rfl) rfl) rfl)).2 (lyo_12_5 t6 (HXk s6 c0 rfl)).2 c7 (fun h8 eh8 t8 u8 => ?_)
  have w := w h8 eh8 t8 u8
  have s8 := HX_trans s6 u8
  refine r_aldn (pc1 := 67) rfl rfl rfl ?_
  refine r_aldn (pc1 := 68) rfl rfl rfl ?_
  refine r_gfI (pc1 := 71) rfl rfl rfl t8 (HXk u8 (HXk u6 (HXk u5 (HXk u4 (HXk u3 (HXk u2 c1 rfl) rfl) rfl) rfl) rfl) rfl) rfl rfl ?_
  refine r_pfI (pc1 := 74) rfl rfl rfl t8 (HXk s8 c0 rfl) rfl rfl rfl (fun h9 eh9 t9 u9 => ?_)
  have w := w h9 eh9 t9 u9
  have s9 := HX_trans s8 u9
  refine r_aldn (pc1 := 75) rfl rfl rfl ?_
  refine r_aldn (pc1 := 76) rfl rfl rfl ?_
  refine r_gfI (pc1 := 79) rfl rfl rfl t9 (HXk u9 (HXk u8 (HXk u6 (HXk u5 (HXk u4 (HXk u3 (HXk u2 c1 rfl) rfl) rfl) rfl) rfl) rfl) rfl) rfl rfl ?_
  refine r_pfI (pc1 := 82) rfl rfl rfl t9 (HXk s9 c0 rfl) rfl rfl rfl (fun h10 eh10 t10 u10 => ?_)
  have w := w h10 eh10 t10 u10
  have s10 := HX_trans s9 u10
  refine r_aldn (pc1 := 83) rfl rfl rfl ?_
  refine r_gfC (pc1 := 86) (q := (p0 + 32)) rfl rfl rfl t10 (HXk u10 (HXk u9 (HXk u8 (HXk u6 (HXk u5 (HXk u4 (HXk u3 (HXk u2 c1 rfl) rfl) rfl) rfl) rfl) rfl) rfl) rfl) rfl rfl (lyr_12_8 t10 (HXk u10 (HXk u9 (HXk u8 (HXk u6 (HXk u5 (HXk u4 (HXk u3 (HXk u2 c1 rfl) rfl) rfl) rfl) rfl) rfl) rfl) rfl)) ?_
  refine r_n (pc1 := 87) [.int (J 0), rv (p0 + 32)] _ rfl rfl ?_
  refine r_aldn (pc1 := 88) rfl rfl rfl ?_
  refine r_gfC (pc1 := 91) (q := (t + 32)) rfl rfl rfl t10 (HXk s10 c0 rfl) rfl rfl (lyr_12_8 t10 (HXk s10 c0 rfl)) ?_
  refine r_n (pc1 := 92) [.int (J 0), rv (t + 32), .int (J 0), rv (p0 + 32)] _ rfl rfl ?_
  refine r_n (pc1 := 93) [.int (J 3), .int (J 0), rv (t + 32), .int (J 0), rv (p0 + 32)] _ rfl rfl ?_
  obtain ⟨c11, w⟩ := w
  refine r_cp (pc1 := 96) (u := 0) rfl rfl rfl rfl t10 (lyo_12_8 t10 (HXk u10 (HXk u9 (HXk u8 (HXk u6 (HXk u5 (HXk u4 (HXk u3 (HXk u2 c1 rfl) rfl) rfl) rfl) rfl) rfl) rfl) rfl)).1 (lyo_12_8 t10 (HXk s10 c0 rfl)).1 (by decide) (rgk rfl) (rgk rfl) (rgk rfl) (lyo_12_8 t10 (HXk u10 (HXk u9 (HXk u8 (HXk u6 (HXk u5 (HXk u4 (HXk u3 (HXk u2 c1 rfl) rfl) rfl) rfl) rfl) rfl) rfl) rfl)).2 (lyo_12_8 t10 (HXk s10 c0 rfl)).2 c11 (fun h12 eh12 t12 u12 => ?_)
  have w := w h12 eh12 t12 u12
  have s12 := HX_trans s10 u12
  refine r_aldn (pc1 := 97) rfl rfl rfl ?_
  refine r_gfC (pc1 := 100) (q := (p0 + 33)) rfl rfl rfl t12 (HXk u12 (HXk u10 (HXk u9 (HXk u8 (HXk u6 (HXk u5 (HXk u4 (HXk u3 (HXk u2 c1 rfl) rfl) rfl) rfl) rfl) rfl) rfl) rfl) rfl) rfl rfl (lyr_12_9 t12 (HXk u12 (HXk u10 (HXk u9 (HXk u8 (HXk u6 (HXk u5 (HXk u4 (HXk u3 (HXk u2 c1 rfl) rfl) rfl) rfl) rfl) rfl) rfl) rfl) rfl)) ?_
  refine r_n (pc1 := 101) [.int (J 0), rv (p0 + 33)] _ rfl rfl ?_
  refine r_aldn (pc1 := 102) rfl rfl rfl ?_
  refine r_gfC (pc1 := 105) (q := (t + 33)) rfl rfl rfl t12 (HXk s12 c0 rfl) rfl rfl (lyr_12_9 t12 (HXk s12 c0 rfl)) ?_
  refine r_n (pc1 := 106) [.int (J 0), rv (t + 33), .int (J 0), rv (p0 + 33)] _ rfl rfl ?_
  refine r_n (pc1 := 107) [.int (J 3), .int (J 0), rv (t + 33), .int (J 0), rv (p0 + 33)] _ rfl rfl ?_
  obtain ⟨c13, w⟩ := w
  refine r_cp (pc1 := 110) (u := 1) rfl rfl rfl rfl t12 (lyo_12_9 t12 (HXk u12 (HXk u10 (HXk u9 (HXk u8 (HXk u6 (HXk u5 (HXk u4 (HXk u3 (HXk u2 c1 rfl) rfl) rfl) rfl) rfl) rfl) rfl) rfl) rfl)).1 (lyo_12_9 t12 (HXk s12 c0 rfl)).1 (by decide) (rgk rfl) (rgk rfl) (rgk rfl) (lyo_12_9 t12 (HXk u12 (HXk u10 (HXk u9 (HXk u8 (HXk u6 (HXk u5 (HXk u4 (HXk u3 (HXk u2 c1 rfl) rfl) rfl) rfl) rfl) rfl) rfl) rfl) rfl)).2 (lyo_12_9 t12 (HXk s12 c0 rfl)).2 c13 (fun h14 eh14 t14 u14 => ?_)
  have w := w h14 eh14 t14 u14
  have s14 := HX_trans s12 u14
  refine r_aldn (pc1 := 111) rfl rfl rfl ?_
  refine r_gfC (pc1 := 114) (q := (p0 + 34)) rfl rfl rfl t14 (HXk u14 (HXk u12 (HXk u10 (HXk u9 (HXk u8 (HXk u6 (HXk u5 (HXk u4 (HXk u3 (HXk u2 c1 rfl) rfl) rfl) rfl) rfl) rfl) rfl) rfl) rfl) rfl) rfl rfl (lyr_12_10 t14 (HXk u14 (HXk u12 (HXk u10 (HXk u9 (HXk u8 (HXk u6 (HXk u5 (HXk u4 (HXk u3 (HXk u2 c1 rfl) rfl) rfl) rfl) rfl) rfl) rfl) rfl) rfl) rfl)) ?_
  refine r_n (pc1 := 115) [.int (J 0), rv (p0 + 34)] _ rfl rfl ?_
  refine r_aldn (pc1 := 116) rfl rfl rfl ?_
  refine r_gfC (pc1 := 119) (q := (t + 34)) rfl rfl rfl t14 (HXk s14 c0 rfl) rfl rfl (lyr_12_10 t14 (HXk s14 c0 rfl)) ?_
  refine r_n (pc1 := 120) [.int (J 0), rv (t + 34), .int (J 0), rv (p0 + 34)] _ rfl rfl ?_
  refine r_n (pc1 := 122) [.int (J 120), .int (J 0), rv (t + 34), .int (J 0), rv (p0 + 34)] _ rfl rfl ?_
  obtain ⟨c15, w⟩ := w
  refine r_cp (pc1 := 125) (u := 0) rfl rfl rfl rfl t14 (lyo_12_10 t14 (HXk u14 (HXk u12 (HXk u10 (HXk u9 (HXk u8 (HXk u6 (HXk u5 (HXk u4 (HXk u3 (HXk u2 c1 rfl) rfl) rfl) rfl) rfl) rfl) rfl) rfl) rfl) rfl)).1 (lyo_12_10 t14 (HXk s14 c0 rfl)).1 (by decide) (rgk rfl) (rgk rfl) (rgk rfl) (lyo_12_10 t14 (HXk u14 (HXk u12 (HXk u10 (HXk u9 (HXk u8 (HXk u6 (HXk u5 (HXk u4 (HXk u3 (HXk u2 c1 rfl) rfl) rfl) rfl) rfl) rfl) rfl) rfl) rfl) rfl)).2 (lyo_12_10 t14 (HXk s14 c0 rfl)).2 c15 (fun h16 eh16 t16 u16 => ?_)
  have w := w h16 eh16 t16 u16
  have s16 := HX_trans s14 u16
  exact r_retV rfl rfl rfl (k _ t16 s16 w)
def w_X12_remember  (K : XH → Prop) (h : XH) : Prop :=
  (∀ h1 : XH, h1 = sI h 2 11 0 → HT h1 → HX h h1 → ∀ x2 : Int, x2 = irem (wr ((hI h1 2 9) + (hI h1 2 10))) 10 → rg x2 → ∃ J4 : XH → Prop, (∀ (h3 : XH), HT h3 → HX h h3 → J4 h3 → (∃ J6 : XH → Prop, (∀ (h5 : XH), HT h5 → HX h h5 → J6 h5 → (K h5)) ∧ ((x2 < 0 → J6 h3) ∧ (¬ (x2 < 0) → (w_Jx4a65c_size_8abf5 (fun x7 => rg x7 → (((x7 ≤ x2 → J6 h3) ∧ (¬ (x7 ≤ x2) → (w_Jx4a65c_get_915e3 x2 (fun a8 => (hk h3 a8 = 12 ∧ w_X11_copyFrom a8 8 (fun h10 => HT h10 → HX h3 h10 → J6 h10) h3)) h3))))) h3))))) ∧ ((10 ≤ hI h1 2 10 → (∀ h13 : XH, h13 = sI h1 2 9 (irem (wr ((hI h1 2 9) + 1)) 10) → HT h13 → HX h1 h13 → J4 h13)) ∧ (¬ (10 ≤ hI h1 2 10) → (∀ h14 : XH, h14 = sI h1 2 10 (wr ((hI h1 2 10) + 1)) → HT h14 → HX h1 h14 → J4 h14))))
set_option maxHeartbeats 4000000 in
theorem a_X12_remember {sc : Nat × (Nat → Int32)} {goal : XO → XH → Prop} {fs : List XF} {h : XH}  {K : XH → Prop} (hd : fs.length + 3 ≤ 1000) (w : w_X12_remember  K h) (t0 : HT h) (k : ∀ (h1 : XH), HT h1 → HX h h1 → K h1 → XFin xP sc goal fs (.inl none) h1) : RR sc goal fs 145 0 [some (rv 2), none] [] h := by
  unfold w_X12_remember at w
  refine r_aldn (pc1 := 1) rfl rfl rfl ?_
  refine r_n (pc1 := 2) [.int (J 0), rv 2] _ rfl rfl ?_
  refine r_pfI (pc1 := 5) rfl rfl rfl t0 (lyk t0 rfl) rfl rfl rfl (fun h1 eh1 t1 u1 => ?_)
  have w := w h1 eh1 t1 u1
  have s1 := HX_trans (HX_refl h) u1
  refine r_aldn (pc1 := 6) rfl rfl rfl ?_
  refine r_gfI (pc1 := 9) rfl rfl rfl t1 (lyk t1 rfl) rfl rfl ?_
  refine r_aldn (pc1 := 10) rfl rfl rfl ?_
  refine r_gfI (pc1 := 13) rfl rfl rfl t1 (lyk t1 rfl) rfl rfl ?_
  refine r_iadd (pc1 := 14) rfl rfl ?_
  refine r_n (pc1 := 16) [.int (J 10), .int (J (wr ((hI h1 2 9) + (hI h1 2 10))))] _ rfl rfl ?_
  refine r_irem (pc1 := 17) rfl rfl (rgk rfl) (by decide) ?_
  refine r_vI (rgt _) (fun x2 ex2 rx2 => ?_)
  have w := w x2 ex2 rx2
  refine r_istn (pc1 := 18) (ls1 := [some (rv 2), some (.int (J x2))]) rfl rfl rfl rfl ?_
  refine r_aldn (pc1 := 19) rfl rfl rfl ?_
  refine r_gfI (pc1 := 22) rfl rfl rfl t1 (lyk t1 rfl) rfl rfl ?_
  refine r_n (pc1 := 24) [.int (J 10), .int (J (hI h1 2 10))] _ rfl rfl ?_
  obtain ⟨J4, j4, w⟩ := w
  have Q4 : ∀ (h3 : XH), HT h3 → HX h h3 → J4 h3 → RR sc goal fs 145 53 [some (rv 2), some (.int (J x2))] [] h3 := by
    intro h3 t3 s3 z4
    have w := j4 h3 t3 s3 z4
    refine r_n (pc1 := 54) [.int (J x2)] _ rfl rfl ?_
    obtain ⟨J6, j6, w⟩ := w
    have Q6 : ∀ (h5 : XH), HT h5 → HX h h5 → J6 h5 → RR sc goal fs 145 86 [some (rv 2), some (.int (J x2))] [] h5 := by
      intro h5 t5 s5 z6
      have w := j6 h5 t5 s5 z6
      exact r_retV rfl rfl rfl (k _ t5 s5 w)
    refine r_iz (t := 86) (pc1 := 57) rfl rfl rfl rx2 (fun c12 => ?_) (fun c12 => ?_)
    · have w := w.1 c12
      exact Q6   h3 t3 s3  w
    · have w := w.2 c12
      refine r_n (pc1 := 58) [.int (J x2)] _ rfl rfl ?_
      refine r_aldn (pc1 := 59) rfl rfl rfl ?_
      refine r_gfC (pc1 := 62) (q := 43) rfl rfl rfl t3 (lyk t3 rfl) rfl rfl (lyR t3 rfl rfl) ?_
      refine r_iv rfl rfl rfl rfl rfl rfl t3 (lyk t3 rfl) rfl (xe_of (xa_r xa_0) rfl rfl) (r_d0 hd rfl) (a_Jx4a65c_size_8abf5  (r_d1 hd rfl)  w t3 (fun x7 rx7 w => ?_))
      refine r_fI (pc1 := 65) rfl ?_
      have w := w rx7
      refine r_ic (t := 86) (pc1 := 68) rfl rfl rfl rx2 rx7 (fun c11 => ?_) (fun c11 => ?_)
      · have w := w.1 c11
        exact Q6   h3 t3 s3  w
      · have w := w.2 c11
        refine r_aldn (pc1 := 69) rfl rfl rfl ?_
        refine r_gfC (pc1 := 72) (q := 43) rfl rfl rfl t3 (lyk t3 rfl) rfl rfl (lyR t3 rfl rfl) ?_
        refine r_n (pc1 := 73) [.int (J x2), rv 43] _ rfl rfl ?_
        refine r_iv rfl rfl rfl rfl rfl rfl t3 (lyk t3 rfl) rfl (xe_of (xa_r (xa_i xa_0)) rfl rfl) (r_d0 hd rfl) (a_Jx4a65c_get_915e3 x2 (r_d1 hd rfl) rx2 w t3 (fun a8 w => ?_))
        refine r_fR (pc1 := 76) rfl ?_
        obtain ⟨c9, w⟩ := w
        refine r_cast (pc1 := 79) rfl rfl rfl t3 c9 rfl ?_
        refine r_aldn (pc1 := 80) rfl rfl rfl ?_
        refine r_gfC (pc1 := 83) (q := 8) rfl rfl rfl t3 (lyk t3 rfl) rfl rfl (lyR t3 rfl rfl) ?_
        refine r_iv rfl rfl rfl rfl rfl rfl t3 c9 rfl (xe_of (xa_r (xa_r xa_0)) rfl rfl) (r_d0 hd rfl) (a_X11_copyFrom a8 8 (r_d1 hd rfl) c9  w t3 (fun h10 t10 u10 w => ?_))
        refine r_fV (pc1 := 86) rfl ?_
        have s10 := HX_trans s3 u10
        have w := w t10 u10
        exact Q6   h10 t10 s10  w
  refine r_ic (t := 40) (pc1 := 27) rfl rfl rfl (rgh _ _ _) (rgk rfl) (fun c15 => ?_) (fun c15 => ?_)
  · have w := w.1 c15
    refine r_aldn (pc1 := 41) rfl rfl rfl ?_
    refine r_aldn (pc1 := 42) rfl rfl rfl ?_
    refine r_gfI (pc1 := 45) rfl rfl rfl t1 (lyk t1 rfl) rfl rfl ?_
    refine r_n (pc1 := 46) [.int (J 1), .int (J (hI h1 2 9)), rv 2] _ rfl rfl ?_
    refine r_iadd (pc1 := 47) rfl rfl ?_
    refine r_n (pc1 := 49) [.int (J 10), .int (J (wr ((hI h1 2 9) + 1))), rv 2] _ rfl rfl ?_
    refine r_irem (pc1 := 50) rfl rfl (rgk rfl) (by decide) ?_
    refine r_pfI (pc1 := 53) rfl rfl rfl t1 (lyk t1 rfl) rfl rfl rfl (fun h13 eh13 t13 u13 => ?_)
    have w := w h13 eh13 t13 u13
    have s13 := HX_trans s1 u13
    exact Q4   h13 t13 s13  w
  · have w := w.2 c15
    refine r_aldn (pc1 := 28) rfl rfl rfl ?_
    refine r_dupR (pc1 := 29) rfl rfl ?_
    refine r_gfI (pc1 := 32) rfl rfl rfl t1 (lyk t1 rfl) rfl rfl ?_
    refine r_n (pc1 := 33) [.int (J 1), .int (J (hI h1 2 10)), rv 2] _ rfl rfl ?_
    refine r_iadd (pc1 := 34) rfl rfl ?_
    refine r_pfI (pc1 := 37) rfl rfl rfl t1 (lyk t1 rfl) rfl rfl rfl (fun h14 eh14 t14 u14 => ?_)
    have w := w h14 eh14 t14 u14
    have s14 := HX_trans s1 u14
    refine r_goto (t := 53) rfl rfl ?_
    exact Q4   h14 t14 s14  w
def w_X6_entryAt (t : Nat) (p0 : Int) (K : BitVec 64 → Prop) (h : XH) : Prop :=
  (w_J9_floorMod_7cf53 p0 20 (fun x1 => rg x1 → ((0 ≤ x1 ∧ x1 < 20) ∧ K (hL h (t + 3) x1.toNat))) h)
set_option maxHeartbeats 4000000 in
theorem a_X6_entryAt {sc : Nat × (Nat → Int32)} {goal : XO → XH → Prop} {fs : List XF} {h : XH} (t : Nat) (p0 : Int) {K : BitVec 64 → Prop} (hd : fs.length + 1 ≤ 1000) (c0 : hk h t = 7) (rp0 : rg p0) (w : w_X6_entryAt t p0 K h) (t0 : HT h) (k : ∀ (r : BitVec 64), K r → XFin xP sc goal fs (.inl (some (.long (G r)))) h) : RR sc goal fs 415 0 [some (rv t), some (.int (J p0))] [] h := by
  unfold w_X6_entryAt at w
  refine r_aldn (pc1 := 1) rfl rfl rfl ?_
  refine r_gfC (pc1 := 4) (q := (t + 3)) rfl rfl rfl t0 (HXk (HX_refl h) c0 rfl) rfl rfl (lyr_7_8 t0 (HXk (HX_refl h) c0 rfl)) ?_
  refine r_n (pc1 := 5) [.int (J p0), rv (t + 3)] _ rfl rfl ?_
  refine r_n (pc1 := 7) [.int (J 20), .int (J p0), rv (t + 3)] _ rfl rfl ?_
  refine r_iq rfl rfl rfl rfl rfl rfl (xe_of (xa_i (xa_i xa_0)) rfl rfl) (r_d0 hd rfl) (a_J9_floorMod_7cf53 p0 20 (r_d1 hd rfl) rp0 (rgk rfl) w t0 (fun x1 rx1 w => ?_))
  refine r_fI (pc1 := 10) rfl ?_
  have w := w rx1
  obtain ⟨c2, w⟩ := w
  refine r_lal (pc1 := 11) rfl rfl t0 (lyo_7_8 t0 (HXk (HX_refl h) c0 rfl)).1 rx1 c2.1 (lt_len (lyo_7_8 t0 (HXk (HX_refl h) c0 rfl)).2 c2.2) ?_
  exact r_retL rfl rfl rfl (k _ w)
