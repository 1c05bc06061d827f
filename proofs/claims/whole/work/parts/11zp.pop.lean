/-! COUNTING BITS -/
def rep (m : Nat) : Nat → Nat
  | 0 => 0
  | n + 1 => m + 256 * rep m n
theorem and_lane {a m M : Nat} (hm : m < 256) : a &&& (m + 256 * M) = (a % 256 &&& m) + 256 * (a / 256 &&& M) := by
  have h1 := Nat.and_mod_two_pow (a := a) (b := m + 256 * M) (n := 8)
  have h2 := Nat.and_div_two_pow (a := a) (b := m + 256 * M) (n := 8)
  rw [show (2 : Nat) ^ 8 = 256 by decide, show (m + 256 * M) % 256 = m by omega] at h1
  rw [show (2 : Nat) ^ 8 = 256 by decide, show (m + 256 * M) / 256 = M by omega] at h2
  omega
def s1_ (n x : Nat) : Nat := x - (x / 2 &&& rep 85 n)
def s2_ (n x : Nat) : Nat := (x &&& rep 51 n) + (x / 4 &&& rep 51 n)
def s3_ (n x : Nat) : Nat := (x + x / 16) &&& rep 15 n
def bc (y : Nat) : Nat := cntN 8 y.testBit
def t1_ (y : Nat) : Nat := y - (y / 2 &&& 85)
def t2_ (y : Nat) : Nat := (y &&& 51) + (y / 4 &&& 51)
def t3_ (y : Nat) : Nat := (y + y / 16) &&& 15
theorem byte1 {y : Nat} (h : y < 256) : t3_ (t2_ (t1_ y)) = bc y ∧ (y / 2 &&& 85) ≤ y ∧ t2_ (t1_ y) ≤ 68 ∧ t2_ (t1_ y) % 16 ≤ 4 ∧ bc y ≤ 8 ∧ t1_ y < 256 := by
  have : ∀ m : Fin 256, t3_ (t2_ (t1_ m.1)) = bc m.1 ∧ (m.1 / 2 &&& 85) ≤ m.1 ∧ t2_ (t1_ m.1) ≤ 68 ∧ t2_ (t1_ m.1) % 16 ≤ 4 ∧ bc m.1 ≤ 8 ∧ t1_ m.1 < 256 := by decide +kernel
  exact this ⟨y, h⟩
theorem byte2 {y b : Nat} (h : y < 256) (hb : b < 4) : (y / 2 + 128 * (b % 2) &&& 85) = (y / 2 &&& 85) ∧ (y / 4 + 64 * b &&& 51) = (y / 4 &&& 51) := by
  have : ∀ m : Fin 256, ∀ k : Fin 4, (m.1 / 2 + 128 * (k.1 % 2) &&& 85) = (m.1 / 2 &&& 85) ∧ (m.1 / 4 + 64 * k.1 &&& 51) = (m.1 / 4 &&& 51) := by decide +kernel
  exact this ⟨y, h⟩ ⟨b, hb⟩
theorem byte3 {y b : Nat} (h : y < 69) (hb : b < 5) : (y + y / 16 + 16 * b &&& 15) = t3_ y := by
  have : ∀ m : Fin 69, ∀ k : Fin 5, (m.1 + m.1 / 16 + 16 * k.1 &&& 15) = t3_ m.1 := by decide +kernel
  exact this ⟨y, h⟩ ⟨b, hb⟩
theorem s1_st {n y z : Nat} (h : y < 256) : s1_ (n + 1) (y + 256 * z) = t1_ y + 256 * s1_ n z := by
  unfold s1_ t1_
  show y + 256 * z - ((y + 256 * z) / 2 &&& (85 + 256 * rep 85 n)) = _
  rw [and_lane (by decide), show (y + 256 * z) / 2 % 256 = y / 2 + 128 * (z % 4 % 2) by omega, show (y + 256 * z) / 2 / 256 = z / 2 by omega, (byte2 h (b := z % 4) (by omega)).1]
  have := (byte1 h).2.1
  have : (z / 2 &&& rep 85 n) ≤ z / 2 := Nat.and_le_left
  omega
theorem s2_st {n y z : Nat} (h : y < 256) : s2_ (n + 1) (y + 256 * z) = t2_ y + 256 * s2_ n z := by
  unfold s2_ t2_
  show ((y + 256 * z) &&& (51 + 256 * rep 51 n)) + ((y + 256 * z) / 4 &&& (51 + 256 * rep 51 n)) = _
  rw [and_lane (by decide), and_lane (by decide), show (y + 256 * z) / 4 % 256 = y / 4 + 64 * (z % 4) by omega, show (y + 256 * z) / 4 / 256 = z / 4 by omega, show (y + 256 * z) % 256 = y by omega, show (y + 256 * z) / 256 = z by omega, (byte2 h (b := z % 4) (by omega)).2]
  omega
theorem s3_st {n y z : Nat} (h : y ≤ 68) (hz : z % 16 ≤ 4) : s3_ (n + 1) (y + 256 * z) = t3_ y + 256 * s3_ n z := by
  unfold s3_
  show ((y + 256 * z) + (y + 256 * z) / 16 &&& (15 + 256 * rep 15 n)) = _
  rw [and_lane (by decide), show ((y + 256 * z) + (y + 256 * z) / 16) % 256 = y + y / 16 + 16 * (z % 16) by omega, show ((y + 256 * z) + (y + 256 * z) / 16) / 256 = z + z / 16 by omega, byte3 (by omega) (by omega)]
def F_ (n x : Nat) : Nat := s2_ n (s1_ n x)
theorem F_st {n y z : Nat} (h : y < 256) : F_ (n + 1) (y + 256 * z) = t2_ (t1_ y) + 256 * F_ n z := by
  unfold F_
  rw [s1_st h, s2_st (byte1 h).2.2.2.2.2]
theorem F_0 (x : Nat) : F_ 0 x = 0 := by
  unfold F_ s2_
  show ((s1_ 0 x) &&& 0) + (s1_ 0 x / 4 &&& 0) = 0
  rw [Nat.and_zero, Nat.and_zero]
theorem F_bd : ∀ n x, F_ n x % 16 ≤ 4 ∧ F_ n x ≤ rep 68 n := by
  intro n
  induction n with
  | zero => intro x; rw [F_0]; exact ⟨by decide, by decide⟩
  | succ n ih =>
    intro x
    have e : x = x % 256 + 256 * (x / 256) := by omega
    rw [e, F_st (by omega)]
    have := byte1 (y := x % 256) (by omega)
    have := ih (x / 256)
    refine ⟨by omega, ?_⟩
    show _ ≤ 68 + 256 * rep 68 n
    omega
theorem s1_le (n x : Nat) : s1_ n x ≤ x := Nat.sub_le _ _
def S_ (n x : Nat) : Nat := s3_ n (F_ n x)
theorem S_st {n y z : Nat} (h : y < 256) : S_ (n + 1) (y + 256 * z) = bc y + 256 * S_ n z := by
  unfold S_
  rw [F_st h, s3_st (byte1 h).2.2.1 (F_bd n z).1, (byte1 h).1]
theorem S_0 (x : Nat) : S_ 0 x = 0 := by
  unfold S_ s3_
  exact Nat.and_zero _
theorem cntN_sp (g : Nat → Bool) (a : Nat) : ∀ b, cntN (a + b) g = cntN a g + cntN b (fun i => g (a + i)) := by
  intro b
  induction b with
  | zero => rfl
  | succ b ih =>
    show cntN (a + b) g + _ = _ + (cntN b _ + _)
    rw [ih, Nat.add_assoc]
    rfl
theorem cnt_by {y z : Nat} (n : Nat) (h : y < 256) : cntN (8 * (n + 1)) (y + 256 * z).testBit = bc y + cntN (8 * n) z.testBit := by
  rw [show 8 * (n + 1) = 8 + 8 * n by omega, cntN_sp]
  have e : ∀ j, (y + 256 * z).testBit j = if j < 8 then y.testBit j else z.testBit (j - 8) := fun j => by
    rw [Nat.add_comm]
    exact Nat.testBit_two_pow_mul_add z (i := 8) h j
  congr 1
  · exact cntN_cg 8 (fun i hi => by rw [e, if_pos hi])
  · refine cntN_cg _ (fun i _ => ?_)
    rw [e, if_neg (by omega)]
    congr 1
    omega
def bsum : Nat → Nat → Nat
  | 0, _ => 0
  | n + 1, x => bc (x % 256) + bsum n (x / 256)
theorem cnt_bs : ∀ n x, cntN (8 * n) x.testBit = bsum n x := by
  intro n
  induction n with
  | zero => intro x; rfl
  | succ n ih =>
    intro x
    have e : x = x % 256 + 256 * (x / 256) := by omega
    show _ = bc (x % 256) + bsum n (x / 256)
    rw [← ih]
    conv => lhs; rw [e]
    exact cnt_by n (by omega)
theorem S_e (n x : Nat) : S_ (n + 1) x = bc (x % 256) + 256 * S_ n (x / 256) := by
  have e : x = x % 256 + 256 * (x / 256) := by omega
  conv => lhs; rw [e]
  exact S_st (by omega)
theorem bc_le (y : Nat) : bc y ≤ 8 := cntN_le _ _
theorem lushr_nat {b : BitVec 64} {n : Nat} (h : n < 64) : lushr b (n : Int) = b >>> n := by
  have hs : (((J (n : Int)).toInt64.toUInt64 &&& Int64.toUInt64 63).toBitVec % 64).toNat = n := by
    have : ∀ m : Fin 64, (((J ((m.1 : Nat) : Int)).toInt64.toUInt64 &&& Int64.toUInt64 63).toBitVec % 64).toNat = m.1 := by decide +kernel
    exact this ⟨n, h⟩
  show b >>> (((J (n : Int)).toInt64.toUInt64 &&& Int64.toUInt64 63).toBitVec % 64) = _
  rw [BitVec.ushiftRight_eq', hs]
theorem ush {b : BitVec 64} {n : Nat} (h : n < 64) : (lushr b (n : Int)).toNat = b.toNat / 2 ^ n := by
  rw [lushr_nat h, BitVec.toNat_ushiftRight, Nat.shiftRight_eq_div_pow]
theorem popc_n (b : BitVec 64) : popc b = bsum 8 b.toNat := by
  rw [← cnt_bs]
  exact cntN_cg _ (fun i _ => rfl)
theorem c_J13_bitCount_95d88 {p0 : BitVec 64} {K : Int → Prop} {h : XH} (k : K (popc p0 : Nat)) : w_J13_bitCount_95d88 p0 K h := by
  unfold w_J13_bitCount_95d88
  intro b1 e1 b2 e2 b3 e3 b4 e4 b5 e5 b6 e6
  have hp := p0.isLt
  have n1 : b1.toNat = s1_ 8 p0.toNat := by
    have u : (lushr p0 1).toNat = p0.toNat / 2 := ush (n := 1) (by decide)
    have r : (6148914691236517205#64).toNat = rep 85 8 := by decide
    rw [e1, BitVec.toNat_sub, BitVec.toNat_and, u, r]
    unfold s1_
    have : (p0.toNat / 2 &&& rep 85 8) ≤ p0.toNat / 2 := Nat.and_le_left
    omega
  have l1 := s1_le 8 p0.toNat
  have lF := (F_bd 8 p0.toNat).2
  have r68 : rep 68 8 = 4919131752989213764 := by decide
  have n2 : b2.toNat = F_ 8 p0.toNat := by
    have u : (lushr b1 2).toNat = b1.toNat / 4 := ush (n := 2) (by decide)
    have r : (3689348814741910323#64).toNat = rep 51 8 := by decide
    rw [e2, BitVec.toNat_add, BitVec.toNat_and, BitVec.toNat_and, u, r, n1]
    exact Nat.mod_eq_of_lt (Nat.lt_of_le_of_lt lF (by rw [r68]; decide))
  have n3 : b3.toNat = S_ 8 p0.toNat := by
    have u : (lushr b2 4).toNat = b2.toNat / 16 := ush (n := 4) (by decide)
    have r : (1085102592571150095#64).toNat = rep 15 8 := by decide
    rw [e3, BitVec.toNat_and, BitVec.toNat_add, u, r, n2, Nat.mod_eq_of_lt (by omega)]
    rfl
  have u4 : (lushr b3 8).toNat = b3.toNat / 256 := ush (n := 8) (by decide)
  have u5 : (lushr b4 16).toNat = b4.toNat / 65536 := ush (n := 16) (by decide)
  have u6 : (lushr b5 32).toNat = b5.toNat / 4294967296 := ush (n := 32) (by decide)
  have n4 : b4.toNat = (b3.toNat + b3.toNat / 256) % 18446744073709551616 := by rw [e4, BitVec.toNat_add, u4]
  have n5 : b5.toNat = (b4.toNat + b4.toNat / 65536) % 18446744073709551616 := by rw [e5, BitVec.toNat_add, u5]
  have n6 : b6.toNat = (b5.toNat + b5.toNat / 4294967296) % 18446744073709551616 := by rw [e6, BitVec.toNat_add, u6]
  have q : iand (l2i b6) 127 = ((b6.toNat % 128 : Nat) : Int) := by
    unfold iand l2i
    rw [J_toInt]
    show ((b6.signExtend 32) &&& 127#32).toInt = _
    refine ti_of ?_ (by omega)
    rw [BitVec.toNat_and, BitVec.signExtend_eq_setWidth_of_le _ (by decide), BitVec.toNat_setWidth]
    show (b6.toNat % 4294967296) &&& (2 ^ 7 - 1) = _
    rw [Nat.and_two_pow_sub_one_eq_mod]
    omega
  rw [q]
  rw [popc_n] at k
  have f : b6.toNat % 128 = bsum 8 p0.toNat := by
    simp only [bsum, S_e, S_0] at *
    generalize hc0 : bc (p0.toNat % 256) = d0 at *
    generalize hc1 : bc (p0.toNat / 256 % 256) = d1 at *
    generalize hc2 : bc (p0.toNat / 256 / 256 % 256) = d2 at *
    generalize hc3 : bc (p0.toNat / 256 / 256 / 256 % 256) = d3 at *
    generalize hc4 : bc (p0.toNat / 256 / 256 / 256 / 256 % 256) = d4 at *
    generalize hc5 : bc (p0.toNat / 256 / 256 / 256 / 256 / 256 % 256) = d5 at *
    generalize hc6 : bc (p0.toNat / 256 / 256 / 256 / 256 / 256 / 256 % 256) = d6 at *
    generalize hc7 : bc (p0.toNat / 256 / 256 / 256 / 256 / 256 / 256 / 256 % 256) = d7 at *
    have := hc0 ▸ bc_le _
    have := hc1 ▸ bc_le _
    have := hc2 ▸ bc_le _
    have := hc3 ▸ bc_le _
    have := hc4 ▸ bc_le _
    have := hc5 ▸ bc_le _
    have := hc6 ▸ bc_le _
    have := hc7 ▸ bc_le _
    clear e1 e2 e3 e4 e5 e6 n1 n2 u4 u5 u6 k hp l1 lF q
    have y3 : b3.toNat = d0 + 256 * (d1 + 256 * (d2 + 256 * (d3 + 256 * (d4 + 256 * (d5 + 256 * (d6 + 256 * d7)))))) := by omega
    have x4 : b3.toNat / 256 = d1 + 256 * (d2 + 256 * (d3 + 256 * (d4 + 256 * (d5 + 256 * (d6 + 256 * d7))))) := by omega
    have y4 : b4.toNat = (d0 + d1) + 256 * ((d1 + d2) + 256 * ((d2 + d3) + 256 * ((d3 + d4) + 256 * ((d4 + d5) + 256 * ((d5 + d6) + 256 * ((d6 + d7) + 256 * d7)))))) := by
      rw [n4, x4, y3, Nat.mod_eq_of_lt (by omega)]
      omega
    have x5 : b4.toNat / 65536 = (d2 + d3) + 256 * ((d3 + d4) + 256 * ((d4 + d5) + 256 * ((d5 + d6) + 256 * ((d6 + d7) + 256 * d7)))) := by
      rw [y4]
      clear n3 n4 n5 n6 y3 x4 y4
      omega
    have y5 : b5.toNat = (d0 + d1 + d2 + d3) + 256 * ((d1 + d2 + d3 + d4) + 256 * ((d2 + d3 + d4 + d5) + 256 * ((d3 + d4 + d5 + d6) + 256 * ((d4 + d5 + d6 + d7) + 256 * ((d5 + d6 + d7) + 256 * ((d6 + d7) + 256 * d7)))))) := by
      rw [n5, x5, y4, Nat.mod_eq_of_lt (by clear n3 n4 n5 n6 y3 x4 y4 x5; omega)]
      clear n3 n4 n5 n6 y3 x4 y4 x5
      omega
    have x6 : b5.toNat / 4294967296 = (d4 + d5 + d6 + d7) + 256 * ((d5 + d6 + d7) + 256 * ((d6 + d7) + 256 * d7)) := by
      rw [y5]
      clear n3 n4 n5 n6 y3 x4 y4 x5 y5
      omega
    rw [n6, x6, y5]
    clear n3 n4 n5 n6 y3 x4 y4 x5 y5 x6
    omega
  rw [f]
  exact k
theorem c_J6_bitCount_0f7a4 {a : Nat} (ha : a < 2147483648) {K : Int → Prop} {h : XH} (k : K (cntN 32 a.testBit : Nat)) : w_J6_bitCount_0f7a4 (a : Int) K h := by
  unfold w_J6_bitCount_0f7a4
  intro x1 e1 _ x2 e2 _ x3 e3 _ x4 e4 _ x5 e5 _
  have r85 : (1431655765 : Int) = ((rep 85 4 : Nat) : Int) := by decide
  have r51 : (858993459 : Int) = ((rep 51 4 : Nat) : Int) := by decide
  have r15 : (252645135 : Int) = ((rep 15 4 : Nat) : Int) := by decide
  have b85 : rep 85 4 < 2147483648 := by decide
  have b51 : rep 51 4 < 2147483648 := by decide
  have b15 : rep 15 4 < 2147483648 := by decide
  have l1 := s1_le 4 a
  have lF := (F_bd 4 a).2
  have r68 : rep 68 4 = 1145324612 := by decide
  have sr : ∀ {x n : Nat}, n < 32 → x < 2147483648 → iushr (x : Int) (n : Int) = ((x / 2 ^ n : Nat) : Int) := fun {x n} hn hx => by rw [iushr_nat hn hx, Nat.shiftRight_eq_div_pow]
  have n1 : x1 = (s1_ 4 a : Nat) := by
    have u : iushr (a : Int) 1 = ((a / 2 : Nat) : Int) := sr (n := 1) (by decide) ha
    rw [e1, u, r85, iand_nat (by omega) b85]
    have : (a / 2 &&& rep 85 4) ≤ a / 2 := Nat.and_le_left
    unfold s1_
    rw [wr_of (by omega) (by omega)]
    omega
  have n2 : x2 = (F_ 4 a : Nat) := by
    have u : iushr ((s1_ 4 a : Nat) : Int) 2 = ((s1_ 4 a / 4 : Nat) : Int) := sr (n := 2) (by decide) (by omega)
    rw [e2, n1, u, r51, iand_nat (by omega) b51, iand_nat (by omega) b51, ← Int.natCast_add]
    exact wr_of (by omega) (by have : (s1_ 4 a &&& rep 51 4) + (s1_ 4 a / 4 &&& rep 51 4) ≤ rep 68 4 := lF; omega)
  have n3 : x3 = (S_ 4 a : Nat) := by
    have u : iushr ((F_ 4 a : Nat) : Int) 4 = ((F_ 4 a / 16 : Nat) : Int) := sr (n := 4) (by decide) (by omega)
    rw [e3, n2, u, ← Int.natCast_add, wr_of (by omega) (by omega), r15, iand_nat (by omega) b15]
    rfl
  have l3 : S_ 4 a ≤ 2021161080 := by
    have := bc_le (a % 256)
    have := bc_le (a / 256 % 256)
    have := bc_le (a / 256 / 256 % 256)
    have := bc_le (a / 256 / 256 / 256 % 256)
    simp only [S_e, S_0]
    omega
  have l3' : S_ 4 a ≤ 134744072 := by
    have := bc_le (a % 256)
    have := bc_le (a / 256 % 256)
    have := bc_le (a / 256 / 256 % 256)
    have := bc_le (a / 256 / 256 / 256 % 256)
    simp only [S_e, S_0]
    omega
  have n4 : x4 = ((S_ 4 a + S_ 4 a / 256 : Nat) : Int) := by
    have u : iushr ((S_ 4 a : Nat) : Int) 8 = ((S_ 4 a / 256 : Nat) : Int) := sr (n := 8) (by decide) (by omega)
    rw [e4, n3, u, ← Int.natCast_add]
    exact wr_of (by omega) (by omega)
  have n5 : x5 = (((S_ 4 a + S_ 4 a / 256) + (S_ 4 a + S_ 4 a / 256) / 65536 : Nat) : Int) := by
    have u : iushr ((S_ 4 a + S_ 4 a / 256 : Nat) : Int) 16 = (((S_ 4 a + S_ 4 a / 256) / 65536 : Nat) : Int) := sr (n := 16) (by decide) (by omega)
    rw [e5, n4, u, ← Int.natCast_add]
    exact wr_of (by omega) (by omega)
  have q : iand x5 63 = (((S_ 4 a + S_ 4 a / 256) + (S_ 4 a + S_ 4 a / 256) / 65536) % 64 : Nat) := by
    rw [n5, show (63 : Int) = ((2 ^ 6 - 1 : Nat) : Int) by decide, iand_nat (by omega) (by decide), Nat.and_two_pow_sub_one_eq_mod]
  rw [q]
  have f : ((S_ 4 a + S_ 4 a / 256) + (S_ 4 a + S_ 4 a / 256) / 65536) % 64 = cntN 32 a.testBit := by
    rw [show (32 : Nat) = 8 * 4 by decide, cnt_bs]
    have := bc_le (a % 256)
    have := bc_le (a / 256 % 256)
    have := bc_le (a / 256 / 256 % 256)
    have := bc_le (a / 256 / 256 / 256 % 256)
    simp only [S_e, S_0, bsum]
    generalize bc (a % 256) = d0 at *
    generalize bc (a / 256 % 256) = d1 at *
    generalize bc (a / 256 / 256 % 256) = d2 at *
    generalize bc (a / 256 / 256 / 256 % 256) = d3 at *
    clear q n1 n2 n3 n4 n5 l3 l3' lF l1 sr k
    have x4 : (d0 + 256 * (d1 + 256 * (d2 + 256 * (d3 + 256 * 0)))) / 256 = d1 + 256 * (d2 + 256 * d3) := by omega
    rw [x4]
    have x5 : (d0 + 256 * (d1 + 256 * (d2 + 256 * (d3 + 256 * 0))) + (d1 + 256 * (d2 + 256 * d3))) / 65536 = (d2 + d3) + 256 * d3 := by omega
    rw [x5]
    omega
  rw [f]
  exact k
