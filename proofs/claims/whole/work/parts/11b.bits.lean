/-! NUMBERS: remainders, masks, shifts, bits of longs -/
theorem J_nat (a : Nat) : J (a : Int) = Int32.ofNat a := Int32.ofInt_eq_ofNat
theorem rg_nat {a : Nat} (h : a < 2147483648) : rg (a : Int) := by unfold rg; omega
theorem ti_of {b : BitVec 32} {n : Nat} (h : b.toNat = n) (hn : n < 2147483648) : b.toInt = (n : Int) := by
  rw [BitVec.toInt_eq_toNat_cond, h, if_pos (by omega)]
theorem bv_J {a : Nat} (h : a < 2147483648) : (J (a : Int)).toBitVec.toNat = a := by
  rw [J_nat]
  show (BitVec.ofNat 32 a).toNat = a
  rw [BitVec.toNat_ofNat]
  exact Nat.mod_eq_of_lt (by omega)
theorem iand_nat {a b : Nat} (ha : a < 2147483648) (hb : b < 2147483648) : iand (a : Int) (b : Int) = ((a &&& b : Nat) : Int) := by
  show ((J (a : Int)).toBitVec &&& (J (b : Int)).toBitVec).toInt = _
  refine ti_of ?_ (Nat.lt_of_le_of_lt Nat.and_le_left ha)
  rw [BitVec.toNat_and, bv_J ha, bv_J hb]
theorem ior_nat {a b : Nat} (ha : a < 2147483648) (hb : b < 2147483648) : ior (a : Int) (b : Int) = ((a ||| b : Nat) : Int) := by
  show ((J (a : Int)).toBitVec ||| (J (b : Int)).toBitVec).toInt = _
  refine ti_of ?_ (Nat.or_lt_two_pow (n := 31) ha hb)
  rw [BitVec.toNat_or, bv_J ha, bv_J hb]
theorem ixor_nat {a b : Nat} (ha : a < 2147483648) (hb : b < 2147483648) : ixor (a : Int) (b : Int) = ((a ^^^ b : Nat) : Int) := by
  show ((J (a : Int)).toBitVec ^^^ (J (b : Int)).toBitVec).toInt = _
  refine ti_of ?_ (Nat.xor_lt_two_pow (n := 31) ha hb)
  rw [BitVec.toNat_xor, bv_J ha, bv_J hb]
theorem sh31 {n : Nat} (h : n < 32) : ((J (n : Int) &&& 31).toBitVec.smod 32).toNat = n := by
  have : ∀ m : Fin 32, ((J ((m.1 : Nat) : Int) &&& 31).toBitVec.smod 32).toNat = m.1 := by decide +kernel
  exact this ⟨n, h⟩
theorem ishl_nat {a n : Nat} (hn : n < 32) (ha : a * 2 ^ n < 2147483648) : ishl (a : Int) (n : Int) = ((a * 2 ^ n : Nat) : Int) := by
  have h1 : a < 2147483648 := Nat.lt_of_le_of_lt (Nat.le_mul_of_pos_right a (Nat.two_pow_pos n)) ha
  show ((J (a : Int)).toBitVec <<< ((J (n : Int) &&& 31).toBitVec.smod 32)).toInt = _
  refine ti_of ?_ ha
  rw [BitVec.shiftLeft_eq', BitVec.toNat_shiftLeft, bv_J h1, sh31 hn, Nat.shiftLeft_eq]
  exact Nat.mod_eq_of_lt (by omega)
theorem ishr_nat {a n : Nat} (hn : n < 32) (ha : a < 2147483648) : ishr (a : Int) (n : Int) = ((a >>> n : Nat) : Int) := by
  show (BitVec.sshiftRight' (J (a : Int)).toBitVec ((J (n : Int) &&& 31).toBitVec.smod 32)).toInt = _
  rw [BitVec.sshiftRight', sh31 hn, BitVec.toInt_sshiftRight, ti_of (bv_J ha) ha]
  exact Int.natCast_shiftRight a n
theorem iushr_nat {a n : Nat} (hn : n < 32) (ha : a < 2147483648) : iushr (a : Int) (n : Int) = ((a >>> n : Nat) : Int) := by
  have hs : (((J (n : Int)).toUInt32 &&& Int32.toUInt32 31).toBitVec % 32).toNat = n := by
    have : ∀ m : Fin 32, (((J ((m.1 : Nat) : Int)).toUInt32 &&& Int32.toUInt32 31).toBitVec % 32).toNat = m.1 := by decide +kernel
    exact this ⟨n, hn⟩
  show ((J (a : Int)).toBitVec >>> (((J (n : Int)).toUInt32 &&& Int32.toUInt32 31).toBitVec % 32)).toInt = _
  refine ti_of ?_ (Nat.lt_of_le_of_lt (Nat.shiftRight_le a n) ha)
  rw [BitVec.ushiftRight_eq', BitVec.toNat_ushiftRight, bv_J ha, hs]
/-- bit n of a mask -/
theorem bitI {a n : Nat} (hn : n < 32) (ha : a < 2147483648) : iand (ishr (a : Int) (n : Int)) 1 = if a.testBit n then 1 else 0 := by
  rw [ishr_nat hn ha]
  have h1 : a >>> n < 2147483648 := Nat.lt_of_le_of_lt (Nat.shiftRight_le a n) ha
  rw [show (1 : Int) = ((1 : Nat) : Int) from rfl, iand_nat h1 (by decide)]
  have e : a.testBit n = decide ((a >>> n) % 2 = 1) := by rw [Nat.testBit_eq_decide_div_mod_eq, Nat.shiftRight_eq_div_pow]
  rw [Nat.and_one_is_mod, e]
  have : (a >>> n) % 2 < 2 := Nat.mod_lt _ (by decide)
  by_cases z : (a >>> n) % 2 = 1
  · rw [decide_eq_true z, if_pos rfl, z]
  · rw [decide_eq_false z, if_neg (by decide), show (a >>> n) % 2 = 0 by omega]; rfl
theorem tdiv_J {x y : Int} (hx : rg x) (hy : rg y) (h0 : 0 ≤ x) (h1 : 0 < y) : (J x / J y).toInt = x / y := by
  have : (J x / J y).toInt = (J x).toInt.tdiv (J y).toInt := Int32.toInt_div_of_ne_right _ _ (fun z => by
    have := congrArg Int32.toInt z
    rw [J_rg hy] at this
    have e : (-1 : Int32).toInt = -1 := rfl
    rw [e] at this
    omega)
  rw [this, J_rg hx, J_rg hy, Int.tdiv_eq_ediv_of_nonneg h0]
theorem idiv_pos {x y : Int} (hx : rg x) (hy : rg y) (h0 : 0 ≤ x) (h1 : 0 < y) : idiv x y = x / y := tdiv_J hx hy h0 h1
theorem irem_pos {x y : Int} (hx : rg x) (hy : rg y) (h0 : 0 ≤ x) (h1 : 0 < y) : irem x y = x % y := by
  have e : J x / J y = J (x / y) := J_eqI (by
    rw [tdiv_J hx hy h0 h1, J_rg]
    unfold rg at *
    have := Int.ediv_nonneg h0 (Int.le_of_lt h1)
    have := Int.ediv_le_self y h0
    omega)
  unfold irem
  rw [e, J_mul, J_sub, toInt_J]
  have m1 : x / y * y ≤ x := Int.ediv_mul_le x (by omega)
  have m2 : 0 ≤ x / y * y := Int.mul_nonneg (Int.ediv_nonneg h0 (Int.le_of_lt h1)) (Int.le_of_lt h1)
  have m3 : x % y = x - x / y * y := by rw [Int.emod_def, Int.mul_comm]
  unfold rg at hx
  rw [m3]
  unfold wr
  omega
/-! longs -/
theorem sh63 {n : Nat} (h : n < 64) : (((J (n : Int)).toInt64 &&& 63).toBitVec.smod 64).toNat = n := by
  have : ∀ m : Fin 64, (((J ((m.1 : Nat) : Int)).toInt64 &&& 63).toBitVec.smod 64).toNat = m.1 := by decide +kernel
  exact this ⟨n, h⟩
theorem lshl_nat {b : BitVec 64} {n : Nat} (h : n < 64) : lshl b (n : Int) = b <<< n := by
  show b <<< (((J (n : Int)).toInt64 &&& 63).toBitVec.smod 64) = _
  rw [BitVec.shiftLeft_eq', sh63 h]
theorem lshr_nat {b : BitVec 64} {n : Nat} (h : n < 64) : lshr b (n : Int) = b.sshiftRight n := by
  show BitVec.sshiftRight' b (((J (n : Int)).toInt64 &&& 63).toBitVec.smod 64) = _
  rw [BitVec.sshiftRight', sh63 h]
/-- the bit n alone -/
def bit1 (n : Nat) : BitVec 64 := 1#64 <<< n
theorem bit1_at {n j : Nat} (h : n < 64) : (bit1 n).getLsbD j = decide (j = n) := by
  unfold bit1
  rw [BitVec.getLsbD_shiftLeft, BitVec.getLsbD_one]
  by_cases e : j = n
  · subst e; simp [h]
  · rw [decide_eq_false e]
    by_cases q : j < n
    · simp [q]
    · have : ¬ j - n = 0 := by omega
      simp [this]
theorem lshl1 {n : Nat} (h : n < 64) : lshl (1#64) (n : Int) = bit1 n := lshl_nat h
theorem bvz {b : BitVec 64} : b = 0#64 ↔ ∀ j, j < 64 → b.getLsbD j = false := by
  constructor
  · intro e j _; rw [e]; exact BitVec.getLsbD_zero
  · intro e
    apply BitVec.eq_of_getLsbD_eq
    intro j hj
    rw [e j hj, BitVec.getLsbD_zero]
theorem hasb {b : BitVec 64} {n : Nat} (h : n < 64) : (lshr b (n : Int) &&& 1#64 = 0#64) ↔ b.getLsbD n = false := by
  rw [lshr_nat h, bvz]
  constructor
  · intro e
    have := e 0 (by decide)
    rw [BitVec.getLsbD_and, BitVec.getLsbD_one, BitVec.getLsbD_sshiftRight] at this
    simpa [h] using this
  · intro e j hj
    rw [BitVec.getLsbD_and, BitVec.getLsbD_one]
    by_cases z : j = 0
    · subst z
      rw [BitVec.getLsbD_sshiftRight, Nat.add_zero, if_pos h, e]
      rfl
    · simp [z]
def b2i (b : Bool) : Int := if b then 1 else 0
theorem b2i_01 (b : Bool) : b2i b = 0 ∨ b2i b = 1 := by cases b <;> decide
theorem b2i_rg (b : Bool) : rg (b2i b) := by cases b <;> exact rgk rfl
theorem b2i_0 {b : Bool} : b2i b = 0 ↔ b = false := by cases b <;> decide
theorem b2i_1 {b : Bool} : b2i b = 1 ↔ b = true := by cases b <;> decide
