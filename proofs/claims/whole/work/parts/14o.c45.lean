/-! MEANSIZE, SHARE -/
theorem J_ne {x : Int} (r : rg x) (n : ¬ x = 0) : J x ≠ 0 := fun e => n (by
  have h1 : (J x).toInt = wr x := gvI_J x
  rw [e, wr_rg r] at h1
  exact h1.symm)
/-! FLOATS: what is no NaN -/
theorem fl_rr {f : FP.Core.Fmt} (hp : 1 ≤ f.p) (hq : f.qmin ≤ f.qmax) (s : Bool) (A B : Nat) (e : Int) : (∃ t, FP.Core.roundRatio f s A B e = .inf t) ∨ ∃ t c q, FP.Core.roundRatio f s A B e = .fin t c q ∧ c < 2 ^ f.p ∧ q ≤ f.qmax := by
  have tp : f.tails < 2 ^ f.p := Nat.pow_lt_pow_right (by decide) (by omega)
  unfold FP.Core.roundRatio
  by_cases a : A = 0
  · rw [if_pos a]; exact .inr ⟨s, 0, _, rfl, Nat.two_pow_pos _, hq⟩
  · rw [if_neg a]
    unfold FP.Core.roundAt FP.Core.settle
    by_cases b : FP.Core.nearest (FP.Core.unitsNum A e (FP.Core.quantum f A B e)) (FP.Core.unitsDen B e (FP.Core.quantum f A B e)) < 2 ^ f.p
    · rw [if_pos b]
      unfold FP.Core.bound
      by_cases d : FP.Core.quantum f A B e ≤ f.qmax
      · rw [if_pos d]; exact .inr ⟨_, _, _, rfl, b, d⟩
      · rw [if_neg d]; exact .inl ⟨_, rfl⟩
    · rw [if_neg b]
      unfold FP.Core.bound
      by_cases d : FP.Core.quantum f A B e + 1 ≤ f.qmax
      · rw [if_pos d]; exact .inr ⟨_, _, _, rfl, tp, d⟩
      · rw [if_neg d]; exact .inl ⟨_, rfl⟩
theorem fl_near {A B : Nat} (hB : 0 < B) (h : B ≤ A) : 1 ≤ FP.Core.nearest A B := by
  have : 1 ≤ A / B := Nat.div_pos h hB
  unfold FP.Core.nearest
  split
  · exact this
  · split <;> omega
theorem fl_int {f : FP.Core.Fmt} (hp : 1 ≤ f.p) (h0 : f.qmin ≤ 0) (hq : 40 ≤ f.qmax) (s : Bool) {A : Nat} (hA : ¬ A = 0) (lt : A < 2 ^ 32) : ∃ t c q, FP.Core.roundRatio f s A 1 0 = .fin t c q ∧ c < 2 ^ f.p ∧ q ≤ f.qmax ∧ ¬ c = 0 := by
  have tp : f.tails < 2 ^ f.p := Nat.pow_lt_pow_right (by decide) (by omega)
  have t0 : 0 < f.tails := Nat.two_pow_pos _
  have lg : A.log2 < 32 := (Nat.log2_lt hA).mpr lt
  have l1 : Nat.log2 1 = 0 := by decide
  have ld : FP.Core.leading A 1 = (A.log2 : Int) := by
    unfold FP.Core.leading
    rw [l1]
    have k : ((A.log2 : Nat) : Int) - ((0 : Nat) : Int) = (A.log2 : Nat) := by omega
    dsimp only
    rw [k]
    have k1 : ((A.log2 : Nat) : Int).toNat = A.log2 := Int.toNat_natCast _
    have k2 : (-((A.log2 : Nat) : Int)).toNat = 0 := by omega
    rw [k1, k2, Nat.one_mul, Nat.pow_zero, Nat.mul_one, if_pos (Nat.log2_self_le hA)]
  have qd : FP.Core.quantum f A 1 0 = max f.qmin ((A.log2 : Int) + 0 - ((f.p : Int) - 1)) := by unfold FP.Core.quantum; rw [ld]
  have q1 : FP.Core.quantum f A 1 0 < 32 := by rw [qd]; omega
  have n1 : 1 ≤ FP.Core.nearest (FP.Core.unitsNum A 0 (FP.Core.quantum f A 1 0)) (FP.Core.unitsDen 1 0 (FP.Core.quantum f A 1 0)) := by
    refine fl_near ?_ ?_
    · unfold FP.Core.unitsDen; rw [Nat.one_mul]; exact Nat.two_pow_pos _
    · unfold FP.Core.unitsNum FP.Core.unitsDen
      rw [Nat.one_mul]
      by_cases z : FP.Core.quantum f A 1 0 ≤ 0
      · have : (FP.Core.quantum f A 1 0 - 0).toNat = 0 := by omega
        rw [this]
        exact Nat.le_trans (show 2 ^ 0 ≤ A by omega) (Nat.le_mul_of_pos_right _ (Nat.two_pow_pos _))
      · have e1 : (0 - FP.Core.quantum f A 1 0).toNat = 0 := by omega
        rw [e1, Nat.pow_zero, Nat.mul_one]
        refine Nat.le_trans (Nat.pow_le_pow_right (by decide) ?_) (Nat.log2_self_le hA)
        rw [qd] at z ⊢
        omega
  unfold FP.Core.roundRatio
  rw [if_neg hA]
  unfold FP.Core.roundAt FP.Core.settle
  by_cases b : FP.Core.nearest (FP.Core.unitsNum A 0 (FP.Core.quantum f A 1 0)) (FP.Core.unitsDen 1 0 (FP.Core.quantum f A 1 0)) < 2 ^ f.p
  · rw [if_pos b]
    unfold FP.Core.bound
    rw [if_pos (by omega)]
    exact ⟨_, _, _, rfl, b, by omega, by omega⟩
  · rw [if_neg b]
    unfold FP.Core.bound
    rw [if_pos (by omega)]
    exact ⟨_, _, _, rfl, tp, by omega, by omega⟩
theorem fl_self {d : FP.Core.Datum} (n : ¬ d = .nan) : FP.Core.order d d = some .eq := by
  have c : ∀ x : Int, compare x x = Ordering.eq := fun x => by
    show (if x < x then Ordering.lt else if x = x then Ordering.eq else Ordering.gt) = _
    rw [if_neg (Int.lt_irrefl x), if_pos rfl]
  cases d with
  | nan => exact absurd rfl n
  | inf s => exact congrArg some (c _)
  | fin s c_ q => exact congrArg some (c _)
theorem fl_enc64 {s : Bool} {c : Nat} {q : Int} (hc : c < 9007199254740992) (hq : q ≤ 971) : FP.Core.encode FP.Core.b64 (.fin s c q) < 18446744073709551616 ∧ FP.Core.encode FP.Core.b64 (.fin s c q) % 9223372036854775808 < 9218868437227405312 ∧ (¬ c = 0 → ¬ FP.Core.encode FP.Core.b64 (.fin s c q) % 9223372036854775808 = 0) := by
  have et : FP.Core.b64.tails = 4503599627370496 := by decide
  have ee : FP.Core.b64.exps = 2048 := by decide
  have eq_ : FP.Core.b64.qmin = -1074 := by decide
  unfold FP.Core.encode FP.Core.assemble
  dsimp only
  rw [et, ee, eq_]
  by_cases a : c < 4503599627370496
  · rw [if_pos a]
    cases s
    · show (0 * 2048 + 0) * 4503599627370496 + c < _ ∧ ((0 * 2048 + 0) * 4503599627370496 + c) % _ < _ ∧ (_ → ¬ ((0 * 2048 + 0) * 4503599627370496 + c) % _ = 0); omega
    · show (1 * 2048 + 0) * 4503599627370496 + c < _ ∧ ((1 * 2048 + 0) * 4503599627370496 + c) % _ < _ ∧ (_ → ¬ ((1 * 2048 + 0) * 4503599627370496 + c) % _ = 0); omega
  · rw [if_neg a]
    obtain ⟨e, he⟩ : ∃ e : Nat, (q - -1074).toNat + 1 = e := ⟨_, rfl⟩
    rw [he]
    have e1 : e ≤ 2048 - 2 := by omega
    have e2 : 1 ≤ e := by omega
    cases s
    · show (0 * 2048 + e) * 4503599627370496 + (c - 4503599627370496) < _ ∧ ((0 * 2048 + e) * 4503599627370496 + (c - 4503599627370496)) % _ < _ ∧ (_ → ¬ ((0 * 2048 + e) * 4503599627370496 + (c - 4503599627370496)) % _ = 0); omega
    · show (1 * 2048 + e) * 4503599627370496 + (c - 4503599627370496) < _ ∧ ((1 * 2048 + e) * 4503599627370496 + (c - 4503599627370496)) % _ < _ ∧ (_ → ¬ ((1 * 2048 + e) * 4503599627370496 + (c - 4503599627370496)) % _ = 0); omega
theorem fl_inf64 (s : Bool) : FP.Core.encode FP.Core.b64 (.inf s) < 18446744073709551616 ∧ FP.Core.encode FP.Core.b64 (.inf s) % 9223372036854775808 = 9218868437227405312 := by cases s <;> decide
theorem fl_dec64 {n : Nat} (h : n % 9223372036854775808 ≤ 9218868437227405312) : (∃ s, FP.Core.decode FP.Core.b64 n = .inf s ∧ n % 9223372036854775808 = 9218868437227405312) ∨ ∃ s c q, FP.Core.decode FP.Core.b64 n = .fin s c q ∧ (c = 0 → n % 9223372036854775808 = 0) := by
  have et : FP.Core.b64.tails = 4503599627370496 := by decide
  have ee : FP.Core.b64.exps = 2048 := by decide
  unfold FP.Core.decode FP.Core.fieldE FP.Core.fieldT
  rw [et, ee]
  by_cases a : n / 4503599627370496 % 2048 = 2048 - 1
  · rw [if_pos a, if_pos (show n % 4503599627370496 = 0 by omega)]; exact .inl ⟨_, rfl, by omega⟩
  · rw [if_neg a]
    by_cases b : n / 4503599627370496 % 2048 = 0
    · rw [if_pos b]; exact .inr ⟨_, _, _, rfl, fun z => by omega⟩
    · rw [if_neg b]; exact .inr ⟨_, _, _, rfl, fun z => by omega⟩
theorem fl_nn64 {n : Nat} (h : n % 9223372036854775808 ≤ 9218868437227405312) : ¬ FP.Core.decode FP.Core.b64 n = .nan := fun z => by
  rcases fl_dec64 h with ⟨s, e, -⟩ | ⟨s, c, q, e, -⟩
  · rw [e] at z; cases z
  · rw [e] at z; cases z
theorem fl_out64 {d : FP.Core.Datum} (h : (∃ t, d = .inf t) ∨ ∃ t c q, d = .fin t c q ∧ c < 2 ^ FP.Core.b64.p ∧ q ≤ FP.Core.b64.qmax) : (UInt64.ofNat (FP.Core.encode FP.Core.b64 d)).toNat % 9223372036854775808 ≤ 9218868437227405312 := by
  have e2 : 2 ^ FP.Core.b64.p = 9007199254740992 := by decide
  have eq_ : FP.Core.b64.qmax = 971 := by decide
  rcases h with ⟨t, e⟩ | ⟨t, c, q, e, hc, hq⟩
  · have := fl_inf64 t
    rw [e, UInt64.toNat_ofNat']
    omega
  · rw [e2] at hc
    rw [eq_] at hq
    have := fl_enc64 (s := t) hc hq
    rw [e, UInt64.toNat_ofNat']
    omega
/-- whole numbers -/
theorem fl_i64 (a : Int32) : ∃ s c q, FP.Core.decode FP.Core.b64 (FP.i2d a).toNat = .fin s c q ∧ (c = 0 → a = 0) := by
  have e2 : 2 ^ FP.Core.b64.p = 9007199254740992 := by decide
  have eq_ : FP.Core.b64.qmax = 971 := by decide
  have r1 := a.toInt_lt
  have r2 := a.le_toInt
  have hh : ∀ s c q, c < 9007199254740992 → q ≤ 971 → (c = 0 → a = 0) → FP.Core.round FP.Core.b64 (FP.Core.ofInt a.toInt) = .fin s c q → ∃ s c q, FP.Core.decode FP.Core.b64 (FP.i2d a).toNat = .fin s c q ∧ (c = 0 → a = 0) := fun s c q hc hq z e => by
    obtain ⟨x1, x2, x3⟩ := fl_enc64 (s := s) hc hq
    have en : (FP.i2d a).toNat = FP.Core.encode FP.Core.b64 (.fin s c q) := by
      show (UInt64.ofNat (FP.Core.encode FP.Core.b64 (FP.Core.round FP.Core.b64 (FP.Core.ofInt a.toInt)))).toNat = _
      rw [e, UInt64.toNat_ofNat']
      omega
    rw [en]
    rcases fl_dec64 (n := FP.Core.encode FP.Core.b64 (.fin s c q)) (by omega) with ⟨t, y, y2⟩ | ⟨t, c2, q2, y, y2⟩
    · omega
    · exact ⟨t, c2, q2, y, fun w => z (Classical.byContradiction fun v => x3 v (y2 w))⟩
  by_cases n : a.toInt.natAbs = 0
  · refine hh _ 0 (-1074) (by decide) (by decide) (fun _ => ?_) (show (if a.toInt.natAbs = 0 then _ else _) = _ by rw [if_pos n]; rfl)
    exact Int32.toInt_inj.mp (by rw [Int.natAbs_eq_zero.mp n]; rfl)
  · obtain ⟨t, c, q, e, hc, hq, nz⟩ := fl_int (f := FP.Core.b64) (by decide) (by decide) (by decide) (decide (a.toInt < 0)) n (by omega)
    rw [e2] at hc
    rw [eq_] at hq
    exact hh t c q hc hq (fun z => absurd z nz) e
theorem fl_div64 {a b : Int32} (hb : b ≠ 0) : (FP.ddiv (FP.i2d a) (FP.i2d b)).toNat % 9223372036854775808 ≤ 9218868437227405312 := by
  obtain ⟨s, c, q, e, -⟩ := fl_i64 a
  obtain ⟨t, d, r, e2, z⟩ := fl_i64 b
  have d0 : ¬ d = 0 := fun y => hb (z y)
  refine fl_out64 (d := FP.Core.quotient FP.Core.b64 (FP.Core.decode FP.Core.b64 (FP.i2d a).toNat) (FP.Core.decode FP.Core.b64 (FP.i2d b).toNat)) ?_
  rw [e, e2]
  unfold FP.Core.quotient
  dsimp only
  rw [if_neg d0]
  exact fl_rr (by decide) (by decide) _ _ _ _
theorem xn64_nn {r : UInt64} (h : r.toNat % 9223372036854775808 ≤ 9218868437227405312) : xn64 r = true := by
  refine decide_eq_true ?_
  rw [UInt64.le_iff_toNat_le, UInt64.toNat_and, show (0x7fffffffffffffff : UInt64).toNat = 2 ^ 63 - 1 from rfl, Nat.and_two_pow_sub_one_eq_mod]
  exact h
theorem fl_enc32 {s : Bool} {c : Nat} {q : Int} (hc : c < 16777216) (hq : q ≤ 104) : FP.Core.encode FP.Core.b32 (.fin s c q) < 4294967296 ∧ FP.Core.encode FP.Core.b32 (.fin s c q) % 2147483648 < 2139095040 ∧ (¬ c = 0 → ¬ FP.Core.encode FP.Core.b32 (.fin s c q) % 2147483648 = 0) := by
  have et : FP.Core.b32.tails = 8388608 := by decide
  have ee : FP.Core.b32.exps = 256 := by decide
  have eq_ : FP.Core.b32.qmin = -149 := by decide
  unfold FP.Core.encode FP.Core.assemble
  dsimp only
  rw [et, ee, eq_]
  by_cases a : c < 8388608
  · rw [if_pos a]
    cases s
    · show (0 * 256 + 0) * 8388608 + c < _ ∧ ((0 * 256 + 0) * 8388608 + c) % _ < _ ∧ (_ → ¬ ((0 * 256 + 0) * 8388608 + c) % _ = 0); omega
    · show (1 * 256 + 0) * 8388608 + c < _ ∧ ((1 * 256 + 0) * 8388608 + c) % _ < _ ∧ (_ → ¬ ((1 * 256 + 0) * 8388608 + c) % _ = 0); omega
  · rw [if_neg a]
    obtain ⟨e, he⟩ : ∃ e : Nat, (q - -149).toNat + 1 = e := ⟨_, rfl⟩
    rw [he]
    have e1 : e ≤ 256 - 2 := by omega
    have e2 : 1 ≤ e := by omega
    cases s
    · show (0 * 256 + e) * 8388608 + (c - 8388608) < _ ∧ ((0 * 256 + e) * 8388608 + (c - 8388608)) % _ < _ ∧ (_ → ¬ ((0 * 256 + e) * 8388608 + (c - 8388608)) % _ = 0); omega
    · show (1 * 256 + e) * 8388608 + (c - 8388608) < _ ∧ ((1 * 256 + e) * 8388608 + (c - 8388608)) % _ < _ ∧ (_ → ¬ ((1 * 256 + e) * 8388608 + (c - 8388608)) % _ = 0); omega
theorem fl_inf32 (s : Bool) : FP.Core.encode FP.Core.b32 (.inf s) < 4294967296 ∧ FP.Core.encode FP.Core.b32 (.inf s) % 2147483648 = 2139095040 := by cases s <;> decide
theorem fl_dec32 {n : Nat} (h : n % 2147483648 ≤ 2139095040) : (∃ s, FP.Core.decode FP.Core.b32 n = .inf s ∧ n % 2147483648 = 2139095040) ∨ ∃ s c q, FP.Core.decode FP.Core.b32 n = .fin s c q ∧ (c = 0 → n % 2147483648 = 0) := by
  have et : FP.Core.b32.tails = 8388608 := by decide
  have ee : FP.Core.b32.exps = 256 := by decide
  unfold FP.Core.decode FP.Core.fieldE FP.Core.fieldT
  rw [et, ee]
  by_cases a : n / 8388608 % 256 = 256 - 1
  · rw [if_pos a, if_pos (show n % 8388608 = 0 by omega)]; exact .inl ⟨_, rfl, by omega⟩
  · rw [if_neg a]
    by_cases b : n / 8388608 % 256 = 0
    · rw [if_pos b]; exact .inr ⟨_, _, _, rfl, fun z => by omega⟩
    · rw [if_neg b]; exact .inr ⟨_, _, _, rfl, fun z => by omega⟩
theorem fl_nn32 {n : Nat} (h : n % 2147483648 ≤ 2139095040) : ¬ FP.Core.decode FP.Core.b32 n = .nan := fun z => by
  rcases fl_dec32 h with ⟨s, e, -⟩ | ⟨s, c, q, e, -⟩
  · rw [e] at z; cases z
  · rw [e] at z; cases z
theorem fl_out32 {d : FP.Core.Datum} (h : (∃ t, d = .inf t) ∨ ∃ t c q, d = .fin t c q ∧ c < 2 ^ FP.Core.b32.p ∧ q ≤ FP.Core.b32.qmax) : (UInt32.ofNat (FP.Core.encode FP.Core.b32 d)).toNat % 2147483648 ≤ 2139095040 := by
  have e2 : 2 ^ FP.Core.b32.p = 16777216 := by decide
  have eq_ : FP.Core.b32.qmax = 104 := by decide
  rcases h with ⟨t, e⟩ | ⟨t, c, q, e, hc, hq⟩
  · have := fl_inf32 t
    rw [e, UInt32.toNat_ofNat']
    omega
  · rw [e2] at hc
    rw [eq_] at hq
    have := fl_enc32 (s := t) hc hq
    rw [e, UInt32.toNat_ofNat']
    omega
/-- whole numbers -/
theorem fl_i32 (a : Int32) : ∃ s c q, FP.Core.decode FP.Core.b32 (FP.i2f a).toNat = .fin s c q ∧ (c = 0 → a = 0) := by
  have e2 : 2 ^ FP.Core.b32.p = 16777216 := by decide
  have eq_ : FP.Core.b32.qmax = 104 := by decide
  have r1 := a.toInt_lt
  have r2 := a.le_toInt
  have hh : ∀ s c q, c < 16777216 → q ≤ 104 → (c = 0 → a = 0) → FP.Core.round FP.Core.b32 (FP.Core.ofInt a.toInt) = .fin s c q → ∃ s c q, FP.Core.decode FP.Core.b32 (FP.i2f a).toNat = .fin s c q ∧ (c = 0 → a = 0) := fun s c q hc hq z e => by
    obtain ⟨x1, x2, x3⟩ := fl_enc32 (s := s) hc hq
    have en : (FP.i2f a).toNat = FP.Core.encode FP.Core.b32 (.fin s c q) := by
      show (UInt32.ofNat (FP.Core.encode FP.Core.b32 (FP.Core.round FP.Core.b32 (FP.Core.ofInt a.toInt)))).toNat = _
      rw [e, UInt32.toNat_ofNat']
      omega
    rw [en]
    rcases fl_dec32 (n := FP.Core.encode FP.Core.b32 (.fin s c q)) (by omega) with ⟨t, y, y2⟩ | ⟨t, c2, q2, y, y2⟩
    · omega
    · exact ⟨t, c2, q2, y, fun w => z (Classical.byContradiction fun v => x3 v (y2 w))⟩
  by_cases n : a.toInt.natAbs = 0
  · refine hh _ 0 (-149) (by decide) (by decide) (fun _ => ?_) (show (if a.toInt.natAbs = 0 then _ else _) = _ by rw [if_pos n]; rfl)
    exact Int32.toInt_inj.mp (by rw [Int.natAbs_eq_zero.mp n]; rfl)
  · obtain ⟨t, c, q, e, hc, hq, nz⟩ := fl_int (f := FP.Core.b32) (by decide) (by decide) (by decide) (decide (a.toInt < 0)) n (by omega)
    rw [e2] at hc
    rw [eq_] at hq
    exact hh t c q hc hq (fun z => absurd z nz) e
theorem fl_div32 {a b : Int32} (hb : b ≠ 0) : (FP.fdiv (FP.i2f a) (FP.i2f b)).toNat % 2147483648 ≤ 2139095040 := by
  obtain ⟨s, c, q, e, -⟩ := fl_i32 a
  obtain ⟨t, d, r, e2, z⟩ := fl_i32 b
  have d0 : ¬ d = 0 := fun y => hb (z y)
  refine fl_out32 (d := FP.Core.quotient FP.Core.b32 (FP.Core.decode FP.Core.b32 (FP.i2f a).toNat) (FP.Core.decode FP.Core.b32 (FP.i2f b).toNat)) ?_
  rw [e, e2]
  unfold FP.Core.quotient
  dsimp only
  rw [if_neg d0]
  exact fl_rr (by decide) (by decide) _ _ _ _
theorem xn32_nn {r : UInt32} (h : r.toNat % 2147483648 ≤ 2139095040) : xn32 r = true := by
  refine decide_eq_true ?_
  rw [UInt32.le_iff_toNat_le, UInt32.toNat_and, show (0x7fffffff : UInt32).toNat = 2 ^ 31 - 1 from rfl, Nat.and_two_pow_sub_one_eq_mod]
  exact h
theorem mean_nn {a b : Int32} (hb : b ≠ 0) : (FP.ddiv (FP.i2d a) (FP.i2d b)).toNat % 9223372036854775808 ≤ 9218868437227405312 := fl_div64 hb
theorem share_nn {a b : Int32} (hb : b ≠ 0) : (FP.fdiv (FP.i2f a) (FP.i2f b)).toNat % 2147483648 ≤ 2139095040 := fl_div32 hb
theorem f2d_nn {r : UInt32} (h : r.toNat % 2147483648 ≤ 2139095040) : (FP.f2d r).toNat % 9223372036854775808 ≤ 9218868437227405312 := by
  have n : FP.Core.fIsNaN r = false := decide_eq_false (fl_nn32 h)
  unfold FP.f2d
  rw [n, if_neg (by decide)]
  refine fl_out64 (d := FP.Core.round FP.Core.b64 (FP.Core.decode FP.Core.b32 r.toNat)) ?_
  rcases fl_dec32 h with ⟨s, e, -⟩ | ⟨s, c, q, e, -⟩
  · rw [e]; exact .inl ⟨s, rfl⟩
  · rw [e]; exact fl_rr (by decide) (by decide) _ _ _ _
theorem dcmp_0 {r : UInt64} (h : r.toNat % 9223372036854775808 ≤ 9218868437227405312) : (Op.cmpValue (FP.dcmp r r) .l).toInt = 0 := by
  rw [show FP.dcmp r r = some .eq from fl_self (fl_nn64 h)]
  rfl
def sizeN (N : Nat → Int) (f : Nat → Int) : Int := sumN 12 (fun p => if f p = -1 then 0 else nV N (slF N f p).toNat 3)
def meanX (N : Nat → Int) (f : Nat → Int) : UInt64 := if ((cntN 12 (fun p => !decide (f p = -1)) : Nat) : Int) = 0 then FP.dconst0 else FP.ddiv (FP.i2d (J (sizeN N f))) (FP.i2d (J ((cntN 12 (fun p => !decide (f p = -1)) : Nat) : Int)))
def shareX (N : Nat → Int) (r : Nat) (f : Nat → Int) : UInt32 := if nR N r 22 = 0 then FP.fconst0 else FP.fdiv (FP.i2f (J (sizeN N f))) (FP.i2f (J (nR N r 22)))
theorem meanX_nn (N : Nat → Int) (f : Nat → Int) : (meanX N f).toNat % 9223372036854775808 ≤ 9218868437227405312 := by
  have c := cntN_le (fun p => !decide (f p = -1)) 12
  unfold meanX
  split
  · decide
  · next n => exact mean_nn (J_ne (by unfold rg; omega) n)
theorem shareX_nn (N : Nat → Int) (r : Nat) (f : Nat → Int) (b : 0 ≤ nR N r 22 ∧ nR N r 22 ≤ 40000) : (shareX N r f).toNat % 2147483648 ≤ 2139095040 := by
  unfold shareX
  split
  · decide
  · next n => exact share_nn (J_ne (by unfold rg; omega) n)
set_option maxHeartbeats 1000000 in
theorem c_X12_meanSize {h : XH} {N : Nat → Int} {nd : Nat → ND} {m : Nat} (T : HT h) (C : CS h 8 N nd) (W : WF N m) {K : UInt64 → Prop} (k : K (meanX N (inst N (rh N)))) : w_X12_meanSize K h := by
  unfold w_X12_meanSize
  have hr := rh_lt W
  have w22 := (W.2.1 (rh N) hr).2.2.2.2.2.2.2
  have cn := cntN_le (fun p => !decide (inst N (rh N) p = -1)) 12
  refine c_atH C W ?_
  refine ⟨(rc_k T hr), ?_⟩
  refine c_X12_packsIn ?_
  rw [many_F W.1 (CS_i C hr)]
  intro _
  refine ⟨fun c6 => ?_, fun c6 => ?_⟩
  · refine c_X12_size T C W ?_
    intro _
    refine ⟨(xn64_nn (mean_nn (J_ne (by unfold rg; omega) c6))), ?_⟩
    unfold meanX at k
    rw [if_neg c6] at k
    exact k
  · unfold meanX at k
    rw [if_pos (Decidable.not_not.mp c6)] at k
    exact k
set_option maxHeartbeats 1000000 in
theorem c_X14_meanSize {h : XH} {N : Nat → Int} {m : Nat} (T : HT h) (eN : N = nw h) (W : WF N m) (fi : fOK N (inst N (rh N))) {K : UInt64 → XH → Prop} (k : ∀ h1 h2, HT h1 → h1 = sI h 437 5 0 → Fr (fun _ => False) h1 h2 → Gr 1 (n12) h1 h2 → K (meanX N (inst N (rh N))) h2) : w_X14_meanSize K h := by
  unfold w_X14_meanSize
  have hr := rh_lt W
  have w22 := (W.2.1 (rh N) hr).2.2.2.2.2.2.2
  have cn := cntN_le (fun p => !decide (inst N (rh N) p = -1)) 12
  intro h1 eh1 t1 u1
  have eN1 : N = nw h1 := eN.trans (nw_fr (by rw [eh1]; exact sameC_sV (by decide))).symm
  refine c_iS t1 eN1 W ?_
  intro a2 h3 f3 g3 l3 A3
  intro t3 u3
  have eN3 : N = nw h3 := eN1.trans (nw_F t1 f3).symm
  have k3 := k _ _ t1 eh1 f3 g3
  refine c_X14_manyIn A3 ?_
  intro _
  refine ⟨fun y => y = meanX N (inst N (rh N)), ?_, ?_⟩
  · intro f5 z6
    rw [z6]
    exact k3
  · refine ⟨fun c9 => ?_, fun c9 => ?_⟩
    · refine c_X14_sizeOf eN3 W.1 A3 fi ?_
      intro _
      refine ⟨(xn64_nn (mean_nn (J_ne (by unfold rg; omega) c9))), ?_⟩
      unfold meanX
      rw [if_neg c9]
      rfl
    · unfold meanX
      rw [if_pos (Decidable.not_not.mp c9)]
set_option maxHeartbeats 1000000 in
theorem c_X12_share {h : XH} {N : Nat → Int} {nd : Nat → ND} {m : Nat} (T : HT h) (C : CS h 8 N nd) (W : WF N m) {K : UInt32 → Prop} (k : K (shareX N (rh N) (inst N (rh N)))) : w_X12_share K h := by
  unfold w_X12_share
  have hr := rh_lt W
  have w22 := (W.2.1 (rh N) hr).2.2.2.2.2.2.2
  have cn := cntN_le (fun p => !decide (inst N (rh N) p = -1)) 12
  have e4 := (R8 (C.2.2.1 (rh N) hr)).2.2.2.2.1
  refine c_atH C W ?_
  refine ⟨(rc_k T hr), ?_⟩
  intro x3 ex3 rx3
  rw [e4] at ex3
  subst ex3
  refine ⟨fun c6 => ?_, fun c6 => ?_⟩
  · refine c_X12_size T C W ?_
    intro _
    refine ⟨(xn32_nn (share_nn (J_ne (by unfold rg; omega) c6))), ?_⟩
    unfold shareX at k
    rw [if_neg c6] at k
    exact k
  · unfold shareX at k
    rw [if_pos (Decidable.not_not.mp c6)] at k
    exact k
set_option maxHeartbeats 1000000 in
theorem c_X14_share {h : XH} {N : Nat → Int} {m : Nat} (T : HT h) (eN : N = nw h) (W : WF N m) (fi : fOK N (inst N (rh N))) {K : UInt32 → XH → Prop} (k : ∀ h1 h2, HT h1 → h1 = sI h 437 5 0 → Fr (fun _ => False) h1 h2 → Gr 1 (n12) h1 h2 → K (shareX N (rh N) (inst N (rh N))) h2) : w_X14_share K h := by
  unfold w_X14_share
  have hr := rh_lt W
  have w22 := (W.2.1 (rh N) hr).2.2.2.2.2.2.2
  have cn := cntN_le (fun p => !decide (inst N (rh N) p = -1)) 12
  intro h1 eh1 t1 u1
  have eN1 : N = nw h1 := eN.trans (nw_fr (by rw [eh1]; exact sameC_sV (by decide))).symm
  refine c_X14_rootAt (by omega) (r := rh N) (by rw [← hr_ eN1 W]) hr ?_
  intro x2 ex2
  rw [← eN1] at ex2
  replace ex2 : x2 = nR N (rh N) 22 := ex2
  subst ex2
  intro rx2
  refine ⟨fun y g => y = shareX N (rh N) (inst N (rh N)) ∧ Fr (fun _ => False) h1 g ∧ Gr 1 n12 h1 g, ?_, ?_⟩
  · intro f3 h4 t4 s4 z5
    rw [z5.1]
    exact k _ _ t1 eh1 z5.2.1 z5.2.2
  · refine ⟨fun c10 => ?_, fun c10 => ?_⟩
    · refine c_iS t1 eN1 W ?_
      intro a6 h7 f7 g7 l7 A7
      intro t7 u7
      have eN7 : N = nw h7 := eN1.trans (nw_F t1 f7).symm
      refine c_X14_sizeOf eN7 W.1 A7 fi ?_
      intro _
      refine ⟨(xn32_nn (share_nn (J_ne (by unfold rg; omega) c10))), ?_⟩
      refine ⟨?_, f7, g7⟩
      unfold shareX
      rw [if_neg c10]
      rfl
    · refine ⟨?_, Fr_rf _ _, Gr_mono (Gr_rf _) (by omega) (by omega)⟩
      unfold shareX
      rw [if_pos (Decidable.not_not.mp c10)]
theorem d_meanSize {h : XH} {nd : Nat → ND} {o u : Int} {c : Nat} (T : HT h) (R : Inv h nd o u c) {K : Int → XH → Prop} {J : XH → Prop} (k : ∀ h' o' u', HT h' → Inv h' nd o' u' (c + 1) → Gr 1 n12 h h' → J h') : w_X12_meanSize (fun f594 => (w_X14_meanSize (fun f595 h596 => HT h596 → HX h h596 → (∃ J597 : Prop, (J597 → (J h596)) ∧ ((((Op.cmpValue (FP.dcmp (f594) (f595)) .l).toInt = 0) → J597) ∧ (¬ ((Op.cmpValue (FP.dcmp (f594) (f595)) .l).toInt = 0) → (∃ J598 : Prop, (J598 → (K 0 h596)) ∧ ((((Op.cmpValue (FP.dcmp (f594) (f594)) .l).toInt = 0) → J598) ∧ (¬ ((Op.cmpValue (FP.dcmp (f594) (f594)) .l).toInt = 0) → (((¬ ((Op.cmpValue (FP.dcmp (f595) (f595)) .l).toInt = 0) → J597) ∧ (¬ (¬ ((Op.cmpValue (FP.dcmp (f595) (f595)) .l).toInt = 0)) → J598)))))))))) h)) h := by
  have W := R.1.2.1
  have C := R.1.1
  have nn := meanX_nn (nw h) (inst (nw h) (rh (nw h)))
  refine c_X12_meanSize T C W ?_
  refine c_X14_meanSize T rfl W (CS_fi C W) (fun h1 h2 t1 e1 f g => ?_)
  intro t2 u2
  have A := (Ask_a T R t1 e1 f g).1
  exact ⟨True, fun _ => k h2 o u t2 (Inv_mono (Nat.le_succ c) A.1) A.2.2, fun _ => trivial, fun n => (n (dcmp_0 nn)).elim⟩
theorem d_share {h : XH} {nd : Nat → ND} {o u : Int} {c : Nat} (T : HT h) (R : Inv h nd o u c) {K : Int → XH → Prop} {J : XH → Prop} (k : ∀ h' o' u', HT h' → Inv h' nd o' u' (c + 1) → Gr 1 n12 h h' → J h') : w_X12_share (fun f602 => (xn64 (FP.f2d f602) = true ∧ w_X14_share (fun f604 h605 => HT h605 → HX h h605 → (xn64 (FP.f2d f604) = true ∧ ∃ J597 : Prop, (J597 → (J h605)) ∧ ((((Op.cmpValue (FP.dcmp (FP.f2d f602) (FP.f2d f604)) .l).toInt = 0) → J597) ∧ (¬ ((Op.cmpValue (FP.dcmp (FP.f2d f602) (FP.f2d f604)) .l).toInt = 0) → (∃ J598 : Prop, (J598 → (K 0 h605)) ∧ ((((Op.cmpValue (FP.dcmp (FP.f2d f602) (FP.f2d f602)) .l).toInt = 0) → J598) ∧ (¬ ((Op.cmpValue (FP.dcmp (FP.f2d f602) (FP.f2d f602)) .l).toInt = 0) → (((¬ ((Op.cmpValue (FP.dcmp (FP.f2d f604) (FP.f2d f604)) .l).toInt = 0) → J597) ∧ (¬ (¬ ((Op.cmpValue (FP.dcmp (FP.f2d f604) (FP.f2d f604)) .l).toInt = 0)) → J598)))))))))) h)) h := by
  have W := R.1.2.1
  have C := R.1.1
  have w22 := (W.2.1 (rh (nw h)) (rh_lt W)).2.2.2.2.2.2.2
  have nn := f2d_nn (shareX_nn (nw h) (rh (nw h)) (inst (nw h) (rh (nw h))) ⟨w22.1, w22.2.1⟩)
  refine c_X12_share T C W ?_
  refine ⟨xn64_nn nn, ?_⟩
  refine c_X14_share T rfl W (CS_fi C W) (fun h1 h2 t1 e1 f g => ?_)
  intro t2 u2
  have A := (Ask_a T R t1 e1 f g).1
  exact ⟨xn64_nn nn, True, fun _ => k h2 o u t2 (Inv_mono (Nat.le_succ c) A.1) A.2.2, fun _ => trivial, fun n => (n (dcmp_0 nn)).elim⟩
