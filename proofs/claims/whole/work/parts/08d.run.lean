/-! RUNS WITH FRAMES BELOW -/
abbrev XF : Type := Nat × Nat × XL × List Value
section XR
variable (P : XP) (sc : Nat × (Nat → Int32)) (goal : XO → XH → Prop)
/-- what came back to the frames below ends well -/
def XFin : List XF → XO → XH → Prop
  | [], o, h => goal o h
  | f :: fs, .inl v, h => ∃ n0 o h1, (∀ n, n0 ≤ n → xrun P sc n (1000 - fs.length) f.1 (f.2.1 + 3) f.2.2.1 (v.toList ++ f.2.2.2) h = some (o, h1)) ∧ XFin fs o h1
  | f :: fs, .inr x, h => ∃ M, P.meth f.1 = some M ∧ ((M.hh = [] ∧ XFin fs (.inr x) h) ∨ (¬ M.hh = [] ∧ ∃ k, xhand P f.1 M f.2.2.1 f.2.1 x = some k ∧ xokr M.ret (some (.int k)) = true ∧ XFin fs (.inl (some (.int k))) h))
def XRun (fs : List XF) (mi pc : Nat) (ls : XL) (st : List Value) (h : XH) : Prop := ∃ n0 o h1, (∀ n, n0 ≤ n → xrun P sc n (1000 - fs.length) mi pc ls st h = some (o, h1)) ∧ XFin P sc goal fs o h1
end XR
section XS2
variable {P : XP} {sc : Nat × (Nat → Int32)} {goal : XO → XH → Prop} {fs : List XF} {mi pc : Nat} {ls : XL} {st : List Value} {h : XH} {i : Instr}
theorem xr_next {pc1 : Nat} {ls1 : XL} {st1 : List Value} {h1 : XH} (hi : P.code mi pc = some i) (hs : xstep P sc mi pc i ls st h = some (.inl (pc1, ls1, st1, h1))) (k : XRun P sc goal fs mi pc1 ls1 st1 h1) : XRun P sc goal fs mi pc ls st h := by
  obtain ⟨n0, o, h2, a, b⟩ := k
  refine ⟨n0 + 1, o, h2, fun n hn => ?_, b⟩
  obtain ⟨k, rfl⟩ : ∃ k, n = k + 1 := ⟨n - 1, by omega⟩
  unfold xrun
  rw [hi]
  dsimp only
  rw [hs]
  exact a k (by omega)
theorem xr_ret {v : Option Value} {M : XM} (hi : P.code mi pc = some i) (hs : xstep P sc mi pc i ls st h = some (.inr (.inl v))) (hM : P.meth mi = some M) (hv : xokr M.ret v = true) (k : XFin P sc goal fs (.inl v) h) : XRun P sc goal fs mi pc ls st h := by
  refine ⟨1, .inl v, h, fun n hn => ?_, k⟩
  obtain ⟨k, rfl⟩ : ∃ k, n = k + 1 := ⟨n - 1, by omega⟩
  unfold xrun
  rw [hi]
  dsimp only
  rw [hs]
  dsimp only
  rw [hM]
  dsimp only
  rw [if_pos hv]
theorem xr_throw {x : Nat} (hi : P.code mi pc = some i) (hs : xstep P sc mi pc i ls st h = some (.inr (.inr (.inr x)))) (k : XFin P sc goal fs (.inr x) (h ++ [none])) : XRun P sc goal fs mi pc ls st h := by
  refine ⟨1, .inr x, h ++ [none], fun n hn => ?_, k⟩
  obtain ⟨k, rfl⟩ : ∃ k, n = k + 1 := ⟨n - 1, by omega⟩
  unfold xrun
  rw [hi]
  dsimp only
  rw [hs]
theorem xr_call {mj : Nat} {av r : List Value} {M M2 : XM} {l0 : XL} (hi : P.code mi pc = some i) (hs : xstep P sc mi pc i ls st h = some (.inr (.inr (.inl (mj, av, r))))) (hM : P.meth mi = some M) (hM2 : P.meth mj = some M2) (hl : xentry M2.maxL av = some l0) (hd : fs.length < 1000)
    (k : XRun P sc goal ((mi, pc, ls, r) :: fs) mj 0 l0 [] h) : XRun P sc goal fs mi pc ls st h := by
  obtain ⟨n1, o1, h1, a1, b1⟩ := k
  have hd1 : 1000 - fs.length = (1000 - ((mi, pc, ls, r) :: fs).length) + 1 := by rw [List.length_cons]; omega
  cases o1 with
  | inl v =>
    obtain ⟨n2, o2, h2, a2, b2⟩ := b1
    refine ⟨max n1 n2 + 1, o2, h2, fun n hn => ?_, b2⟩
    obtain ⟨k, rfl⟩ : ∃ k, n = k + 1 := ⟨n - 1, by omega⟩
    unfold xrun
    rw [hi]
    dsimp only
    rw [hs]
    dsimp only
    rw [hd1, hM, hM2]
    dsimp only
    rw [hl]
    dsimp only
    rw [a1 k (by omega)]
    dsimp only
    rw [← hd1]
    exact a2 k (by omega)
  | inr x =>
    obtain ⟨M0, hM0, hh⟩ := b1
    cases (Option.some.inj (hM0.symm.trans hM))
    rcases hh with ⟨hn, b⟩ | ⟨hn, k0, hk, hr, b⟩
    · refine ⟨n1 + 1, .inr x, h1, fun n hn2 => ?_, b⟩
      obtain ⟨k, rfl⟩ : ∃ k, n = k + 1 := ⟨n - 1, by omega⟩
      unfold xrun
      rw [hi]
      dsimp only
      rw [hs]
      dsimp only
      rw [hd1, hM, hM2]
      dsimp only
      rw [hl]
      dsimp only
      rw [a1 k (by omega)]
      dsimp only
      rw [hn]
    · refine ⟨n1 + 1, .inl (some (.int k0)), h1, fun n hn2 => ?_, b⟩
      obtain ⟨k, rfl⟩ : ∃ k, n = k + 1 := ⟨n - 1, by omega⟩
      unfold xrun
      rw [hi]
      dsimp only
      rw [hs]
      dsimp only
      rw [hd1, hM, hM2]
      dsimp only
      rw [hl]
      dsimp only
      rw [a1 k (by omega)]
      dsimp only
      split
      · next z => exact absurd z hn
      · rw [hk]
        dsimp only
        rw [if_pos hr]
end XS2
/-! NUMBERS -/
def bia (x : Int32) : Nat := (x.toUInt32.toNat + 2147483648) % 4294967296
theorem i32_lt (x : Int32) : x.toUInt32.toNat < 4294967296 := x.toUInt32.toBitVec.isLt
theorem i32_ext {x y : Int32} (h : x.toUInt32.toNat = y.toUInt32.toNat) : x = y := Int32.toBitVec_inj.mp (BitVec.eq_of_toNat_eq h)
theorem i32_of (c : Nat) : (Int32.ofNat c).toUInt32.toNat = c % 4294967296 := by
  show (BitVec.ofNat 32 c).toNat = c % 2 ^ 32
  exact BitVec.toNat_ofNat ..
theorem i32_ofEq {a b : Nat} (h : a % 4294967296 = b % 4294967296) : Int32.ofNat a = Int32.ofNat b := i32_ext (by rw [i32_of, i32_of, h])
theorem i32_back (x : Int32) : Int32.ofNat x.toUInt32.toNat = x := i32_ext (by rw [i32_of]; exact Nat.mod_eq_of_lt (i32_lt x))
theorem i64_back (x : Int64) : Int64.ofNat x.toUInt64.toNat = x := by
  apply Int64.toBitVec_inj.mp
  apply BitVec.eq_of_toNat_eq
  show (BitVec.ofNat 64 x.toUInt64.toNat).toNat = x.toUInt64.toNat
  exact (BitVec.toNat_ofNat ..).trans (Nat.mod_eq_of_lt x.toUInt64.toBitVec.isLt)
theorem i64_ext {x y : Int64} (h : x.toUInt64.toNat = y.toUInt64.toNat) : x = y := Int64.toBitVec_inj.mp (BitVec.eq_of_toNat_eq h)
theorem bia_lt (x : Int32) : bia x < 4294967296 := Nat.mod_lt _ (by decide)
theorem bia_int (x : Int32) : x.toInt = (bia x : Int) - 2147483648 := by
  have h : x.toInt = x.toBitVec.toInt := rfl
  have h3 := i32_lt x
  rw [h, BitVec.toInt_eq_toNat_cond]
  have h2 : x.toBitVec.toNat = x.toUInt32.toNat := rfl
  unfold bia
  rw [h2]
  split <;> omega
theorem bia_of (c : Nat) : bia (Int32.ofNat c) = (c + 2147483648) % 4294967296 := by
  unfold bia
  rw [i32_of]
  omega
theorem bia_back (x : Int32) : x = Int32.ofNat ((bia x + 2147483648) % 4294967296) := by
  apply i32_ext
  rw [i32_of]
  have h3 := i32_lt x
  unfold bia
  omega
theorem bia_ltI {x y : Int32} : x < y ↔ bia x < bia y := by
  rw [Int32.lt_iff_toInt_lt, bia_int, bia_int]
  omega
theorem bia_eqI {x y : Int32} (h : bia x = bia y) : x = y := by rw [bia_back x, bia_back y, h]
theorem i32_nat {c : Nat} (h : c < 2147483648) : ¬ Int32.ofNat c < 0 ∧ (Int32.ofNat c).toNatClampNeg = c := by
  have e : (Int32.ofNat c).toInt = (c : Int) := by
    rw [bia_int, bia_of]
    omega
  refine ⟨fun z => ?_, ?_⟩
  · rw [Int32.lt_iff_toInt_lt, e] at z
    have : (0 : Int32).toInt = 0 := rfl
    omega
  · show (Int32.ofNat c).toInt.toNat = c
    rw [e]
    rfl
