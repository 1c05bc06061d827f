/-! WHAT IS ASKED, AS FUNCTIONS OF THE ROW: counts, masks, the first one -/
def cntN : Nat → (Nat → Bool) → Nat
  | 0, _ => 0
  | n + 1, g => cntN n g + (if g n = true then 1 else 0)
def sumN : Nat → (Nat → Int) → Int
  | 0, _ => 0
  | n + 1, g => sumN n g + g n
/-- the bits j < n with P, as a long -/
def orN : Nat → (Nat → Bool) → BitVec 64
  | 0, _ => 0#64
  | n + 1, P => orN n P ||| (if P n = true then bit1 n else 0#64)
/-- the bits j < n with P, as a number -/
def orM : Nat → (Nat → Bool) → Nat
  | 0, _ => 0
  | n + 1, P => orM n P ||| (if P n = true then 2 ^ n else 0)
/-- the first i < n with P; -1 -/
def fnd : Nat → (Nat → Bool) → Int
  | 0, _ => -1
  | n + 1, P => if fnd n P = -1 then (if P n = true then (n : Int) else -1) else fnd n P
def popc (b : BitVec 64) : Nat := cntN 64 b.getLsbD
theorem orN_at (P : Nat → Bool) (j : Nat) : ∀ n, n ≤ 64 → (orN n P).getLsbD j = (decide (j < n) && P j) := by
  intro n
  induction n with
  | zero => intro _; unfold orN; rw [BitVec.getLsbD_zero]; simp
  | succ n ih =>
    intro hn
    unfold orN
    rw [BitVec.getLsbD_or, ih (by omega)]
    by_cases p : P n = true
    · rw [if_pos p, bit1_at (by omega)]
      by_cases e : j = n
      · subst e; simp [p]
      · have : decide (j < n + 1) = decide (j < n) := decide_eq_decide.mpr (by omega)
        rw [this, decide_eq_false e, Bool.or_false]
    · rw [if_neg p, BitVec.getLsbD_zero, Bool.or_false]
      by_cases e : j = n
      · subst e
        have : P j = false := by cases h : P j with | true => exact absurd h p | false => rfl
        simp [this]
      · have : decide (j < n + 1) = decide (j < n) := decide_eq_decide.mpr (by omega)
        rw [this]
theorem orM_at (P : Nat → Bool) (j : Nat) : ∀ n, (orM n P).testBit j = (decide (j < n) && P j) := by
  intro n
  induction n with
  | zero => unfold orM; simp
  | succ n ih =>
    unfold orM
    rw [Nat.testBit_or, ih]
    by_cases p : P n = true
    · rw [if_pos p, Nat.testBit_two_pow]
      by_cases e : j = n
      · subst e; simp [p]
      · have : decide (j < n + 1) = decide (j < n) := decide_eq_decide.mpr (by omega)
        rw [this, decide_eq_false (fun z : n = j => e z.symm), Bool.or_false]
    · rw [if_neg p, Nat.zero_testBit, Bool.or_false]
      by_cases e : j = n
      · subst e
        have : P j = false := by cases h : P j with | true => exact absurd h p | false => rfl
        simp [this]
      · have : decide (j < n + 1) = decide (j < n) := decide_eq_decide.mpr (by omega)
        rw [this]
theorem orM_lt (P : Nat → Bool) : ∀ n, orM n P < 2 ^ n := by
  intro n
  induction n with
  | zero => exact Nat.one_pos
  | succ n ih =>
    unfold orM
    refine Nat.or_lt_two_pow (Nat.lt_of_lt_of_le ih (Nat.pow_le_pow_right (by decide) (by omega))) ?_
    by_cases p : P n = true
    · rw [if_pos p]; exact Nat.pow_lt_pow_right (by decide) (by omega)
    · rw [if_neg p]; exact Nat.two_pow_pos _
theorem fnd_cs (P : Nat → Bool) : ∀ n, (fnd n P = -1 ∧ ∀ j, j < n → P j = false) ∨ ∃ i : Nat, fnd n P = i ∧ i < n ∧ P i = true ∧ ∀ j, j < i → P j = false := by
  intro n
  induction n with
  | zero => exact .inl ⟨rfl, fun j hj => absurd hj (Nat.not_lt_zero _)⟩
  | succ n ih =>
    unfold fnd
    rcases ih with ⟨e, a⟩ | ⟨i, e, hi, pi, a⟩
    · rw [if_pos e]
      by_cases p : P n = true
      · rw [if_pos p]; exact .inr ⟨n, rfl, by omega, p, a⟩
      · rw [if_neg p]
        refine .inl ⟨rfl, fun j hj => ?_⟩
        by_cases q : j = n
        · rw [q]; cases h : P n with | true => exact absurd h p | false => rfl
        · exact a j (by omega)
    · rw [if_neg (by omega)]
      exact .inr ⟨i, e, by omega, pi, a⟩
theorem fnd_is {P : Nat → Bool} {n i : Nat} (hi : i < n) (p : P i = true) (a : ∀ j, j < i → P j = false) : fnd n P = i := by
  rcases fnd_cs P n with ⟨_, b⟩ | ⟨k, e, hk, pk, b⟩
  · rw [b i hi] at p; cases p
  · have : ¬ k < i := fun z => by rw [a k z] at pk; cases pk
    have : ¬ i < k := fun z => by rw [b i z] at p; cases p
    rw [e]
    omega
theorem fnd_no {P : Nat → Bool} {n : Nat} (a : ∀ j, j < n → P j = false) : fnd n P = -1 := by
  rcases fnd_cs P n with ⟨e, _⟩ | ⟨k, e, hk, pk, b⟩
  · exact e
  · rw [a k hk] at pk; cases pk
theorem cntN_cg {g k : Nat → Bool} : ∀ n, (∀ i, i < n → g i = k i) → cntN n g = cntN n k := by
  intro n
  induction n with
  | zero => intro _; rfl
  | succ n ih => intro a; unfold cntN; rw [ih (fun i hi => a i (by omega)), a n (by omega)]
theorem sumN_cg {g k : Nat → Int} : ∀ n, (∀ i, i < n → g i = k i) → sumN n g = sumN n k := by
  intro n
  induction n with
  | zero => intro _; rfl
  | succ n ih => intro a; unfold sumN; rw [ih (fun i hi => a i (by omega)), a n (by omega)]
theorem orN_cg {g k : Nat → Bool} : ∀ n, (∀ i, i < n → g i = k i) → orN n g = orN n k := by
  intro n
  induction n with
  | zero => intro _; rfl
  | succ n ih => intro a; unfold orN; rw [ih (fun i hi => a i (by omega)), a n (by omega)]
theorem orM_cg {g k : Nat → Bool} : ∀ n, (∀ i, i < n → g i = k i) → orM n g = orM n k := by
  intro n
  induction n with
  | zero => intro _; rfl
  | succ n ih => intro a; unfold orM; rw [ih (fun i hi => a i (by omega)), a n (by omega)]
theorem fnd_cg {g k : Nat → Bool} : ∀ n, (∀ i, i < n → g i = k i) → fnd n g = fnd n k := by
  intro n
  induction n with
  | zero => intro _; rfl
  | succ n ih => intro a; unfold fnd; rw [ih (fun i hi => a i (by omega)), a n (by omega)]
theorem cntN_le (g : Nat → Bool) : ∀ n, cntN n g ≤ n := by
  intro n
  induction n with
  | zero => exact Nat.le_refl _
  | succ n ih => unfold cntN; by_cases p : g n = true <;> simp [p] <;> omega
theorem sumN_0 {g : Nat → Int} : ∀ n, (∀ i, i < n → g i = 0) → sumN n g = 0 := by
  intro n
  induction n with
  | zero => intro _; rfl
  | succ n ih => intro a; unfold sumN; rw [ih (fun i hi => a i (by omega)), a n (by omega)]; rfl
theorem sumN_s (g : Nat → Int) (n : Nat) : sumN (n + 1) g = sumN n g + g n := rfl
theorem sumN_add (g k : Nat → Int) : ∀ n, sumN n (fun i => g i + k i) = sumN n g + sumN n k := by
  intro n
  induction n with
  | zero => rfl
  | succ n ih => rw [sumN_s, sumN_s, sumN_s, ih]; omega
theorem sumN_1 {g : Nat → Int} {i : Nat} : ∀ n, i < n → (∀ j, j < n → ¬ j = i → g j = 0) → sumN n g = g i := by
  intro n
  induction n with
  | zero => intro hi; omega
  | succ n ih =>
    intro hi a
    unfold sumN
    by_cases e : i = n
    · subst e
      rw [sumN_0 i (fun j hj => a j (by omega) (by omega))]; omega
    · rw [ih (by omega) (fun j hj n => a j (by omega) n), a n (by omega) (by omega)]; omega
theorem sumN_sw (g : Nat → Nat → Int) (m : Nat) : ∀ n, sumN n (fun i => sumN m (fun j => g i j)) = sumN m (fun j => sumN n (fun i => g i j)) := by
  intro n
  induction n with
  | zero => exact (sumN_0 m (fun _ _ => rfl)).symm
  | succ n ih => rw [sumN_s, ih, ← sumN_add]; rfl
theorem sumN_bd {g : Nat → Int} {c : Int} : ∀ n : Nat, (∀ i, i < n → 0 ≤ g i ∧ g i ≤ c) → 0 ≤ sumN n g ∧ sumN n g ≤ n * c := by
  intro n
  induction n with
  | zero => intro _; unfold sumN; omega
  | succ n ih =>
    intro a
    have := ih (fun i hi => a i (by omega))
    have := a n (by omega)
    unfold sumN
    have e : ((n + 1 : Nat) : Int) * c = n * c + c := by rw [Int.natCast_add, Int.add_mul]; simp
    omega
theorem cntN_s (g : Nat → Bool) : ∀ n, (cntN n g : Int) = sumN n (fun i => if g i = true then 1 else 0) := by
  intro n
  induction n with
  | zero => rfl
  | succ n ih => unfold cntN sumN; rw [← ih]; by_cases p : g n = true <;> simp [p]
/-! the row: which version, what is met, sets -/
def slotF (N : Nat → Int) (p c : Int) : Int := fnd (vc N) (fun v => decide (nV N v 0 = p) && decide (nV N v 1 = c))
theorem slotF_is {N : Nat → Int} {p c r : Int} {m : Nat} (W : WV N m) (s : isSlot N p c r) : r = slotF N p c := by
  refine isSlot_u W s ?_
  unfold slotF
  rcases fnd_cs (fun v => decide (nV N v 0 = p) && decide (nV N v 1 = c)) (vc N) with ⟨e, a⟩ | ⟨i, e, hi, pi, -⟩
  · refine .inr ⟨e, fun v hv z => ?_⟩
    have := a v hv
    simp only [Bool.and_eq_false_iff, decide_eq_false_iff_not] at this
    exact this.elim (fun y => y z.1) (fun y => y z.2)
  · simp only [Bool.and_eq_true, decide_eq_true_eq] at pi
    refine .inl ⟨by omega, ?_, ?_, ?_⟩
    · rw [e]; unfold vc at hi; omega
    · rw [e]; exact pi.1
    · rw [e]; exact pi.2
/-- the code in a set; the slot in a set -/
def cIn (f : Nat → Int) (p : Nat) : Int := if f p = -1 then -1 else f p % 1000000
def slF (N : Nat → Int) (f : Nat → Int) (p : Nat) : Int := if f p = -1 then -1 else slotF N p (f p % 1000000)
/-- whether the version v meets an atom of a need -/
def am (N : Nat → Int) (w : Int) (a : Int × List (Int × Int × Int)) (v : Nat) : Bool :=
  (decide (nV N v 0 = a.1) && rmet a.2 (nV N v 1)) || (decide (w = 0) && (List.range (nV N v 15).toNat).any fun g => decide (nV N v (16 + 2 * g) = a.1) && rmet a.2 (nV N v (17 + 2 * g)))
def nmet (N : Nat → Int) (d : ND) (v : Nat) : Bool := d.2.any fun a => am N d.1 a v
/-- the versions that meet a need -/
def nMask (N : Nat → Int) (d : ND) : BitVec 64 := orN (vc N) (nmet N d)
/-- the versions of a package, the oldest first -/
def insV (N : Nat → Int) (v : Nat) : List Nat → List Nat
  | [] => [v]
  | w :: l => if nV N w 1 > nV N v 1 then v :: w :: l else w :: insV N v l
def vslN (N : Nat → Int) (p : Nat) : Nat → List Nat
  | 0 => []
  | n + 1 => if nV N n 0 = p then insV N n (vslN N p n) else vslN N p n
def vsl (N : Nat → Int) (p : Nat) : List Nat := vslN N p (vc N)
/-- the versions of a package that have its option -/
def oMask (N : Nat → Int) (p : Nat) : BitVec 64 := orN (vc N) (fun v => decide (nV N v 0 = p) && decide (0 < nV N v 6))
def rng (d : ND) : List (Int × Int × Int) := (d.2.headD (0, [])).2
/-- the versions of a package that a pin rules out -/
def pMask (N : Nat → Int) (d : ND) (p : Nat) : BitVec 64 := orN (vc N) (fun v => decide (nV N v 0 = p) && !rmet (rng d) (nV N v 1))
def oBit (p : Nat) : BitVec 64 := bit1 (40 + p)
/-! told clauses: kind, about, code, with, without -/
abbrev Cl : Type := Int × Int × Int × BitVec 64 × BitVec 64
def cKind (c : Cl) : Int := c.1
def cAbout (c : Cl) : Int := c.2.1
def cCode (c : Cl) : Int := c.2.2.1
def cYes (c : Cl) : BitVec 64 := c.2.2.2.1
def cNo (c : Cl) : BitVec 64 := c.2.2.2.2
def needCl (N : Nat → Int) (k a c : Int) (d : ND) (no : BitVec 64) : List Cl :=
  (k, a, c, nMask N d, no) :: (if d.1 = 1 then [(k, a, c, oBit ((d.2.headD (0, [])).1).toNat, no)] else [])
def wishCl (N : Nat → Int) (nd : Nat → ND) (r w : Nat) : List Cl := if nR N r (1 + w) = -1 then [] else needCl N 0 w (-1) (nd (nR N r (1 + w)).toNat) 0#64
def inst (N : Nat → Int) (r : Nat) (p : Nat) : Int := nR N r (23 + p)
def goal (N : Nat → Int) (r : Nat) (p : Nat) : Int := nR N r (35 + p)
def isHeld (N : Nat → Int) (r p : Nat) : Bool := (nR N r 9).toNat.testBit p
def holdCl (N : Nat → Int) (r p : Nat) : List Cl :=
  if isHeld N r p = true then
    (if inst N r p = -1 then (vsl N p).map fun v => (1, (p : Int), -1, 0#64, bit1 v)
     else [(1, (p : Int), -1, bit1 (slF N (inst N r) p).toNat, 0#64), (1, (p : Int), -1, (if 1000000 ≤ inst N r p then oBit p else 0#64), (if 1000000 ≤ inst N r p then 0#64 else oBit p))])
  else []
def pinCl (N : Nat → Int) (nd : Nat → ND) (r p : Nat) : List Cl :=
  if nR N r (10 + p) = 0 then [] else ((vsl N p).filter fun v => !rmet (rng (nd (nR N r (10 + p) - 1).toNat)) (nV N v 1)).map fun v => (2, (p : Int), -1, 0#64, bit1 v)
def banCl (N : Nat → Int) (d : ND) (p v : Nat) : List Cl := (List.range (pc N)).flatMap fun q => ((vsl N q).filter fun w => !decide (w = v) && nmet N d w).map fun w => (4, (p : Int), nV N v 1, 0#64, bit1 v ||| bit1 w)
def verCl (N : Nat → Int) (nd : Nat → ND) (p v : Nat) : List Cl :=
  ((List.range (nV N v 7).toNat).flatMap fun k => needCl N 3 p (nV N v 1) (nd (nV N v (8 + k)).toNat) (bit1 v)) ++
  ((List.range (nV N v 12).toNat).flatMap fun k => banCl N (nd (nV N v (13 + k)).toNat) p v) ++
  (if nV N v 6 = 0 then [] else needCl N 5 p (nV N v 1) (nd (nV N v 6 - 1).toNat) (bit1 v ||| oBit p))
def pairCl (N : Nat → Int) (p : Nat) : List Nat → List Cl
  | [] => []
  | v :: l => (l.map fun w => (7, (p : Int), nV N v 1, 0#64, bit1 v ||| bit1 w)) ++ pairCl N p l
def packCl (N : Nat → Int) (nd : Nat → ND) (p : Nat) : List Cl := ((vsl N p).flatMap fun v => verCl N nd p v) ++ [(6, (p : Int), -1, oMask N p, oBit p)] ++ pairCl N p (vsl N p)
def told (N : Nat → Int) (nd : Nat → ND) : List Cl :=
  ((List.range (nR N (N 1).toNat 0).toNat).flatMap fun w => wishCl N nd (N 1).toNat w) ++
  ((List.range (pc N)).flatMap fun p => holdCl N (N 1).toNat p) ++
  ((List.range (pc N)).flatMap fun p => pinCl N nd (N 1).toNat p) ++
  ((List.range (pc N)).flatMap fun p => packCl N nd p)
/-! which sets of literals hold -/
def clH (A : BitVec 64) (c : Cl) : Prop := ¬ cYes c &&& A = 0#64 ∨ ¬ cNo c &&& ~~~A = 0#64
/-- the clauses that are kept can hold together, with some literals told -/
def canH (cs : List Cl) (keep : Nat → Bool) (yes no : BitVec 64) : Prop := ∃ A : BitVec 64, yes &&& ~~~A = 0#64 ∧ no &&& A = 0#64 ∧ ∀ i (hi : i < cs.length), keep i = true → clH A cs[i]
def noC (keep : Nat → Bool) (n : Nat) : Nat → Bool := fun i => keep i && !decide (i = n)
noncomputable def coreK (cs : List Cl) : Nat → (Nat → Bool) → (Nat → Bool)
  | 0, k => k
  | n + 1, k => coreK cs n (@ite _ (canH cs (noC k n) 0#64 0#64) (Classical.propDecidable _) k (noC k n))
noncomputable def coreL (cs : List Cl) : List Nat := @ite _ (canH cs (fun _ => true) 0#64 0#64) (Classical.propDecidable _) [] ((List.range cs.length).filter (coreK cs cs.length (fun _ => true)))
/-! rows of a proof: with, without, the earlier one, the later one -/
abbrev Row : Type := BitVec 64 × BitVec 64 × Int × Int
def rClash (a b : Row) : BitVec 64 := (a.1 &&& b.2.1) ||| (a.2.1 &&& b.1)
def rYes (a b : Row) : BitVec 64 := (a.1 ||| b.1) &&& ~~~(rClash a b)
def rNo (a b : Row) : BitVec 64 := (a.2.1 ||| b.2.1) &&& ~~~(rClash a b)
def rSize (a b : Row) : Nat := popc (rYes a b) + popc (rNo a b)
def rAll (y n : BitVec 64) (c : Row) : Prop := c.1 &&& ~~~y = 0#64 ∧ c.2.1 &&& ~~~n = 0#64
/-- the rows i and j can be joined to something new -/
def rCan (R : List Row) (i j : Nat) : Prop := ∃ (h1 : i < j) (h2 : j < R.length), popc (rClash (R[i]'(by omega)) (R[j]'h2)) = 1 ∧ ∀ r ∈ R, ¬ rAll (rYes (R[i]'(by omega)) (R[j]'h2)) (rNo (R[i]'(by omega)) (R[j]'h2)) r
def rSz (R : List Row) (i j : Nat) : Nat := rSize (R.getD i (0#64, 0#64, 0, 0)) (R.getD j (0#64, 0#64, 0, 0))
def rBest (R : List Row) (i j : Nat) : Prop := rCan R i j ∧ ∀ k l, rCan R k l → rSz R i j < rSz R k l ∨ rSz R i j = rSz R k l ∧ (j < l ∨ j = l ∧ i ≤ k)
def rNew (R : List Row) (i j : Nat) : Row := (rYes (R.getD i (0#64, 0#64, 0, 0)) (R.getD j (0#64, 0#64, 0, 0)), rNo (R.getD i (0#64, 0#64, 0, 0)) (R.getD j (0#64, 0#64, 0, 0)), i, j)
/-- joined until the last row has nothing -/
def rEnd (R : List Row) : Prop := ∃ c, R.getLast? = some c ∧ c.1 = 0#64 ∧ c.2.1 = 0#64
def rStep (R S : List Row) : Prop := ¬ rEnd R ∧ R.length < 200 ∧ ∃ i j, rBest R i j ∧ S = R ++ [rNew R i j]
def rStuck (R : List Row) : Prop := ¬ rEnd R ∧ (200 ≤ R.length ∨ ¬ ∃ i j, rCan R i j)
def rGo : Nat → List Row → List Row → Prop
  | 0, R, S => S = R
  | n + 1, R, S => ∃ T, rStep R T ∧ rGo n T S
def r0 : Row := (0#64, 0#64, 0, 0)
def rStart (cs : List Cl) (core : List Nat) : List Row := core.map fun i => (cYes (cs.getD i (0, 0, 0, 0#64, 0#64)), cNo (cs.getD i (0, 0, 0, 0#64, 0#64)), -1, -1)
/-- the rows that the last one needs -/
def rKeep (R : List Row) (k : Nat → Bool) : Prop :=
  (∀ r, r < R.length → k r = true → ¬ (R.getD r r0).2.2.2 = -1 → k (R.getD r r0).2.2.1.toNat = true ∧ k (R.getD r r0).2.2.2.toNat = true) ∧ k (R.length - 1) = true ∧
  ∀ r, r < R.length → k r = true → r = R.length - 1 ∨ ∃ s, s < R.length ∧ k s = true ∧ ¬ (R.getD s r0).2.2.2 = -1 ∧ ((R.getD s r0).2.2.1 = r ∨ (R.getD s r0).2.2.2 = r)
def rRe (k : Nat → Bool) (x : Int) : Int := if x = -1 then -1 else (cntN x.toNat k : Int)
def rOut (R : List Row) (k : Nat → Bool) : List Row := ((List.range R.length).filter k).map fun r => ((R.getD r r0).1, (R.getD r r0).2.1, rRe k (R.getD r r0).2.2.1, rRe k (R.getD r r0).2.2.2)
def prfR (cs : List Cl) (core : List Nat) (n : Int) (P : List Row) : Prop :=
  (core = [] ∧ n = 0 ∧ P = []) ∨ (200 < core.length ∧ n = -1 ∧ P = []) ∨
  (¬ core = [] ∧ core.length ≤ 200 ∧ ∃ k S, rGo k (rStart cs core) S ∧ ((rEnd S ∧ ∃ K, rKeep S K ∧ P = rOut S K ∧ n = P.length) ∨ (rStuck S ∧ n = -1 ∧ P = [])))
/-! soundness, fitting -/
def mP (N : Nat → Int) (d : ND) (f : Nat → Int) : Prop := ∃ p, p < 12 ∧ ¬ f p = -1 ∧ (d.1 = 1 → 1000000 ≤ f p) ∧ nmet N d (slF N f p).toNat = true
def needsP (N : Nat → Int) (nd : Nat → ND) (f : Nat → Int) (p : Nat) : Prop :=
  (∀ k : Nat, (k : Int) < nV N (slF N f p).toNat 7 → mP N (nd (nV N (slF N f p).toNat (8 + k)).toNat) f) ∧ (1000000 ≤ f p → ¬ nV N (slF N f p).toNat 6 = 0 → mP N (nd (nV N (slF N f p).toNat 6 - 1).toNat) f)
def sndP (N : Nat → Int) (nd : Nat → ND) (f : Nat → Int) : Prop := ∀ p, p < 12 → ¬ f p = -1 → needsP N nd f p ∧ (1000000 ≤ f p → ¬ nV N (slF N f p).toNat 6 = 0) ∧ ∀ b : Nat, (b : Int) < nV N (slF N f p).toNat 12 → ∀ q, q < 12 → ¬ q = p → ¬ f q = -1 → nmet N (nd (nV N (slF N f p).toNat (13 + b)).toNat) (slF N f q).toNat = false
def fitP (N : Nat → Int) (nd : Nat → ND) (r : Nat) (f : Nat → Int) : Prop :=
  (∀ p, p < 12 → (isHeld N r p = true → f p = inst N r p) ∧ (¬ nR N r (10 + p) = 0 → ¬ f p = -1 → rmet (rng (nd (nR N r (10 + p) - 1).toNat)) (cIn f p) = true)) ∧
  (∀ w : Nat, (w : Int) < nR N r 0 → ¬ nR N r (1 + w) = -1 → mP N (nd (nR N r (1 + w)).toNat) f) ∧ sndP N nd f
/-! how many sets there are to go through; the set with a number -/
def hasO (N : Nat → Int) (p : Nat) : Bool := !decide (oMask N p = 0#64)
def ways (N : Nat → Int) (p : Nat) : Nat := ((vsl N p).length + 1) * (if hasO N p = true then 2 else 1)
def setsN (N : Nat → Int) : Nat → Nat
  | 0 => 1
  | p + 1 => setsN N p * ways N p
def setMany (N : Nat → Int) : Nat := setsN N (pc N)
/-- the digits of a set's number: which version, whether the option is on -/
def digV (N : Nat → Int) (k p : Nat) : Nat := k / setsN N p % ((vsl N p).length + 1)
def digO (N : Nat → Int) (k p : Nat) : Bool := hasO N p && decide (k / setsN N p / ((vsl N p).length + 1) % 2 = 1)
def setF (N : Nat → Int) (k p : Nat) : Int := if p < pc N then (if digV N k p = 0 then -1 else nV N ((vsl N p).getD (digV N k p - 1) 0) 1 + (if digO N k p = true then 1000000 else 0)) else -1
def setIs (N : Nat → Int) (k : Nat) : Prop := ∀ p, p < pc N → digV N k p = 0 → digO N k p = false
noncomputable def fitsN (N : Nat → Int) (nd : Nat → ND) (r : Nat) : Nat → Nat
  | 0 => 0
  | k + 1 => fitsN N nd r k + @ite _ (setIs N k ∧ fitP N nd r (setF N k)) (Classical.propDecidable _) 1 0
noncomputable def fitting (N : Nat → Int) (nd : Nat → ND) (r : Nat) : Int := if setMany N > 5000 then -1 else fitsN N nd r (setMany N)
/-! the order of packages -/
def wishPk (N : Nat → Int) (nd : Nat → ND) (r : Nat) : List Nat := (List.range (nR N r 0).toNat).flatMap fun w => if nR N r (1 + w) = -1 then [] else (nd (nR N r (1 + w)).toNat).2.map fun a => a.1.toNat
def addP (l : List Nat) (p : Nat) : List Nat := if p ∈ l then l else l ++ [p]
def wishedL (N : Nat → Int) (nd : Nat → ND) (r : Nat) : List Nat := (wishPk N nd r).foldl addP []
def ordL (N : Nat → Int) (nd : Nat → ND) (r : Nat) : List Nat := (List.range (pc N)).foldl addP (wishedL N nd r)
/-! WHAT IS KEPT OF WHAT WAS WORKED OUT: the class -/
def mNeed (N : Nat → Int) (nd : Nat → ND) (x : Int) : BitVec 64 := if x < 0 then 0#64 else nMask N (nd x.toNat)
def MetOK (h : XH) (N : Nat → Int) (nd : Nat → ND) : Prop :=
  (∀ v : Nat, v < vc N → (∀ k : Nat, k < 3 → (k : Int) < nV N v 7 → hL h 45 (3 * v + k) = mNeed N nd (nV N v (8 + k))) ∧ (∀ k : Nat, k < 2 → (k : Int) < nV N v 12 → hL h 46 (2 * v + k) = mNeed N nd (nV N v (13 + k))) ∧ hL h 47 v = mNeed N nd (nV N v 6 - 1)) ∧
  (∀ w : Nat, w < 8 → (w : Int) < nR N (N 1).toNat 0 → hL h 49 w = mNeed N nd (nR N (N 1).toNat (1 + w))) ∧
  (∀ p : Nat, p < pc N → hL h 48 p = oMask N p ∧ hL h 50 p = if nR N (N 1).toNat (10 + p) = 0 then 0#64 else pMask N (nd (nR N (N 1).toNat (10 + p) - 1).toNat) p)
def c0 : Cl := (0, 0, 0, 0#64, 0#64)
def TellOK (h : XH) (cs : List Cl) : Prop := hI h 51 3 = cs.length ∧ cs.length ≤ 3712 ∧ ∀ i, i < cs.length → hI h 54 i = cKind (cs.getD i c0) ∧ hI h 55 i = cAbout (cs.getD i c0) ∧ hI h 56 i = cCode (cs.getD i c0) ∧ hL h 52 i = cYes (cs.getD i c0) ∧ hL h 53 i = cNo (cs.getD i c0)
def CoreOK (h : XH) (core : List Nat) : Prop := hI h 70 2 = core.length ∧ ∀ i, i < core.length → hI h 71 i = (core.getD i 0 : Nat)
def ProofOK (h : XH) (cs : List Cl) (core : List Nat) : Prop := ∃ n P, prfR cs core n P ∧ hI h 70 5 = n ∧ ∀ i, i < P.length → hL h 73 i = (P.getD i r0).1 ∧ hL h 74 i = (P.getD i r0).2.1 ∧ hI h 75 i = (P.getD i r0).2.2.1 ∧ hI h 76 i = (P.getD i r0).2.2.2
def CaC (h : XH) (N : Nat → Int) (nd : Nat → ND) : Prop :=
  0 ≤ hI h 2 11 ∧ hI h 2 11 ≤ 4 ∧ (1 ≤ hI h 2 11 → MetOK h N nd) ∧ (2 ≤ hI h 2 11 → TellOK h (told N nd)) ∧ (3 ≤ hI h 2 11 → CoreOK h (coreL (told N nd))) ∧ (4 ≤ hI h 2 11 → ProofOK h (told N nd) (coreL (told N nd))) ∧
  ∀ c : Nat, c < 3712 → hI h 58 c = 0
/-! the reference: rows that it has made -/
/-- a row of numbers of the reference behind the cell q: its own, not one of the first 468 cells but perhaps the first one -/
def own (h : XH) (k a b : Nat) : Prop := hk h a = k ∧ (a = b ∨ 468 ≤ a)
def StR (h : XH) : Prop :=
  own h 101 (hR h 437 24) 446 ∧ own h 101 (hR h 437 25) 447 ∧ own h 100 (hR h 437 26) 448 ∧ own h 100 (hR h 437 27) 449 ∧ own h 100 (hR h 437 28) 450 ∧
  (hn h (hR h 437 25) = hn h (hR h 437 24) ∧ hn h (hR h 437 26) = hn h (hR h 437 24) ∧ hn h (hR h 437 27) = hn h (hR h 437 24) ∧ hn h (hR h 437 28) = hn h (hR h 437 24) ∧ 64 ≤ hn h (hR h 437 24) ∧ hn h (hR h 437 24) ≤ 8192) ∧
  (¬ hR h 437 24 = hR h 437 25 ∧ ¬ hR h 437 26 = hR h 437 27 ∧ ¬ hR h 437 26 = hR h 437 28 ∧ ¬ hR h 437 27 = hR h 437 28) ∧
  own h 102 (hR h 437 31) 451 ∧ 64 ≤ hn h (hR h 437 31) ∧ hn h (hR h 437 31) ≤ 8192 ∧
  own h 101 (hR h 437 52) 458 ∧ own h 101 (hR h 437 53) 459 ∧ own h 100 (hR h 437 54) 460 ∧ own h 100 (hR h 437 55) 461 ∧
  (hn h (hR h 437 53) = hn h (hR h 437 52) ∧ hn h (hR h 437 54) = hn h (hR h 437 52) ∧ hn h (hR h 437 55) = hn h (hR h 437 52) ∧ 64 ≤ hn h (hR h 437 52) ∧ hn h (hR h 437 52) ≤ 65536)
def SortOK (h : XH) (N : Nat → Int) : Prop := ∀ p : Nat, p < 12 → (hk h (hR h 442 p) = 100 ∧ 468 ≤ hR h 442 p) ∧ hn h (hR h 442 p) = (vsl N p).length ∧ ∀ i, i < (vsl N p).length → hI h (hR h 442 p) i = ((vsl N p).getD i 0 : Nat)
def TellOKR (h : XH) (cs : List Cl) : Prop := hI h 437 29 = cs.length ∧ cs.length ≤ hn h (hR h 437 24) ∧ ∀ i, i < cs.length → hI h (hR h 437 26) i = cKind (cs.getD i c0) ∧ hI h (hR h 437 27) i = cAbout (cs.getD i c0) ∧ hI h (hR h 437 28) i = cCode (cs.getD i c0) ∧ hL h (hR h 437 24) i = cYes (cs.getD i c0) ∧ hL h (hR h 437 25) i = cNo (cs.getD i c0)
def OrdOK (h : XH) (N : Nat → Int) (nd : Nat → ND) : Prop := (hk h (hR h 437 39) = 100 ∧ 468 ≤ hR h 437 39) ∧ hn h (hR h 437 39) = pc N ∧ (∀ i, i < pc N → hI h (hR h 437 39) i = ((ordL N nd (N 1).toNat).getD i 0 : Nat)) ∧ hI h 437 37 = (orM 12 (fun p => decide (p ∈ wishedL N nd (N 1).toNat)) : Nat)
def CoreOKR (h : XH) (core : List Nat) : Prop := own h 100 (hR h 437 45) 453 ∧ hn h (hR h 437 45) = core.length ∧ ∀ i, i < core.length → hI h (hR h 437 45) i = (core.getD i 0 : Nat)
def ProofOKR (h : XH) (cs : List Cl) (core : List Nat) : Prop := ∃ n P, prfR cs core n P ∧ hI h 437 47 = n ∧ ∀ i, i < P.length → hL h 454 i = (P.getD i r0).1 ∧ hL h 455 i = (P.getD i r0).2.1 ∧ hI h 456 i = (P.getD i r0).2.2.1 ∧ hI h 457 i = (P.getD i r0).2.2.2
/-- rows that grow are not those of needs, nor those that were handed on -/
def owP (j : Nat) : Prop := (24 ≤ j ∧ j ≤ 28) ∨ j = 31 ∨ (52 ≤ j ∧ j ≤ 55)
def DJo (h : XH) : Prop :=
  (∀ j k, owP j → owP k → ¬ j = k → ¬ hR h 437 j = hR h 437 k) ∧
  (hk h (hR h 437 6) = 106 ∧ (hR h 437 6 = 440 ∨ 468 ≤ hR h 437 6)) ∧
  (∀ i : Nat, (i : Int) < hI h 437 7 → hk h (hR h (hR h 437 6) i) = 14 ∧ 468 ≤ hR h (hR h 437 6) i ∧ ∀ j t, owP j → 1 ≤ t → t ≤ 3 → ¬ hR h (hR h (hR h 437 6) i) t = hR h 437 j) ∧
  ∀ j, owP j → (∀ p, p < 12 → ¬ hR h 442 p = hR h 437 j) ∧ ¬ hR h 437 39 = hR h 437 j ∧ ¬ hR h 437 45 = hR h 437 j
/-- how much rows that grow hold by now, at least: told by nd at places that no need has -/
def CapG (h : XH) (nd : Nat → ND) : Prop := (nd 5000).1 ≤ (hn h (hR h 437 24) : Int) ∧ (nd 5001).1 ≤ (hn h (hR h 437 31) : Int) ∧ (nd 5002).1 ≤ (hn h (hR h 437 52) : Int) ∧ (hR h 437 39 = 0 ∨ hk h (hR h 437 39) = 100 ∧ 468 ≤ hR h 437 39) ∧ (hR h 437 45 = 453 ∨ hk h (hR h 437 45) = 100 ∧ 468 ≤ hR h 437 45)
def CaR (h : XH) (N : Nat → Int) (nd : Nat → ND) : Prop :=
  (-1 ≤ hI h 437 12 ∧ hI h 437 12 ≤ hI h 437 4 ∧ -1 ≤ hI h 437 30 ∧ hI h 437 30 ≤ hI h 437 4 ∧ -1 ≤ hI h 437 38 ∧ hI h 437 38 ≤ hI h 437 4 ∧ -1 ≤ hI h 437 40 ∧ hI h 437 40 ≤ hI h 437 4 ∧ -1 ≤ hI h 437 44 ∧ hI h 437 44 ≤ hI h 437 4 ∧ -1 ≤ hI h 437 46 ∧ hI h 437 46 ≤ hI h 437 4) ∧
  (StR h ∧ DJo h) ∧
  (hI h 437 12 = hI h 437 4 → SortOK h N) ∧ (hI h 437 30 = hI h 437 4 → TellOKR h (told N nd)) ∧ (hI h 437 38 = hI h 437 4 → OrdOK h N nd) ∧ (hI h 437 40 = hI h 437 4 → hI h 437 41 = fitting N nd (N 1).toNat) ∧
  (hI h 437 44 = hI h 437 4 → hI h 437 30 = hI h 437 4 ∧ CoreOKR h (coreL (told N nd))) ∧ (hI h 437 46 = hI h 437 4 → hI h 437 44 = hI h 437 4 ∧ ProofOKR h (told N nd) (coreL (told N nd))) ∧ CapG h nd
/-! how far counts have come behind so many calls -/
/-- no file of what is installed is had twice -/
def filesP (N : Nat → Int) (f : Nat → Int) (p : Nat) : Nat := if f p = -1 then 0 else (nV N (slF N f p).toNat 2).toNat
def DJ (N : Nat → Int) : Prop := ∀ r : Nat, r < 3 → ∀ p q : Nat, p < 12 → q < 12 → ¬ p = q → filesP N (inst N r) p &&& filesP N (inst N r) q = 0
theorem slotF_cg {N M : Nat → Int} (e : ∀ i, 4 ≤ i → i < 805 → M i = N i) (W : N 4 ≤ 40) (p c : Int) : slotF M p c = slotF N p c := by
  have ev : vc M = vc N := by unfold vc; rw [e 4 (by decide) (by decide)]
  unfold slotF
  rw [ev]
  refine fnd_cg _ (fun v hv => ?_)
  unfold vc at hv
  have a : nV M v 0 = nV N v 0 := e _ (by omega) (by omega)
  have b : nV M v 1 = nV N v 1 := e _ (by omega) (by omega)
  rw [a, b]
theorem filesP_cg {N M : Nat → Int} (e : ∀ i, 4 ≤ i → i < 805 → M i = N i) (W : N 4 ≤ 40) {f g : Nat → Int} {p : Nat} (eg : g p = f p) : filesP M g p = filesP N f p := by
  unfold filesP slF
  rw [eg, slotF_cg e W]
  by_cases c : f p = -1
  · rw [if_pos c, if_pos c]
  · rw [if_neg c, if_neg c, if_neg c]
    have : slotF N p (f p % 1000000) < 40 := by
      unfold slotF
      rcases fnd_cs (fun v => decide (nV N v 0 = p) && decide (nV N v 1 = f p % 1000000)) (vc N) with ⟨x, _⟩ | ⟨i, x, hi, _, _⟩
      · omega
      · unfold vc at hi; omega
    rw [show nV M (slotF N p (f p % 1000000)).toNat 2 = nV N (slotF N p (f p % 1000000)).toNat 2 from e _ (by omega) (by omega)]
theorem DJ_cg {N M : Nat → Int} (e : ∀ i, 4 ≤ i → i < 805 → M i = N i) (W : N 4 ≤ 40) (ei : ∀ r : Nat, r < 3 → ∀ p : Nat, p < 12 → inst M r p = inst N r p) (z : DJ N) : DJ M := fun r hr p q hp hq n => by
  rw [filesP_cg e W (ei r hr p hp), filesP_cg e W (ei r hr q hq)]
  exact z r hr p q hp hq n
def BdN (N : Nat → Int) (c : Nat) : Prop := (∀ r : Nat, r < 3 → nR N r 47 ≤ c) ∧ N 2 ≤ 12 * c ∧ (∀ m : Nat, m < 3 → N (1714 + 81 * m) ≤ 36 * c) ∧ DJ N
def Bd (h : XH) (o u : Int) (c : Nat) : Prop := 0 ≤ hI h 437 4 ∧ hI h 437 4 ≤ c ∧ hI h 437 7 ≤ c ∧ BdN (nw h) c ∧ ∀ k : Nat, (k : Int) < u → BdN (pst h ((o + k) % 10).toNat) c
