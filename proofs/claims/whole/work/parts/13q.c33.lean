/-! STEPS -/
theorem HX_hn {h0 h : XH} (s : HX h0 h) {a : Nat} (l : a < h0.length) : hn h a = hn h0 a := by
  show (sh (xcell h a)).2 = _
  rw [s.2 a l]
  rfl
def mvF (a : Nat) (f g : Nat → Int) (p : Nat) : Int := if a.testBit p = true then g p else f p
noncomputable def nextS (N : Nat → Int) (nd : Nat → ND) (f g : Nat → Int) (left : Nat) : Nat :=
  if fnd 12 (fun p => left.testBit p && @decide (sndP N nd (mvF (2 ^ p) f g)) (Classical.propDecidable _)) = -1 then left else 2 ^ (fnd 12 (fun p => left.testBit p && @decide (sndP N nd (mvF (2 ^ p) f g)) (Classical.propDecidable _))).toNat
noncomputable def stepsL (N : Nat → Int) (nd : Nat → ND) (g : Nat → Int) : Nat → (Nat → Int) → Nat → List Nat
  | 0, _, _ => []
  | n + 1, f, left => if left = 0 then [] else nextS N nd f g left :: stepsL N nd g n (mvF (nextS N nd f g left) f g) (left ^^^ (left &&& nextS N nd f g left))
noncomputable def stepsOf (N : Nat → Int) (nd : Nat → ND) (f g : Nat → Int) : List Nat := stepsL N nd g 12 f (orM 12 (fun p => !decide (f p = g p)))
theorem nextS_is {N : Nat → Int} {nd : Nat → ND} {f g : Nat → Int} {left p : Nat} (hp : p < 12) (b : left.testBit p = true) (s : sndP N nd (mvF (2 ^ p) f g)) (a : ∀ q, q < p → left.testBit q = true → ¬ sndP N nd (mvF (2 ^ q) f g)) : nextS N nd f g left = 2 ^ p := by
  classical
  have e : fnd 12 (fun p => left.testBit p && @decide (sndP N nd (mvF (2 ^ p) f g)) (Classical.propDecidable _)) = p := by
    refine fnd_is hp (by rw [b, Bool.true_and]; exact decide_eq_true s) (fun j hj => ?_)
    cases c : left.testBit j with
    | false => rfl
    | true => rw [Bool.true_and]; exact decide_eq_false (a j hj c)
  unfold nextS
  rw [e, if_neg (by omega), Int.toNat_natCast]
theorem nextS_all {N : Nat → Int} {nd : Nat → ND} {f g : Nat → Int} {left : Nat} (a : ∀ q, q < 12 → left.testBit q = true → ¬ sndP N nd (mvF (2 ^ q) f g)) : nextS N nd f g left = left := by
  classical
  have e : fnd 12 (fun p => left.testBit p && @decide (sndP N nd (mvF (2 ^ p) f g)) (Classical.propDecidable _)) = -1 := by
    refine fnd_no (fun j hj => ?_)
    cases c : left.testBit j with
    | false => rfl
    | true => rw [Bool.true_and]; exact decide_eq_false (a j hj c)
  unfold nextS
  rw [if_pos e]
theorem nextS_cs (N : Nat → Int) (nd : Nat → ND) (f g : Nat → Int) (left : Nat) : (∃ p, p < 12 ∧ nextS N nd f g left = 2 ^ p ∧ left.testBit p = true) ∨ nextS N nd f g left = left := by
  classical
  unfold nextS
  rcases fnd_cs (fun p => left.testBit p && @decide (sndP N nd (mvF (2 ^ p) f g)) (Classical.propDecidable _)) 12 with ⟨e, _⟩ | ⟨i, e, hi, pi, _⟩
  · exact .inr (by rw [if_pos e])
  · refine .inl ⟨i, hi, by rw [e, if_neg (by omega), Int.toNat_natCast], ?_⟩
    rw [Bool.and_eq_true] at pi
    exact pi.1
theorem tb_rem (l s q : Nat) : (l ^^^ (l &&& s)).testBit q = (l.testBit q && !s.testBit q) := by
  rw [Nat.testBit_xor, Nat.testBit_and]
  cases l.testBit q <;> cases s.testBit q <;> rfl
theorem tb_ex {l : Nat} (h : l < 4096) (n : ¬ l = 0) : ∃ p, p < 12 ∧ l.testBit p = true := by
  refine Classical.byContradiction fun c => n ?_
  apply Nat.eq_of_testBit_eq
  intro i
  rw [Nat.zero_testBit]
  by_cases hi : i < 12
  · cases e : l.testBit i with
    | false => rfl
    | true => exact absurd ⟨i, hi, e⟩ c
  · exact Nat.testBit_lt_two_pow (Nat.lt_of_lt_of_le h (by have := Nat.pow_le_pow_right (n := 2) (by decide) (show 12 ≤ i by omega); omega))
theorem cntN_mono {g k : Nat → Bool} : ∀ n, (∀ i, i < n → g i = true → k i = true) → cntN n g ≤ cntN n k := by
  intro n
  induction n with
  | zero => intro _; exact Nat.le_refl _
  | succ n ih =>
    intro a
    have := ih (fun i hi => a i (by omega))
    unfold cntN
    by_cases c : g n = true
    · rw [if_pos c, if_pos (a n (by omega) c)]; omega
    · rw [if_neg c]; omega
theorem cntN_lt {g k : Nat → Bool} : ∀ n, (∀ i, i < n → g i = true → k i = true) → (∃ i, i < n ∧ k i = true ∧ g i = false) → cntN n g < cntN n k := by
  intro n
  induction n with
  | zero => intro _ ⟨i, hi, _⟩; omega
  | succ n ih =>
    intro a ⟨i, hi, b, c⟩
    unfold cntN
    by_cases e : i = n
    · subst e
      have := cntN_mono i (fun j hj => a j (by omega))
      rw [if_pos b, if_neg (by rw [c]; decide)]
      omega
    · have := ih (fun j hj => a j (by omega)) ⟨i, by omega, b, c⟩
      by_cases d : g n = true
      · rw [if_pos d, if_pos (a n (by omega) d)]; omega
      · rw [if_neg d]; omega
theorem rem_lt {l s : Nat} (h : l < 4096) : l ^^^ (l &&& s) < 4096 := by
  have : l &&& s < 2 ^ 12 := Nat.lt_of_le_of_lt Nat.and_le_left h
  exact Nat.xor_lt_two_pow (n := 12) h this
theorem rem_cnt {N : Nat → Int} {nd : Nat → ND} {f g : Nat → Int} {left : Nat} (h : left < 4096) (n : ¬ left = 0) : cntN 12 (left ^^^ (left &&& nextS N nd f g left)).testBit < cntN 12 left.testBit := by
  refine cntN_lt 12 (fun i _ => ?_) ?_
  · rw [tb_rem, Bool.and_eq_true]; exact fun z => z.1
  · rcases nextS_cs N nd f g left with ⟨p, hp, e, b⟩ | e
    · refine ⟨p, hp, b, ?_⟩
      rw [tb_rem, e, Nat.testBit_two_pow_self]
      simp
    · obtain ⟨p, hp, b⟩ := tb_ex h n
      refine ⟨p, hp, b, ?_⟩
      rw [tb_rem, e, b]
      rfl
theorem stepsL_0 {N : Nat → Int} {nd : Nat → ND} {f g : Nat → Int} (n : Nat) : stepsL N nd g n f 0 = [] := by
  cases n with
  | zero => rfl
  | succ n => unfold stepsL; rw [if_pos rfl]
theorem stepsL_s {N : Nat → Int} {nd : Nat → ND} {f g : Nat → Int} {n left : Nat} (h : ¬ left = 0) : stepsL N nd g (n + 1) f left = nextS N nd f g left :: stepsL N nd g n (mvF (nextS N nd f g left) f g) (left ^^^ (left &&& nextS N nd f g left)) := by
  show (if left = 0 then [] else _) = _
  rw [if_neg h]
theorem cnt_0 {l : Nat} (h : l < 4096) (c : cntN 12 l.testBit = 0) : l = 0 := by
  refine Classical.byContradiction fun n => ?_
  have := cntN_lt (g := fun _ => false) (k := l.testBit) 12 (fun _ _ z => by cases z) (by
    obtain ⟨p, hp, b⟩ := tb_ex h n
    exact ⟨p, hp, b, rfl⟩)
  omega
theorem stepsL_len {N : Nat → Int} {nd : Nat → ND} {g : Nat → Int} : ∀ (n : Nat) (f : Nat → Int) (l : Nat), (stepsL N nd g n f l).length ≤ n := by
  intro n
  induction n with
  | zero => intro f l; exact Nat.le_refl _
  | succ n ih =>
    intro f l
    unfold stepsL
    by_cases c : l = 0
    · rw [if_pos c]; exact Nat.zero_le _
    · rw [if_neg c, List.length_cons]; have := ih (mvF (nextS N nd f g l) f g) (l ^^^ (l &&& nextS N nd f g l)); omega
theorem and_pw (l p : Nat) : l &&& 2 ^ p = if l.testBit p = true then 2 ^ p else 0 := by
  apply Nat.eq_of_testBit_eq
  intro i
  rw [Nat.testBit_and, Nat.testBit_two_pow]
  by_cases c : l.testBit p = true
  · rw [if_pos c, Nat.testBit_two_pow]
    by_cases e : p = i
    · subst e; rw [c]; simp
    · rw [df e, Bool.and_false]
  · rw [if_neg c, Nat.zero_testBit]
    by_cases e : p = i
    · subst e; rw [bt c]; rfl
    · rw [df e, Bool.and_false]
theorem SetR_mv {N : Nat → Int} {m : Nat} (W : WV N m) {s t w : BitVec 64} {f g : Nat → Int} (S : SetR N s f) (T : SetR N t g) {a : Nat} (hw : ∀ j, w.getLsbD j = true ↔ ∃ p, p < pc N ∧ a.testBit p = true ∧ (wMask N p).getLsbD j = true) : SetR N ((s &&& (w ^^^ (18446744073709551615#64))) ||| (t &&& w)) (mvF a f g) := by
  have v40 := vc64 W
  have b12 := W.2.1
  have pcN : pc N = (N 0).toNat := rfl
  have al : ∀ m : Fin 64, (18446744073709551615#64 : BitVec 64).getLsbD m.1 = true := by decide +kernel
  have bits : ∀ j, j < 64 → ((s &&& (w ^^^ (18446744073709551615#64))) ||| (t &&& w)).getLsbD j = if w.getLsbD j = true then t.getLsbD j else s.getLsbD j := fun j hj => by
    rw [BitVec.getLsbD_or, BitVec.getLsbD_and, BitVec.getLsbD_and, BitVec.getLsbD_xor, al ⟨j, hj⟩]
    cases w.getLsbD j <;> cases s.getLsbD j <;> cases t.getLsbD j <;> rfl
  have wv : ∀ v, v < vc N → (w.getLsbD v = true ↔ a.testBit (nV N v 0).toNat = true) := fun v hv => by
    have x := W.2.2.2.2.1 v hv
    rw [hw]
    constructor
    · rintro ⟨p, hp, ta, b⟩
      rw [wMask_at W.2.2.2.1 (by omega), Bool.or_eq_true, Bool.and_eq_true, decide_eq_true_eq, decide_eq_true_eq, decide_eq_true_eq] at b
      have : (nV N v 0).toNat = p := by rcases b with b | b <;> omega
      rw [this]; exact ta
    · intro ta
      refine ⟨(nV N v 0).toNat, by omega, ta, ?_⟩
      rw [wMask_at W.2.2.2.1 (by omega), dt hv, dt (show nV N v 0 = ((nV N v 0).toNat : Nat) by omega)]; rfl
  refine ⟨fun v hv => ?_, fun p hp => ?_, fun j hj => ?_, fun p hp => ?_⟩
  · rw [bits v (by omega)]
    by_cases c : v < vc N
    · unfold mvF
      by_cases y : a.testBit (nV N v 0).toNat = true
      · rw [if_pos ((wv v c).mpr y), if_pos y]; exact T.1 v hv
      · rw [if_neg (fun z => y ((wv v c).mp z)), if_neg y]; exact S.1 v hv
    · have x1 := S.1 v hv
      have x2 := T.1 v hv
      constructor
      · intro z
        split at z
        · exact absurd (x2.mp z).1 c
        · exact absurd (x1.mp z).1 c
      · exact fun z => absurd z.1 c
  · rw [bits (40 + p) (by omega)]
    have wo : w.getLsbD (40 + p) = true ↔ p < pc N ∧ a.testBit p = true := by
      rw [hw]
      constructor
      · rintro ⟨q, hq, ta, b⟩
        rw [wMask_at W.2.2.2.1 (by omega), Bool.or_eq_true, Bool.and_eq_true, decide_eq_true_eq, decide_eq_true_eq, decide_eq_true_eq] at b
        have : p = q := by rcases b with b | b <;> omega
        subst this
        exact ⟨hq, ta⟩
      · intro ⟨hq, ta⟩
        refine ⟨p, hq, ta, ?_⟩
        rw [wMask_at W.2.2.2.1 hp, dt (show 40 + p = 40 + p from rfl), Bool.or_true]
    unfold mvF
    by_cases y : a.testBit p = true
    · rw [if_pos y]
      by_cases q : p < pc N
      · rw [if_pos (wo.mpr ⟨q, y⟩)]; exact T.2.1 p hp
      · rw [if_neg (fun z => q (wo.mp z).1), S.2.1 p hp, Set_out W S hp (by omega), Set_out W T hp (by omega)]
    · rw [if_neg y, if_neg (fun z => y (wo.mp z).2)]; exact S.2.1 p hp
  · by_cases c : j < 64
    · rw [bits j c, S.2.2.1 j hj, T.2.2.1 j hj, ite_self]
    · exact BitVec.getLsbD_of_ge _ _ (by omega)
  · unfold mvF
    by_cases y : a.testBit p = true
    · rw [if_pos y]; exact T.2.2.2 p hp
    · rw [if_neg y]; exact S.2.2.2 p hp
theorem fOK_mv {N : Nat → Int} {f g : Nat → Int} {a : Nat} (S : fOK N f) (T : fOK N g) : fOK N (mvF a f g) := fun p hp => by
  unfold mvF
  by_cases y : a.testBit p = true
  · rw [if_pos y]; exact T p hp
  · rw [if_neg y]; exact S p hp
theorem unl_M {N : Nat → Int} {m : Nat} (W : WV N m) {s t : BitVec 64} {f g : Nat → Int} (S : SetR N s f) (T : SetR N t g) : orM (pc N) (unlP N s t) = orM 12 (fun p => !decide (f p = g p)) ∧ ∀ q, (orM 12 (fun p => !decide (f p = g p))).testBit q = true → q < pc N := by
  have b12 := W.2.1
  have pcN : pc N = (N 0).toNat := rfl
  have out : ∀ q, q < 12 → ¬ q < pc N → f q = g q := fun q hq n => by rw [Set_out W S hq (by omega), Set_out W T hq (by omega)]
  constructor
  · apply Nat.eq_of_testBit_eq
    intro q
    rw [orM_at, orM_at]
    by_cases c : q < pc N
    · rw [dt c, dt (show q < 12 by omega), unl_F W S T (by omega)]
    · rw [df c, Bool.false_and]
      by_cases d : q < 12
      · rw [dt d, dt (out q d c)]; rfl
      · rw [df d]; rfl
  · intro q hq
    rw [orM_at, Bool.and_eq_true, decide_eq_true_eq, Bool.not_eq_true', decide_eq_false_iff_not] at hq
    exact Classical.byContradiction fun c => hq.2 (out q hq.1 c)
set_option maxHeartbeats 1000000 in
theorem c_X2_wholeOf {a : Nat} {h : XH} {N : Nat → Int} {nd : Nat → ND} {m : Nat} (T : HT h) (C : CS h 8 N nd) (W : WF N m) (lt : a < 4096) {K : BitVec 64 → Prop} (k : ∀ b : BitVec 64, (∀ j, b.getLsbD j = true ↔ ∃ p, p < pc N ∧ a.testBit p = true ∧ (wMask N p).getLsbD j = true) → K b) : w_X2_wholeOf (a : Int) K h := by
  unfold w_X2_wholeOf
  have w0 := W.1.1
  have b12 := W.1.2.1
  have pcN : pc N = (N 0).toNat := rfl
  have P1 := (V80 C.1).1
  refine ⟨fun b x => 0 ≤ x ∧ x ≤ N 0 ∧ ∀ j, b.getLsbD j = true ↔ ∃ p : Nat, (p : Int) < x ∧ a.testBit p = true ∧ (wMask N p).getLsbD j = true, fun _ x => (N 0 - x).toNat, ?_, ?_⟩
  · exact ⟨by omega, w0, fun j => ⟨fun z => (by rw [BitVec.getLsbD_zero] at z; cases z), fun ⟨p, y, _⟩ => by omega⟩⟩
  · intro b1 x2 rx2 z3
    obtain ⟨z0, z1, zb⟩ := z3
    refine ⟨fun c10 => ?_, fun c10 => ?_⟩
    · exact k _ (fun j => (zb j).trans ⟨fun ⟨p, x, y⟩ => ⟨p, by omega, y⟩, fun ⟨p, x, y⟩ => ⟨p, by omega, y⟩⟩)
    · have bi := bitI (a := a) (n := x2.toNat) (by omega) (by omega)
      rw [show ((x2.toNat : Nat) : Int) = x2 by omega] at bi
      rw [bi]
      refine ⟨fun b => ∀ j, b.getLsbD j = true ↔ a.testBit x2.toNat = true ∧ (wMask N x2.toNat).getLsbD j = true, ?_, ?_⟩
      · intro b4 z5
        intro b6 eb6
        intro x7 ex7 rx7
        rw [wr_of (by omega) (by omega)] at ex7
        refine ⟨⟨by omega, by omega, fun j => ?_⟩, by dsimp only; omega⟩
        rw [eb6, BitVec.getLsbD_or, Bool.or_eq_true, zb j, z5 j]
        constructor
        · rintro (⟨p, x, y⟩ | y)
          · exact ⟨p, by omega, y⟩
          · exact ⟨x2.toNat, by omega, y⟩
        · rintro ⟨p, x, y⟩
          by_cases c : p = x2.toNat
          · rw [← c]; exact .inr y
          · exact .inl ⟨p, by omega, y⟩
      · refine ⟨fun c9 => ?_, fun c9 => ?_⟩
        · intro j
          rw [BitVec.getLsbD_zero]
          by_cases c : a.testBit x2.toNat = true
          · rw [if_pos c] at c9; cases c9
          · exact ⟨fun z => (by cases z), fun z => absurd z.1 c⟩
        · refine ⟨(by omega), ?_⟩
          rw [P8_w C.2.1 ⟨W.1.2.2.1, W.1.2.2.2.1⟩ (by omega) (by omega)]
          intro j
          by_cases c : a.testBit x2.toNat = true
          · exact ⟨fun z => ⟨c, z⟩, fun z => z.2⟩
          · rw [if_neg c] at c9; exact absurd rfl c9
set_option maxHeartbeats 1000000 in
theorem c_X2_moved {p0 p1 : BitVec 64} {a : Nat} {f g : Nat → Int} {h : XH} {N : Nat → Int} {nd : Nat → ND} {m : Nat} (T : HT h) (C : CS h 8 N nd) (W : WF N m) (lt : a < 4096) (S : SetR N p0 f) (S2 : SetR N p1 g) {K : BitVec 64 → Prop} (k : ∀ b, SetR N b (mvF a f g) → K b) : w_X2_moved p0 p1 (a : Int) K h := by
  unfold w_X2_moved
  refine c_X2_wholeOf T C W lt ?_
  intro b1 qb1
  exact k _ (SetR_mv W.1 S S2 qb1)
set_option maxHeartbeats 1000000 in
theorem c_X2_nextStep {p0 p1 : BitVec 64} {left : Nat} {f g : Nat → Int} {h : XH} {N : Nat → Int} {nd : Nat → ND} {m : Nat} (T : HT h) (C : CS h 8 N nd) (W : WF N m) (dk : DK nd m) (M : MetOK h N nd) (lt : left < 4096) (lp : ∀ q, left.testBit q = true → q < pc N) (S : SetR N p0 f) (S2 : SetR N p1 g) {K : Int → Prop} (k : K (nextS N nd f g left : Nat)) : w_X2_nextStep p0 p1 (left : Int) K h := by
  unfold w_X2_nextStep
  have w0 := W.1.1
  have b12 := W.1.2.1
  have pcN : pc N = (N 0).toNat := rfl
  have P1 := (V80 C.1).1
  refine ⟨fun x => 0 ≤ x ∧ x ≤ N 0 ∧ ∀ q : Nat, (q : Int) < x → left.testBit q = true → ¬ sndP N nd (mvF (2 ^ q) f g), fun x => (N 0 - x).toNat, ?_, ?_⟩
  · exact ⟨by omega, w0, fun q hq => by omega⟩
  · intro x1 rx1 z3
    obtain ⟨z0, z1, zm⟩ := z3
    refine ⟨fun c11 => ?_, fun c11 => ?_⟩
    · rw [nextS_all (fun q hq b => zm q (by have := lp q b; omega) b)] at k
      exact k
    · obtain ⟨p, rfl⟩ : ∃ p : Nat, x1 = p := ⟨x1.toNat, by omega⟩
      have p2 : 2 ^ p < 2 ^ 12 := Nat.pow_lt_pow_right (by decide) (by omega)
      intro x4 ex4 rx4
      rw [ishl1 (by omega), Int.toNat_natCast, iand_nat (by omega) (by omega), and_pw] at ex4
      refine ⟨left.testBit p = true → ¬ sndP N nd (mvF (2 ^ p) f g), ?_, ?_⟩
      · intro z5
        intro x6 ex6 rx6
        rw [wr_of (by omega) (by omega)] at ex6
        refine ⟨⟨by omega, by omega, fun q hq => ?_⟩, by dsimp only; omega⟩
        by_cases c : q = p
        · rw [c]; exact z5
        · exact zm q (by omega)
      · refine ⟨fun c10 => ?_, fun c10 => ?_⟩
        · intro b
          rw [if_pos b] at ex4
          have := Nat.two_pow_pos p
          omega
        · have b : left.testBit p = true := by
            cases e : left.testBit p with
            | true => rfl
            | false => rw [e] at ex4; exact absurd ex4 (by simpa using c10)
          rw [if_pos b] at ex4
          rw [ex4]
          refine c_X2_moved T C W (by omega) S S2 ?_
          intro b7 S7
          refine c_X3_isSoundSet T C W dk M ?_
          intro x8 qx8
          replace qx8 := bq_iff qx8 (snd_F W.1 dk S7)
          intro rx8 vx8
          refine ⟨fun c9 => ?_, fun c9 => ?_⟩
          · exact fun _ => (bq1 qx8).2.1.mp c9
          · rw [nextS_is (by omega) b ((bq1 qx8).2.2.1.mp c9) (fun q hq => zm q (by omega))] at k
            first | exact k | (rw [ex4]; exact k)
set_option maxHeartbeats 2000000 in
theorem c_X2_findSteps {h : XH} {N : Nat → Int} {nd : Nat → ND} {m : Nat} (T : HT h) (C : CS h 8 N nd) (W : WF N m) (dk : DK nd m) (M : MetOK h N nd) {K : XH → Prop} (k : ∀ g, Fr (fun b => b = 79 ∨ b = 85) h g → g.length = h.length → xhs g = xhs h → (∀ j, ¬ j = 11 → el g 79 j = el h 79 j) → hI g 79 11 = ((stepsOf N nd (inst N (rh N)) (goal N (rh N))).length : Nat) → (∀ i, i < (stepsOf N nd (inst N (rh N)) (goal N (rh N))).length → hI g 85 i = (((stepsOf N nd (inst N (rh N)) (goal N (rh N))).getD i 0 : Nat) : Int)) → K g) : w_X2_findSteps K h := by
  unfold w_X2_findSteps
  have hr := rh_lt W
  have L := HT_len T
  have Si := CS_i C hr
  have Sg := CS_g C hr
  obtain ⟨un, ul⟩ := unl_M W.1 Si Sg
  have sl := stepsL_len (N := N) (nd := nd) (g := goal N (rh N)) 12 (inst N (rh N)) (orM 12 (fun p => !decide (inst N (rh N) p = goal N (rh N) p)))
  refine c_atH C W ?_
  refine ⟨(rc_k T hr), ?_⟩
  intro b3 eb3
  refine c_atH C W ?_
  refine ⟨(rc_k T hr), ?_⟩
  intro b6 eb6
  subst eb3 eb6
  refine c_X8_unlikePacks C.1 C.2.1 W.1 ?_
  rw [un]
  intro _
  intro h8 eh8 t8 u8
  have n79 : ∀ {g}, HT g → 11 < hn g 79 := fun t => by rw [lyn (c := 3) (n := 12) t rfl]; decide
  have n85 : ∀ {g}, HT g → hn g 85 = 12 := fun t => lyn (c := 100) (n := 12) t rfl
  refine ⟨fun b x i g => ∃ f left, x = ((left : Nat) : Int) ∧ left < 4096 ∧ (∀ q, left.testBit q = true → q < pc N) ∧ SetR N b f ∧ ∃ pre : List Nat, i = (pre.length : Nat) ∧ pre.length ≤ 12 ∧ pre ++ stepsL N nd (goal N (rh N)) (12 - pre.length) f left = stepsOf N nd (inst N (rh N)) (goal N (rh N)) ∧ cntN 12 left.testBit ≤ 12 - pre.length ∧ Fr (fun b => b = 79 ∨ b = 85) h g ∧ g.length = h.length ∧ xhs g = xhs h ∧ (∀ j, ¬ j = 11 → el g 79 j = el h 79 j) ∧ hI g 79 11 = (pre.length : Nat) ∧ ∀ j, j < pre.length → hI g 85 j = ((pre.getD j 0 : Nat) : Int), fun _ _ i _ => (12 - i).toNat, ?_, ?_⟩
  · refine ⟨inst N (rh N), _, rfl, orM_lt _ 12, ul, Si, [], rfl, by decide, rfl, cntN_le _ 12, (by rw [eh8]; exact Fr_sV (.inl rfl)), by rw [eh8, len_sV], by rw [eh8, xhs_sV], fun j n => (by rw [eh8]; exact el_ni (fun z => n z.symm)), ?_, fun j hj => by simp at hj⟩
    rw [eh8]
    exact hI_eq (n79 T) (rgk rfl)
  · intro b9 x10 x11 h13 t13 s13 rx10 rx11 z14
    obtain ⟨f, left, e10, lt, lp, S, pre, e11, l12, ap, cn, zf, zl, zx, ze, z79, z85⟩ := z14
    refine ⟨left = 0, ?_, ?_⟩
    · intro z15
      subst z15
      rw [stepsL_0, List.append_nil] at ap
      rw [← ap] at k
      exact k _ zf zl zx ze z79 z85
    · refine ⟨fun c24 => ?_, fun c24 => ?_⟩
      · exact cnt_0 lt (by omega)
      · refine ⟨fun c23 => ?_, fun c23 => ?_⟩
        · omega
        · have C13 : CS h13 8 N nd := CS_fr (fun j hj => zf (8 + j) (by omega) (by omega)) (txt_fr T zf (fun b y => by omega)) (WF_b W) C
          have M13 : MetOK h13 N nd := MetOK_fr (fun b x y => zf b (by omega) (by omega)) M
          have ln : ¬ left = 0 := by omega
          rw [e10]
          refine c_X2_nextStep t13 C13 W dk M13 lt lp S Sg ?_
          intro _
          refine ⟨(by omega), ?_⟩
          intro h18 eh18 t18 u18
          have rc1 := rem_cnt (N := N) (nd := nd) (f := f) (g := goal N (rh N)) lt ln
          have nl : nextS N nd f (goal N (rh N)) left < 4096 := by
            rcases nextS_cs N nd f (goal N (rh N)) left with ⟨p, hp, e, -⟩ | e
            · rw [e]; exact Nat.pow_lt_pow_right (m := p) (n := 12) (by decide) hp
            · rw [e]; exact lt
          intro h19 eh19 t19 u19
          rw [wr_of (by omega) (by omega)] at eh19
          have s19 : ∀ b, ¬ b = 79 → ¬ b = 85 → sameC h13 h19 b := fun b n1 n2 => by rw [eh19, eh18]; exact sameC_tr (sameC_sV (fun z => n2 z.symm)) (sameC_sV (fun z => n1 z.symm))
          have C19 : CS h19 8 N nd := CS_fr (fun j hj => s19 _ (by omega) (by omega)) (fun a ha => s19 a (fun z => noTxt t13 (by omega) (z ▸ ha)) (fun z => noTxt t13 (by omega) (z ▸ ha))) (WF_b W) C13
          refine c_X2_moved t19 C19 W nl S Sg ?_
          intro b20 S20
          intro x21 ex21 rx21
          intro x22 ex22 rx22
          rw [iand_nt (by omega) (by omega)] at ex21
          rw [wr_of (by omega) (by omega)] at ex22
          refine ⟨⟨mvF (nextS N nd f (goal N (rh N)) left) f (goal N (rh N)), _, ex21, rem_lt lt, fun q hq => lp q (by rw [tb_rem, Bool.and_eq_true] at hq; exact hq.1), S20, pre ++ [nextS N nd f (goal N (rh N)) left], by rw [List.length_append, List.length_singleton]; omega, by rw [List.length_append, List.length_singleton]; omega, ?_, by rw [List.length_append, List.length_singleton]; omega, fun b hb n => ?_, by rw [eh19, len_sV, eh18, len_sV]; exact zl, by rw [eh19, xhs_sV, eh18, xhs_sV]; exact zx, fun j n => ?_, ?_, fun j hj => ?_⟩, by dsimp only; omega⟩
          · rw [← ap, show 12 - pre.length = (12 - (pre ++ [nextS N nd f (goal N (rh N)) left]).length) + 1 by rw [List.length_append, List.length_singleton]; omega, stepsL_s ln, List.append_assoc]
            rfl
          · exact sameC_tr (zf b hb n) (s19 b (by omega) (by omega))
          · rw [eh19, el_ni (fun z => n z.symm), eh18, el_ne (by decide)]; exact ze j n
          · rw [eh19, hI_eq (n79 t18) (by unfold rg; omega), List.length_append, List.length_singleton]; omega
          · rw [eh19, hI_ne (by decide), eh18]
            rw [List.length_append, List.length_singleton] at hj
            by_cases c : j = pre.length
            · rw [show x11.toNat = j by omega, hI_eq (by rw [n85 t13]; omega) (by unfold rg; omega)]
              rw [List.getD_eq_getElem?_getD, List.getElem?_append_right (by omega), c]
              simp
            · rw [hI_ni (by omega), z85 j (by omega)]
              rw [List.getD_eq_getElem?_getD, List.getD_eq_getElem?_getD, List.getElem?_append_left (by omega)]
set_option maxHeartbeats 4000000 in
theorem c_X14_findSteps {p0 p1 : Nat} {nd : Nat → ND} {f0 g : Nat → Int} {h : XH} {N : Nat → Int} {m : Nat} (T : HT h) (eN : N = nw h) (W : WF N m) (Z : NTm h nd m) (A : AR h p0 f0) (B : AR h p1 g) (S : fOK N f0) (S1 : fOK N g) (q0 : 468 ≤ p0) (q1 : 468 ≤ p1) {K : XH → Prop} (k : ∀ h1, Fr (fun b => b = 437 ∨ b = 466) h h1 → h.length ≤ h1.length → Gr 1 n12 h h1 → (∀ j, ¬ j = 63 → el h1 437 j = el h 437 j) → hI h1 437 63 = ((stepsOf N nd f0 g).length : Nat) → (∀ i, i < (stepsOf N nd f0 g).length → hI h1 466 i = (((stepsOf N nd f0 g).getD i 0 : Nat) : Int)) → K h1) : w_X14_findSteps p0 p1 K h := by
  unfold w_X14_findSteps
  have L := HT_len T
  have k0 := hk_lt A.1 (by decide)
  have k1 := hk_lt B.1 (by decide)
  have n437 : ∀ {x}, HT x → hn x 437 = 64 := fun t => (lstn t).2.2.2.2.1
  have n466 : ∀ {x}, HT x → hn x 466 = 12 := fun t => lyn (c := 100) (n := 12) t rfl
  intro a1 h2 ea1 eh2 t2 u2 ca1 la1
  have f2 : Fr (fun _ => False) h h2 := by rw [eh2]; exact Fr_app
  have l2 : h2.length = h.length + 1 := by rw [eh2]; unfold nA; exact len_app _ _
  have g2 : Gr 1 n12 h h2 := by rw [eh2]; exact Gr_n12 _
  have A2 := AR_fr (f2 p0 k0 id) A
  have B2 := AR_fr (f2 p1 k1 id) B
  refine ⟨A2.1, ?_⟩
  refine ⟨⟨by omega, by decide, by decide, by decide, by rw [A2.2.1]; decide, by rw [la1]; decide⟩, ?_⟩
  intro h5 eh5 t5 u5
  have s5 : ∀ b, ¬ b = a1 → sameC h2 h5 b := fun b n => by rw [eh5]; exact sameC_cA (fun z => n z.symm)
  have l5 : h5.length = h2.length := by rw [eh5, len_cA]
  have x5 : xhs h5 = xhs h2 := by rw [eh5]; exact xhs_cA (t := t2) (u := 0) A2.1 ca1 (by decide) (by rw [A2.2.1]; decide) (by rw [la1]; decide)
  have A5 := AR_fr (s5 p0 (by omega)) A2
  have B5 := AR_fr (s5 p1 (by omega)) B2
  have AA : AR h5 a1 f0 := by
    refine ⟨?_, ?_, fun i hi => ?_⟩
    · exact HX_hk u5 ca1 (by decide)
    · exact (HX_hn u5 (by omega)).trans la1
    · have e := el_cA (h := h2) (a := p0) (sp := 0) (b := a1) (dp := 0) (n := 12) (t := t2) (u := 0) A2.1 ca1 (by decide) (by rw [A2.2.1]; decide) (by rw [la1]; decide) i
      rw [← eh5] at e
      unfold hI
      rw [e, if_pos (by omega)]
      have := A2.2.2 i hi
      rw [show 0 + (i - 0) = i by omega]
      exact this
  refine ⟨fun x i => 0 ≤ i ∧ i ≤ 12 ∧ x = (orM i.toNat (fun p => !decide (f0 p = g p)) : Nat), fun _ i => (12 - i).toNat, ?_, ?_⟩
  · exact ⟨by omega, by omega, rfl⟩
  · intro x6 x7 rx6 rx7 z8
    obtain ⟨i0, i1, ei⟩ := z8
    refine ⟨fun c60 => ?_, fun c60 => ?_⟩
    · intro h9 eh9 t9 u9
      have s9 : ∀ b, ¬ b = 437 → sameC h5 h9 b := fun b n => by rw [eh9]; exact sameC_sV (fun z => n z.symm)
      refine ⟨fun x q => ∃ f left, x = ((left : Nat) : Int) ∧ left < 4096 ∧ fOK N f ∧ (∀ p, p < 12 → left.testBit p = true → f p = f0 p) ∧ (¬ left = 0 → AR q a1 f) ∧ hk q a1 = 100 ∧ hn q a1 = 12 ∧ ∃ pre : List Nat, pre.length ≤ 12 ∧ pre ++ stepsL N nd g (12 - pre.length) f left = stepsOf N nd f0 g ∧ cntN 12 left.testBit ≤ 12 - pre.length ∧ Fr (fun b => b = a1 ∨ b = 437 ∨ b = 466) h5 q ∧ q.length = h5.length ∧ xhs q = xhs h5 ∧ (∀ j, ¬ j = 63 → el q 437 j = el h5 437 j) ∧ hI q 437 63 = (pre.length : Nat) ∧ ∀ j, j < pre.length → hI q 466 j = ((pre.getD j 0 : Nat) : Int), fun x _ => cntN 12 x.toNat.testBit, ?_, ?_⟩
      · rw [show x7.toNat = 12 by omega] at ei
        refine ⟨f0, _, ei, orM_lt _ 12, S, fun _ _ _ => rfl, fun _ => AR_fr (s9 a1 (by omega)) AA, (sameC_k (s9 a1 (by omega))).trans AA.1, (sameC_n (s9 a1 (by omega))).trans AA.2.1, [], by decide, rfl, cntN_le _ 12, fun b hb n => s9 b (by omega), by rw [eh9, len_sV], by rw [eh9, xhs_sV], fun j n => (by rw [eh9]; exact el_ni (fun z => n z.symm)), ?_, fun j hj => by simp at hj⟩
        rw [eh9]
        exact hI_eq (by rw [n437 t5]; decide) (rgk rfl)
      · intro x10 h13 t13 s13 rx10 z14
        obtain ⟨f, left, e10, lt, fo, fe, Aq, ka1, na1, pre, l12, ap, cn, zf, zl, zx, ze, z63, z66⟩ := z14
        refine ⟨fun c51 => ?_, fun c51 => ?_⟩
        · have : left = 0 := by omega
          subst this
          rw [stepsL_0, List.append_nil] at ap
          rw [← ap] at k
          refine k _ (fun b hb n => ?_) (by omega) ⟨by have := g2.1; omega, by have := g2.2; omega⟩ (fun j n => ?_) z63 z66
          · exact sameC_tr (sameC_tr (f2 b hb id) (s5 b (by omega))) (zf b (by omega) (by omega))
          · rw [ze j n, sameC_el (s5 437 (by omega)), sameC_el (f2 437 (by omega) id)]
        · have ln : ¬ left = 0 := by omega
          have A13 := Aq ln
          have rc1 := rem_cnt (N := N) (nd := nd) (f := f) (g := g) lt ln
          have nl : nextS N nd f g left < 4096 := by
            rcases nextS_cs N nd f g left with ⟨p, hp, e, -⟩ | e
            · rw [e]; exact Nat.pow_lt_pow_right (m := p) (n := 12) (by decide) hp
            · rw [e]; exact lt
          refine ⟨fun st i q => 0 ≤ i ∧ i ≤ 12 ∧ Fr (fun b => b = a1) h13 q ∧ q.length = h13.length ∧ xhs q = xhs h13 ∧ (st = 0 ∧ AR q a1 f ∧ (∀ j : Nat, (j : Int) < i → left.testBit j = true → ¬ sndP N nd (mvF (2 ^ j) f g)) ∨ st = (nextS N nd f g left : Nat) ∧ AR q a1 (mvF (nextS N nd f g left) f g) ∧ ¬ st = 0), fun _ i _ => (12 - i).toNat, ?_, ?_⟩
          · exact ⟨by omega, by omega, Fr_rf _ _, rfl, rfl, .inl ⟨rfl, A13, fun j hj => by omega⟩⟩
          · intro x15 x16 h17 t17 s17 rx15 rx16 z18
            obtain ⟨j0, j1, wf, wl_, wx, wc⟩ := z18
            refine ⟨x15 = 0 ∧ nextS N nd f g left = left ∨ x15 = (nextS N nd f g left : Nat) ∧ AR h17 a1 (mvF (nextS N nd f g left) f g) ∧ ¬ x15 = 0, ?_, ?_⟩
            · intro z19
              refine ⟨fun x => x = (nextS N nd f g left : Nat), ?_, ?_⟩
              · intro x20 rx20 z21
                refine ⟨(by rw [sameC_I (wf 437 (by omega) (by omega)), z63]; omega), ?_⟩
                intro h23 eh23 t23 u23
                intro h24 eh24 t24 u24
                intro x25 ex25 rx25
                have e63 : hI h17 437 63 = (pre.length : Nat) := by rw [sameC_I (wf 437 (by omega) (by omega)), z63]
                have e63b : hI h23 437 63 = (pre.length : Nat) := by rw [eh23, hI_ne (by decide)]; exact e63
                rw [e63b, wr_of (by omega) (by omega)] at eh24
                rw [e63] at eh23
                rw [e10, z21, iand_nt (by omega) (by omega)] at ex25
                have s24 : ∀ b, ¬ b = 437 → ¬ b = 466 → sameC h17 h24 b := fun b n1 n2 => by rw [eh24, eh23]; exact sameC_tr (sameC_sV (fun z => n2 z.symm)) (sameC_sV (fun z => n1 z.symm))
                have b1 := s24 a1 (by omega) (by omega)
                have k17 : hk h17 a1 = 100 ∧ hn h17 a1 = 12 := by rcases wc with y | y; exact ⟨y.2.1.1, y.2.1.2.1⟩; exact ⟨y.2.1.1, y.2.1.2.1⟩
                refine ⟨⟨mvF (nextS N nd f g left) f g, _, ex25, rem_lt lt, fOK_mv fo S1, fun p hp b => ?_, fun nz => ?_, (sameC_k b1).trans k17.1, (sameC_n b1).trans k17.2, pre ++ [nextS N nd f g left], by rw [List.length_append, List.length_singleton]; omega, ?_, by rw [List.length_append, List.length_singleton]; omega, fun b hb n => ?_, by rw [eh24, len_sV, eh23, len_sV]; omega, by rw [eh24, xhs_sV, eh23, xhs_sV]; omega, fun j n => ?_, ?_, fun j hj => ?_⟩, ?_⟩
                · rw [tb_rem, Bool.and_eq_true, Bool.not_eq_true'] at b
                  unfold mvF
                  rw [if_neg (by rw [b.2]; decide)]
                  exact fe p hp b.1
                · rcases z19 with ⟨y, e⟩ | ⟨-, y, -⟩
                  · rw [e, Nat.and_self, Nat.xor_self] at nz; exact absurd rfl nz
                  · exact AR_fr b1 y
                · rw [← ap, show 12 - pre.length = (12 - (pre ++ [nextS N nd f g left]).length) + 1 by rw [List.length_append, List.length_singleton]; omega, stepsL_s ln, List.append_assoc]
                  rfl
                · exact sameC_tr (sameC_tr (zf b hb n) (wf b (by omega) (by omega))) (s24 b (by omega) (by omega))
                · rw [eh24, el_ni (fun z => n z.symm), eh23, el_ne (by decide), sameC_el (wf 437 (by omega) (by omega))]; exact ze j n
                · rw [eh24, hI_eq (by rw [n437 t23]; decide) (by unfold rg; omega), List.length_append, List.length_singleton]; omega
                · rw [eh24, hI_ne (by decide), eh23]
                  rw [List.length_append, List.length_singleton] at hj
                  by_cases c : j = pre.length
                  · rw [show ((pre.length : Nat) : Int).toNat = j by omega, hI_eq (by rw [n466 t17]; omega) (by unfold rg; omega), z21]
                    rw [List.getD_eq_getElem?_getD, List.getElem?_append_right (by omega), c]
                    simp
                  · rw [hI_ni (by omega), sameC_I (wf 466 (by omega) (by omega)), z66 j (by omega)]
                    rw [List.getD_eq_getElem?_getD, List.getD_eq_getElem?_getD, List.getElem?_append_left (by omega)]
                · dsimp only
                  rw [ex25, e10, Int.toNat_natCast, Int.toNat_natCast]
                  exact rc1
              · refine ⟨fun c26 => ?_, fun c26 => ?_⟩
                · rcases z19 with ⟨y, -⟩ | ⟨y, -, -⟩
                  · exact absurd y c26
                  · exact y
                · rcases z19 with ⟨-, e⟩ | ⟨-, -, y⟩
                  · rw [e]; exact e10
                  · exact absurd (Decidable.not_not.mp c26) y
            · refine ⟨fun c50 => ?_, fun c50 => ?_⟩
              · rcases wc with ⟨y1, y2, y3⟩ | ⟨y1, y2, y3⟩
                · exact .inl ⟨y1, nextS_all (fun q hq b => y3 q (by omega) b)⟩
                · exact .inr ⟨y1, y2, y3⟩
              · refine ⟨fun c49 => ?_, fun c49 => ?_⟩
                · rcases wc with ⟨y1, -⟩ | ⟨y1, y2, y3⟩
                  · exact absurd y1 c49
                  · exact .inr ⟨y1, y2, y3⟩
                · obtain ⟨y1, A17, y3⟩ := wc.resolve_right (fun z => z.2.2 (Decidable.not_not.mp c49))
                  obtain ⟨p, rfl⟩ : ∃ p : Nat, x16 = p := ⟨x16.toNat, by omega⟩
                  have p12 : p < 12 := by omega
                  have p2 : 2 ^ p < 2 ^ 12 := Nat.pow_lt_pow_right (by decide) p12
                  have bi := bitI (a := left) (n := p) (by omega) (by omega)
                  rw [← e10] at bi
                  have B17 : AR h17 p1 g := AR_fr (wf p1 (by omega) (by omega)) (AR_fr (zf p1 (by omega) (by omega)) B5)
                  have A017 : AR h17 p0 f0 := AR_fr (wf p0 (by omega) (by omega)) (AR_fr (zf p0 (by omega) (by omega)) A5)
                  refine ⟨fun st q => Fr (fun b => b = a1) h13 q ∧ q.length = h13.length ∧ xhs q = xhs h13 ∧ (st = 0 ∧ AR q a1 f ∧ (left.testBit p = true → ¬ sndP N nd (mvF (2 ^ p) f g)) ∨ st = (nextS N nd f g left : Nat) ∧ AR q a1 (mvF (nextS N nd f g left) f g) ∧ ¬ st = 0), ?_, ?_⟩
                  · intro x27 h28 t28 s28 rx27 z29
                    intro x30 ex30 rx30
                    obtain ⟨v1, v2, v3, v4⟩ := z29
                    rw [wr_of (by omega) (by omega)] at ex30
                    refine ⟨⟨by omega, by omega, v1, v2, v3, ?_⟩, by dsimp only; omega⟩
                    rcases v4 with ⟨q1, q2, q3⟩ | v4
                    · refine .inl ⟨q1, q2, fun j hj => ?_⟩
                      by_cases c : j = p
                      · rw [c]; exact q3
                      · exact y3 j (by omega)
                    · exact .inr v4
                  · refine ⟨fun c48 => ?_, fun c48 => ?_⟩
                    · refine ⟨wf, wl_, wx, .inl ⟨y1, A17, fun b => ?_⟩⟩
                      rw [bi, if_pos b] at c48
                      exact absurd rfl c48
                    · refine ⟨B17.1, ?_⟩
                      refine ⟨(by rw [B17.2.1]; omega), ?_⟩
                      refine ⟨A17.1, ?_⟩
                      refine ⟨(by rw [A17.2.1]; omega), ?_⟩
                      intro h35 eh35 t35 u35
                      rw [Int.toNat_natCast, B17.2.2 p p12] at eh35
                      have tb : left.testBit p = true := by
                        cases e : left.testBit p with
                        | true => rfl
                        | false => rw [bi, e] at c48; exact absurd (fun z => by cases z) c48
                      have gr : rg (g p) := by rw [← B17.2.2 p p12]; exact rgh _ _ _
                      have s35 : ∀ b, ¬ b = a1 → sameC h17 h35 b := fun b n => by rw [eh35]; exact sameC_sV (fun z => n z.symm)
                      have A35 : AR h35 a1 (mvF (2 ^ p) f g) := by
                        refine ⟨by rw [eh35, hk_sV]; exact A17.1, by rw [eh35, hn_sV]; exact A17.2.1, fun i hi => ?_⟩
                        unfold mvF
                        rw [Nat.testBit_two_pow, eh35]
                        by_cases c : p = i
                        · rw [dt c, if_pos rfl, ← c]; exact hI_eq (by rw [A17.2.1]; omega) gr
                        · rw [df c, if_neg (by decide), hI_ni c]; exact A17.2.2 i hi
                      have f35 : Fr (fun b => b = 437 ∨ b = 466) h h35 := fun b hb n => sameC_tr (sameC_tr (sameC_tr (sameC_tr (f2 b hb id) (s5 b (by omega))) (zf b (by omega) (by omega))) (wf b (by omega) (by omega))) (s35 b (by omega))
                      have e437 : ∀ j, ¬ j = 63 → el h35 437 j = el h 437 j := fun j n => by rw [sameC_el (s35 437 (by omega)), sameC_el (wf 437 (by omega) (by omega)), ze j n, sameC_el (s5 437 (by omega)), sameC_el (f2 437 (by omega) id)]
                      have Z35 : NTm h35 nd m := NTm_fr T (fun b x y => f35 b x (by omega)) (fun j hj => e437 j (by omega)) Z
                      refine c_X14_isSoundSet t35 (eN.trans (nw_fr (f35 438 (by omega) (by decide))).symm) W Z35 A35 (fOK_mv fo S1) ?_
                      intro x36 qx36
                      intro rx36 vx36
                      refine ⟨fun x => x = 0 ∧ ¬ sndP N nd (mvF (2 ^ p) f g) ∨ x = ((2 ^ p : Nat) : Int) ∧ sndP N nd (mvF (2 ^ p) f g), ?_, ?_⟩
                      · intro x37 rx37 z38
                        refine ⟨fun x => x = if x37 = 0 then f p else g p, ?_, ?_⟩
                        · intro x39 rx39 z40
                          refine ⟨(by rw [A35.2.1]; omega), ?_⟩
                          intro h42 eh42 t42 u42
                          rw [Int.toNat_natCast, z40] at eh42
                          have s42 : ∀ b, ¬ b = a1 → sameC h35 h42 b := fun b n => by rw [eh42]; exact sameC_sV (fun z => n z.symm)
                          refine ⟨fun b hb n => sameC_tr (sameC_tr (wf b hb n) (s35 b n)) (s42 b n), by rw [eh42, len_sV, eh35, len_sV]; exact wl_, by rw [eh42, xhs_sV, eh35, xhs_sV]; exact wx, ?_⟩
                          rcases z38 with ⟨q1, q2⟩ | ⟨q1, q2⟩
                          · refine .inl ⟨q1, ⟨by rw [eh42, hk_sV]; exact A35.1, by rw [eh42, hn_sV]; exact A35.2.1, fun i hi => ?_⟩, fun _ => q2⟩
                            rw [if_pos q1] at eh42
                            by_cases c : p = i
                            · rw [eh42, ← c]; exact hI_eq (by rw [A35.2.1]; omega) (by rw [fe p p12 tb, ← A.2.2 p p12]; exact rgh _ _ _)
                            · rw [eh42, hI_ni c, A35.2.2 i hi]
                              unfold mvF
                              rw [Nat.testBit_two_pow, df c, if_neg (by decide)]
                          · have np := Nat.two_pow_pos p
                            have es := nextS_is (N := N) (nd := nd) (f := f) (g := g) (left := left) p12 tb q2 (fun q hq b => y3 q (by omega) b)
                            rw [if_neg (by omega)] at eh42
                            refine .inr ⟨by rw [es]; exact q1, ⟨by rw [eh42, hk_sV]; exact A35.1, by rw [eh42, hn_sV]; exact A35.2.1, fun i hi => ?_⟩, by omega⟩
                            rw [es]
                            by_cases c : p = i
                            · rw [eh42, ← c, hI_eq (by rw [A35.2.1]; omega) gr]
                              unfold mvF
                              rw [Nat.testBit_two_pow_self, if_pos rfl]
                            · rw [eh42, hI_ni c]; exact A35.2.2 i hi
                        · refine ⟨fun c46 => ?_, fun c46 => ?_⟩
                          · refine ⟨(by rw [(AR_fr (s35 p1 (by omega)) B17).2.1]; omega), ?_⟩
                            rw [if_neg c46, Int.toNat_natCast]
                            exact (AR_fr (s35 p1 (by omega)) B17).2.2 p p12
                          · refine ⟨(AR_fr (s35 p0 (by omega)) A017).1, ?_⟩
                            refine ⟨(by rw [(AR_fr (s35 p0 (by omega)) A017).2.1]; omega), ?_⟩
                            rw [if_pos (Decidable.not_not.mp c46), Int.toNat_natCast, fe p p12 tb]
                            exact (AR_fr (s35 p0 (by omega)) A017).2.2 p p12
                      · refine ⟨fun c47 => ?_, fun c47 => ?_⟩
                        · exact .inl ⟨rfl, (bq1 qx36).2.1.mp c47⟩
                        · exact .inr ⟨by rw [ishl1 (by omega), Int.toNat_natCast], (bq1 qx36).2.2.1.mp c47⟩
    · have v1 := A5.2.2 x7.toNat (by omega)
      have v2 := B5.2.2 x7.toNat (by omega)
      have ol := orM_lt (fun p => !decide (f0 p = g p)) x7.toNat
      have ow := Nat.pow_le_pow_right (n := 2) (by decide) (show x7.toNat ≤ 12 by omega)
      have p2 : 2 ^ x7.toNat < 2 ^ 12 := Nat.pow_lt_pow_right (by decide) (by omega)
      refine ⟨(by rw [A5.2.1]; omega), ?_⟩
      refine ⟨B5.1, ?_⟩
      refine ⟨(by rw [B5.2.1]; omega), ?_⟩
      refine ⟨fun x => x = ((if f0 x7.toNat = g x7.toNat then 0 else 2 ^ x7.toNat : Nat) : Int), ?_, ?_⟩
      · intro x55 rx55 z56
        intro x57 ex57 rx57
        intro x58 ex58 rx58
        rw [wr_of (by omega) (by omega)] at ex58
        rw [ei, z56, ior_nat (by omega) (by split <;> omega)] at ex57
        refine ⟨⟨by omega, by omega, ?_⟩, by dsimp only; omega⟩
        rw [ex57, show x58.toNat = x7.toNat + 1 by omega]
        congr 1
        show _ = orM x7.toNat _ ||| (if (!decide (f0 x7.toNat = g x7.toNat)) = true then 2 ^ x7.toNat else 0)
        by_cases c : f0 x7.toNat = g x7.toNat
        · rw [if_pos c, dt c]; rfl
        · rw [if_neg c, df c]; rfl
      · refine ⟨fun c59 => ?_, fun c59 => ?_⟩
        · rw [ishl1 (by omega), if_neg (by omega)]
        · rw [if_pos (by omega)]; rfl
