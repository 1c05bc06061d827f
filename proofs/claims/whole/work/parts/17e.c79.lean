/-! STEPS OF AN INSTALL, the class -/
def orf (N : Nat → Int) (s : BitVec 64) : Nat → Nat
  | 0 => 0
  | v + 1 => orf N s v ||| (if s.getLsbD v = true then (nV N v 2).toNat else 0)
theorem orf_at {N : Nat → Int} {s : BitVec 64} (i : Nat) : ∀ n, (orf N s n).testBit i = true ↔ ∃ v, v < n ∧ s.getLsbD v = true ∧ (nV N v 2).toNat.testBit i = true := by
  intro n
  induction n with
  | zero => exact ⟨fun y => by simp [orf] at y, fun ⟨v, hv, _⟩ => by omega⟩
  | succ n ih =>
    show (orf N s n ||| _).testBit i = true ↔ _
    rw [Nat.testBit_or, Bool.or_eq_true, ih]
    constructor
    · rintro (⟨v, hv, y⟩ | y)
      · exact ⟨v, by omega, y⟩
      · by_cases c : s.getLsbD n = true
        · rw [if_pos c] at y; exact ⟨n, by omega, c, y⟩
        · rw [if_neg c] at y; simp at y
    · rintro ⟨v, hv, y1, y2⟩
      by_cases e : v = n
      · rw [e] at y1 y2; exact .inr (by rw [if_pos y1]; exact y2)
      · exact .inl ⟨v, by omega, y1, y2⟩
theorem orf_lt {N : Nat → Int} {s : BitVec 64} : ∀ n, (∀ v, v < n → (nV N v 2).toNat < 2147483648) → orf N s n < 2147483648 := by
  intro n
  induction n with
  | zero => intro _; show 0 < _; decide
  | succ n ih =>
    intro h
    refine Nat.or_lt_two_pow (n := 31) (ih (fun v hv => h v (by omega))) ?_
    split
    · exact h n (by omega)
    · decide
/-- the files that stand in a set -/
def FlR (N : Nat → Int) (X : Nat) (u : Nat → Int) : Prop := ∀ i, X.testBit i = true ↔ ∃ q, q < 12 ∧ ¬ u q = -1 ∧ (filesP N u q).testBit i = true
theorem FlR_hit {N : Nat → Int} {X F : Nat} {u : Nat → Int} (z : FlR N X u) : X &&& F = 0 ↔ ¬ hitB N u F = true := by
  rw [hitB_is]
  constructor
  · rintro e ⟨q, hq, y1, y2⟩
    obtain ⟨i, hi⟩ := Nat.exists_testBit_of_ne_zero y2
    rw [Nat.testBit_and, Bool.and_eq_true] at hi
    have := (z i).mpr ⟨q, hq, y1, hi.1⟩
    have w : (X &&& F).testBit i = true := by rw [Nat.testBit_and, this, hi.2]; rfl
    rw [e] at w; simp at w
  · intro n
    refine Classical.byContradiction fun y => n ?_
    obtain ⟨i, hi⟩ := Nat.exists_testBit_of_ne_zero y
    rw [Nat.testBit_and, Bool.and_eq_true] at hi
    obtain ⟨q, hq, y1, y2⟩ := (z i).mp hi.1
    refine ⟨q, hq, y1, fun e => ?_⟩
    have w : (filesP N u q &&& F).testBit i = true := by rw [Nat.testBit_and, y2, hi.2]; rfl
    rw [e] at w; simp at w
theorem FlR_upd {N : Nat → Int} {X x : Nat} {u g : Nat → Int} (z : FlR N X u) (x12 : x < 12) (gx : ¬ g x = -1) (ux : u x = -1 ∨ u x = g x) : FlR N (X ||| filesP N g x) (updN u x (g x)) := fun i => by
  rw [Nat.testBit_or, Bool.or_eq_true, z i]
  have ex : filesP N (updN u x (g x)) x = filesP N g x := fP_cg updN_eq
  have eo : ∀ q, ¬ q = x → filesP N (updN u x (g x)) q = filesP N u q := fun q n => fP_cg (updN_ne n)
  constructor
  · rintro (⟨q, hq, y1, y2⟩ | y)
    · by_cases e : q = x
      · refine ⟨x, x12, by rw [updN_eq]; exact gx, ?_⟩
        rw [ex]
        rw [e] at y1 y2
        have := ux.resolve_left y1
        rw [fP_cg (f := u) (g := g) this] at y2; exact y2
      · exact ⟨q, hq, by rw [updN_ne e]; exact y1, by rw [eo q e]; exact y2⟩
    · exact ⟨x, x12, by rw [updN_eq]; exact gx, by rw [ex]; exact y⟩
  · rintro ⟨q, hq, y1, y2⟩
    by_cases e : q = x
    · rw [e, ex] at y2; exact .inr y2
    · rw [updN_ne e] at y1; rw [eo q e] at y2; exact .inl ⟨q, hq, y1, y2⟩
theorem cIn_code {f : Nat → Int} {p : Nat} {c : Int} (hc : 0 ≤ c ∧ c < 1000000) (e : f p = c ∨ f p = c + 1000000) : cIn f p = c ∧ ¬ f p = -1 := by
  have n : ¬ f p = -1 := by omega
  unfold cIn
  rw [if_neg n]
  exact ⟨by omega, n⟩
/-- what stands in both -/
theorem FlR_0 {N : Nat → Int} {m a : Nat} {s w : BitVec 64} {t g : Nat → Int} (W : WF N m) (S : SetR N s t) (S2 : SetR N w (mvF a t g)) : FlR N (orf N (s &&& w) (vc N)) (u0F a t g) := fun i => by
  have v4 := W.1.2.2.2.1
  rw [orf_at]
  constructor
  · rintro ⟨v, hv, y1, y2⟩
    have v40 : v < 40 := by unfold vc at hv; omega
    rw [BitVec.getLsbD_and, Bool.and_eq_true] at y1
    have z1 := ((S.1 v v40).mp y1.1).2
    have z2 := ((S2.1 v v40).mp y1.2).2
    have wv := W.1.2.2.2.2.1 v hv
    have q12 : (nV N v 0).toNat < 12 := by have := W.1.2.1; omega
    have q0 : nV N v 0 = ((nV N v 0).toNat : Nat) := by omega
    obtain ⟨c1, n1⟩ := cIn_code ⟨wv.2.2.1, wv.2.2.2.1⟩ z1
    have key : (u0F a t g (nV N v 0).toNat = nV N v 1 ∨ u0F a t g (nV N v 0).toNat = nV N v 1 + 1000000) := by
      unfold u0F
      unfold mvF at z2
      by_cases b : a.testBit (nV N v 0).toNat = true
      · rw [if_pos b] at z2 ⊢
        rw [c1, (cIn_code ⟨wv.2.2.1, wv.2.2.2.1⟩ z2).1, if_pos rfl]; exact z2
      · rw [if_neg b] at z2 ⊢; exact z2
    have n0 := (cIn_code ⟨wv.2.2.1, wv.2.2.2.1⟩ key).2
    refine ⟨_, q12, n0, ?_⟩
    unfold filesP
    rw [if_neg n0, slF_r W.1 hv q0 key, Int.toNat_natCast]; exact y2
  · rintro ⟨q, hq, y1, y2⟩
    have key : ∃ v, v < vc N ∧ nV N v 0 = q ∧ (t q = nV N v 1 ∨ t q = nV N v 1 + 1000000) ∧ (mvF a t g q = nV N v 1 ∨ mvF a t g q = nV N v 1 + 1000000) ∧ (u0F a t g q = nV N v 1 ∨ u0F a t g q = nV N v 1 + 1000000) := by
      unfold u0F at y1 ⊢
      by_cases b : a.testBit q = true
      · rw [if_pos b] at y1
        by_cases c : cIn t q = cIn g q
        · rw [if_pos c] at y1
          have m1 : mvF a t g q = g q := by unfold mvF; rw [if_pos b]
          obtain ⟨v, hv, e1, e2⟩ := (S2.2.2.2 q hq).resolve_left (by rw [m1]; exact y1)
          rw [m1] at e2
          have wv := W.1.2.2.2.2.1 v hv
          rw [(cIn_code ⟨wv.2.2.1, wv.2.2.2.1⟩ e2).1] at c
          have tn : ¬ t q = -1 := fun z => by unfold cIn at c; rw [if_pos z] at c; omega
          refine ⟨v, hv, e1, ?_, by rw [m1]; exact e2, by rw [if_pos b, if_pos (by rw [c, (cIn_code ⟨wv.2.2.1, wv.2.2.2.1⟩ e2).1])]; exact e2⟩
          obtain ⟨w', hw', f1, f2⟩ := (S.2.2.2 q hq).resolve_left tn
          have ww := W.1.2.2.2.2.1 w' hw'
          have := (cIn_code ⟨ww.2.2.1, ww.2.2.2.1⟩ f2).1
          omega
        · rw [if_neg c] at y1; exact absurd rfl y1
      · rw [if_neg b] at y1 ⊢
        obtain ⟨v, hv, e1, e2⟩ := (S.2.2.2 q hq).resolve_left y1
        exact ⟨v, hv, e1, e2, by unfold mvF; rw [if_neg b]; exact e2, e2⟩
    obtain ⟨v, hv, e1, e2, e3, e4⟩ := key
    have v40 : v < 40 := by unfold vc at hv; omega
    have q0 : (nV N v 0).toNat = q := by omega
    refine ⟨v, hv, ?_, ?_⟩
    · rw [BitVec.getLsbD_and, (S.1 v v40).mpr ⟨hv, by rw [q0]; exact e2⟩, (S2.1 v v40).mpr ⟨hv, by rw [q0]; exact e3⟩]; rfl
    · unfold filesP at y2
      rw [if_neg y1, slF_r W.1 hv e1 e4, Int.toNat_natCast] at y2; exact y2
theorem hiB_s {a n : Nat} : hiB a (n + 1) = if a.testBit n = true then (n : Int) else hiB a n := rfl
theorem hiB_b (a : Nat) : ∀ n, -1 ≤ hiB a n ∧ hiB a n < n := by
  intro n
  induction n with
  | zero => exact ⟨Int.le_refl _, by show (-1 : Int) < _; decide⟩
  | succ n ih => rw [hiB_s]; split <;> omega
theorem hiB_up {a : Nat} {n : Nat} : ∀ k, (∀ i, n ≤ i → i < n + k → a.testBit i = false) → hiB a (n + k) = hiB a n := by
  intro k
  induction k with
  | zero => intro _; rfl
  | succ k ih =>
    intro h
    rw [← Nat.add_assoc, hiB_s, if_neg (by rw [h (n + k) (by omega) (by omega)]; decide)]
    exact ih (fun i h1 h2 => h i h1 (by omega))
theorem bit_ishr {a n : Nat} (ha : a < 4096) (hn : n < 12) : iand (ishr (a : Int) (n : Int)) 1 = if a.testBit n = true then 1 else 0 := by
  rw [ishr_nat (by omega) (by omega)]
  have := iand_nat (a := a >>> n) (b := 1) (Nat.lt_of_le_of_lt (Nat.shiftRight_le a n) (by omega)) (by decide)
  rw [show ((1 : Nat) : Int) = 1 from rfl] at this
  rw [this, Nat.and_one_is_mod]
  have e : a.testBit n = decide (a >>> n % 2 = 1) := by rw [Nat.testBit_eq_decide_div_mod_eq, Nat.shiftRight_eq_div_pow]
  rw [e]
  have := Nat.mod_lt (a >>> n) (show 2 > 0 by decide)
  by_cases c : a >>> n % 2 = 1
  · rw [decide_eq_true c, if_pos rfl, c]; rfl
  · rw [decide_eq_false c, if_neg (by decide)]; omega
set_option maxHeartbeats 1000000 in
theorem c_X2_filesOf {s : BitVec 64} {h : XH} {N : Nat → Int} {nd : Nat → ND} {m : Nat} (T : HT h) (C : CS h 8 N nd) (W : WF N m) {K : Int → Prop} (k : K (orf N s (vc N) : Nat)) : w_X2_filesOf s K h := by
  unfold w_X2_filesOf
  have v4 := W.1.2.2.2.1
  have w3 := W.1.2.2.1
  have V1 := (V80 C.1).2
  have vcN : vc N = (N 4).toNat := rfl
  have fl : ∀ v, v < vc N → 0 ≤ nV N v 2 ∧ (nV N v 2).toNat < 2147483648 := fun v hv => by
    have e := (V8 C.1 hv).2.2.1
    have r := rg16 h 15 v
    rw [e] at r
    have := (W.1.2.2.2.2.1 v hv).2.2.2.2.2.1
    unfold rg at r
    omega
  refine ⟨fun x y => ∃ n : Nat, y = (n : Int) ∧ n ≤ vc N ∧ x = (orf N s n : Nat), fun _ y => ((vc N : Int) - y).toNat, ?_, ?_⟩
  · exact ⟨0, rfl, Nat.zero_le _, rfl⟩
  · intro x1 x2 rx1 rx2 z3
    obtain ⟨n, en, ln, xn⟩ := z3
    have ol := orf_lt (s := s) n (fun v hv => (fl v (by omega)).2)
    refine ⟨fun c11 => ?_, fun c11 => ?_⟩
    · have : n = vc N := by omega
      rw [xn, this]; exact k
    · refine c_X12_has (by omega) ?_
      intro x4 qx4
      rw [show x2.toNat = n by omega] at qx4
      intro rx4 vx4
      refine ⟨fun x => x = ((if s.getLsbD n = true then (nV N n 2).toNat else 0 : Nat) : Int), ?_, ?_⟩
      · intro x5 rx5 z6
        intro x7 ex7 rx7
        intro x8 ex8 rx8
        have fn := (fl n (by omega)).2
        refine ⟨⟨n + 1, ?_, by omega, ?_⟩, ?_⟩
        · rw [ex8, wr_of (by omega) (by omega)]; omega
        · rw [ex7, xn, z6]
          exact ior_nat ol (by split <;> omega)
        · dsimp only
          rw [ex8, wr_of (by omega) (by omega)]; omega
      · refine ⟨fun c10 => ?_, fun c10 => ?_⟩
        · rw [if_neg ((bq1 qx4).2.1.mp c10)]; rfl
        · refine ⟨(by omega), ?_⟩
          rw [if_pos ((bq1 qx4).2.2.1.mp c10), show x2.toNat = n by omega, (V8 C.1 (show n < vc N by omega)).2.2.1]
          have := (fl n (by omega)).1
          omega
set_option maxHeartbeats 1000000 in
theorem c_X2_greatestOf {a : Nat} (ha : a < 4096) {h : XH} {N : Nat → Int} {nd : Nat → ND} {m : Nat} (T : HT h) (C : CS h 8 N nd) (W : WF N m) {K : Int → Prop} (k : K (hiB a (pc N))) : w_X2_greatestOf (a : Int) K h := by
  unfold w_X2_greatestOf
  have w0 := W.1.1
  have w12 := W.1.2.1
  have V1 := (V80 C.1).1
  have pcN : pc N = (N 0).toNat := rfl
  refine ⟨fun x y => ∃ n : Nat, y = (n : Int) ∧ n ≤ pc N ∧ x = hiB a n, fun _ y => ((pc N : Int) - y).toNat, ?_, ?_⟩
  · exact ⟨0, rfl, Nat.zero_le _, rfl⟩
  · intro x1 x2 rx1 rx2 z3
    obtain ⟨n, en, ln, xn⟩ := z3
    refine ⟨fun c8 => ?_, fun c8 => ?_⟩
    · have : n = pc N := by omega
      rw [xn, this]; exact k
    · refine ⟨fun x => x = hiB a (n + 1), ?_, ?_⟩
      · intro x4 rx4 z5
        intro x6 ex6 rx6
        refine ⟨⟨n + 1, ?_, by omega, z5⟩, ?_⟩
        · rw [ex6, wr_of (by omega) (by omega)]; omega
        · dsimp only
          rw [ex6, wr_of (by omega) (by omega)]; omega
      · refine ⟨fun c7 => ?_, fun c7 => ?_⟩
        · rw [en, bit_ishr ha (by omega)] at c7
          rw [hiB_s, if_neg (fun y => by rw [if_pos y] at c7; omega)]; exact xn
        · rw [en, bit_ishr ha (by omega)] at c7
          rw [hiB_s, if_pos (Classical.byContradiction fun y => c7 (if_neg y))]; exact en
