/-! STEPS OF AN INSTALL -/
def hitB (N : Nat → Int) (u : Nat → Int) (F : Nat) : Bool := (List.range 12).any fun q => !decide (u q = -1) && !decide (filesP N u q &&& F = 0)
def cfl (N : Nat → Int) (g : Nat → Int) (c : Nat → Bool) : (Nat → Int) → List Nat → Int
  | _, [] => -1
  | u, x :: l => if c x = true then (if hitB N u (filesP N g x) = true then (x : Int) else cfl N g c (updN u x (g x)) l) else cfl N g c u l
def fll (N : Nat → Int) (g : Nat → Int) (c : Nat → Bool) : List Nat → Int
  | [] => -1
  | x :: l => if c x = true ∧ nV N (slF N g x).toNat 5 = 1 then (x : Int) else fll N g c l
def u0F (a : Nat) (t g : Nat → Int) (p : Nat) : Int := if a.testBit p = true then (if cIn t p = cIn g p then g p else -1) else t p
def szF (N : Nat → Int) (f : Nat → Int) : Int := sumN 12 (fun p => if f p = -1 then 0 else nV N (slF N f p).toNat 3)
def hiB (a : Nat) : Nat → Int
  | 0 => -1
  | n + 1 => if a.testBit n = true then (n : Int) else hiB a n
def stp (N : Nat → Int) (g t : Nat → Int) (c : Nat → Bool) (a : Nat) (L : List Nat) (mo : Int) : Int × Int :=
  if ¬ cfl N g c (u0F a t g) L = -1 then (2, cfl N g c (u0F a t g) L) else if mo < szF N (mvF a t g) then (3, hiB a 12) else if ¬ fll N g c L = -1 then (4, fll N g c L) else (-1, -1)
/-- what becomes of the steps, from the k-th on: reason, package, step -/
def goS (N : Nat → Int) (g : Nat → Int) (C : Nat → Bool) (L : List Nat) (mo : Int) : List Nat → Nat → (Nat → Int) → Int × Int × Int
  | [], _, _ => (-1, -1, -1)
  | a :: l, k, t => if (stp N g t (fun x => C x && a.testBit x) a L mo).1 = -1 then goS N g C L mo l (k + 1) (mvF a t g) else ((stp N g t (fun x => C x && a.testBit x) a L mo).1, (stp N g t (fun x => C x && a.testBit x) a L mo).2, (k : Int))
/-- steps that can be -/
def StOK (f0 g : Nat → Int) : List Nat → (Nat → Int) → Prop
  | [], t => ∀ p, p < 12 → t p = g p
  | a :: l, t => (0 < a ∧ a < 4096) ∧ (∀ x, x < 12 → a.testBit x = true → t x = f0 x) ∧ (∀ x, a.testBit x = true → ¬ f0 x = g x) ∧ StOK f0 g l (mvF a t g)
theorem cfl_flt {N : Nat → Int} {g : Nat → Int} {C d : Nat → Bool} : ∀ (L : List Nat) (u : Nat → Int), cfl N g d u (L.filter C) = cfl N g (fun x => C x && d x) u L := by
  intro L
  induction L with
  | nil => intro u; rfl
  | cons x l ih =>
    intro u
    rw [List.filter_cons]
    by_cases c : C x = true
    · rw [if_pos c]
      unfold cfl
      rw [ih, ih]
      rw [c, Bool.true_and]
    · rw [if_neg c, ih]
      conv => rhs; unfold cfl
      rw [if_neg (fun y => c (by rw [Bool.and_eq_true] at y; exact y.1))]
theorem fll_flt {N : Nat → Int} {g : Nat → Int} {C d : Nat → Bool} : ∀ (L : List Nat), fll N g d (L.filter C) = fll N g (fun x => C x && d x) L := by
  intro L
  induction L with
  | nil => rfl
  | cons x l ih =>
    rw [List.filter_cons]
    by_cases c : C x = true
    · rw [if_pos c]
      unfold fll
      rw [ih]
      rw [c, Bool.true_and]
    · rw [if_neg c, ih]
      conv => rhs; unfold fll
      rw [if_neg (fun y => c (by have := y.1; rw [Bool.and_eq_true] at this; exact this.1))]
theorem cfl_cg {N : Nat → Int} {g : Nat → Int} {c d : Nat → Bool} : ∀ (L : List Nat) (u : Nat → Int), (∀ x, x ∈ L → c x = d x) → cfl N g c u L = cfl N g d u L := by
  intro L
  induction L with
  | nil => intro u _; rfl
  | cons x l ih =>
    intro u h
    unfold cfl
    rw [h x (by simp), ih _ (fun y hy => h y (by simp [hy])), ih _ (fun y hy => h y (by simp [hy]))]
theorem fll_cg {N : Nat → Int} {g : Nat → Int} {c d : Nat → Bool} : ∀ (L : List Nat), (∀ x, x ∈ L → c x = d x) → fll N g c L = fll N g d L := by
  intro L
  induction L with
  | nil => intro _; rfl
  | cons x l ih =>
    intro h
    unfold fll
    rw [h x (by simp), ih (fun y hy => h y (by simp [hy]))]
theorem hitB_is {N : Nat → Int} {u : Nat → Int} {F : Nat} : hitB N u F = true ↔ ∃ q, q < 12 ∧ ¬ u q = -1 ∧ ¬ filesP N u q &&& F = 0 := by
  unfold hitB
  rw [List.any_eq_true]
  constructor
  · rintro ⟨q, hq, y⟩
    rw [Bool.and_eq_true, Bool.not_eq_true', Bool.not_eq_true', decide_eq_false_iff_not, decide_eq_false_iff_not] at y
    exact ⟨q, List.mem_range.mp hq, y.1, y.2⟩
  · rintro ⟨q, hq, y1, y2⟩
    exact ⟨q, List.mem_range.mpr hq, by rw [Bool.and_eq_true, Bool.not_eq_true', Bool.not_eq_true', decide_eq_false_iff_not, decide_eq_false_iff_not]; exact ⟨y1, y2⟩⟩
theorem StOK_L {N : Nat → Int} {nd : Nat → ND} {f0 g : Nat → Int} : ∀ (n : Nat) (t : Nat → Int) (l : Nat), l < 4096 → cntN 12 l.testBit ≤ n → (∀ x, x < 12 → l.testBit x = true → t x = f0 x) → (∀ x, l.testBit x = true → ¬ f0 x = g x) → (∀ x, x < 12 → ¬ l.testBit x = true → t x = g x) → StOK f0 g (stepsL N nd g n t l) t := by
  have c0 : ∀ l, l < 4096 → cntN 12 l.testBit = 0 → l = 0 := fun l lt h => Classical.byContradiction fun z => by
    obtain ⟨p, hp⟩ := Nat.exists_testBit_of_ne_zero z
    have p12 : p < 12 := by
      refine Classical.byContradiction fun y => ?_
      have := Nat.testBit_lt_two_pow (show l < 2 ^ p from Nat.lt_of_lt_of_le lt (by have := Nat.pow_le_pow_right (n := 2) (by decide) (show 12 ≤ p by omega); omega))
      rw [hp] at this; cases this
    have := cntN_lt (g := fun _ => false) (k := l.testBit) 12 (fun i _ y => by cases y) ⟨p, p12, hp, rfl⟩
    omega
  intro n
  induction n with
  | zero =>
    intro t l lt cn h1 h2 h3
    have := c0 l lt (by omega)
    subst this
    intro p hp
    exact h3 p hp (by simp)
  | succ n ih =>
    intro t l lt cn h1 h2 h3
    by_cases z : l = 0
    · rw [z, stepsL_0]
      intro p hp
      exact h3 p hp (by rw [z]; simp)
    · rw [stepsL_s z]
      have sub : ∀ x, (nextS N nd t g l).testBit x = true → l.testBit x = true := fun x hx => by
        rcases nextS_cs N nd t g l with ⟨p, hp, e, b⟩ | e
        · rw [e, Nat.testBit_two_pow] at hx
          rw [← of_decide_eq_true hx]; exact b
        · rw [e] at hx; exact hx
      have ltn : nextS N nd t g l < 4096 := by
        rcases nextS_cs N nd t g l with ⟨p, hp, e, b⟩ | e
        · rw [e]; have := Nat.pow_lt_pow_right (a := 2) (by decide) hp; omega
        · rw [e]; exact lt
      have nb : ∀ x, (l ^^^ (l &&& nextS N nd t g l)).testBit x = (l.testBit x && !(nextS N nd t g l).testBit x) := fun x => by
        rw [Nat.testBit_xor, Nat.testBit_and]
        cases l.testBit x <;> cases (nextS N nd t g l).testBit x <;> rfl
      have pos : 0 < nextS N nd t g l := by
        rcases nextS_cs N nd t g l with ⟨p, hp, e, b⟩ | e
        · rw [e]; exact Nat.pow_pos (by decide)
        · rw [e]; omega
      refine ⟨⟨pos, ltn⟩, fun x hx b => h1 x hx (sub x b), fun x b => h2 x (sub x b), ih _ _ ?_ ?_ (fun x hx b => ?_) (fun x b => ?_) (fun x hx b => ?_)⟩
      · exact Nat.xor_lt_two_pow (n := 12) lt (Nat.lt_of_le_of_lt Nat.and_le_left lt)
      · have : cntN 12 (l ^^^ (l &&& nextS N nd t g l)).testBit < cntN 12 l.testBit := by
          refine cntN_lt 12 (fun i _ y => by rw [nb, Bool.and_eq_true] at y; exact y.1) ?_
          rcases nextS_cs N nd t g l with ⟨p, hp, e, b⟩ | e
          · exact ⟨p, hp, b, by rw [nb, e, Nat.testBit_two_pow, decide_eq_true rfl]; simp⟩
          · obtain ⟨p, hp⟩ := Nat.exists_testBit_of_ne_zero z
            refine ⟨p, Classical.byContradiction fun y => ?_, hp, by rw [nb, e, hp]; rfl⟩
            have := Nat.testBit_lt_two_pow (show l < 2 ^ p from Nat.lt_of_lt_of_le lt (by have := Nat.pow_le_pow_right (n := 2) (by decide) (show 12 ≤ p by omega); omega))
            rw [hp] at this; cases this
        omega
      · rw [nb, Bool.and_eq_true, Bool.not_eq_true'] at b
        unfold mvF
        rw [if_neg (by rw [b.2]; decide)]
        exact h1 x hx b.1
      · rw [nb, Bool.and_eq_true] at b
        exact h2 x b.1
      · unfold mvF
        by_cases c : (nextS N nd t g l).testBit x = true
        · rw [if_pos c]
        · rw [if_neg c]
          refine h3 x hx (fun y => b ?_)
          rw [nb, y, Bool.true_and, Bool.not_eq_true']
          exact Bool.eq_false_iff.mpr c
theorem StOK_of {N : Nat → Int} {nd : Nat → ND} {f g : Nat → Int} : StOK f g (stepsOf N nd f g) f := by
  unfold stepsOf
  refine StOK_L 12 f _ (orM_lt _ 12) (cntN_le _ _) (fun x _ _ => rfl) (fun x b => ?_) (fun x hx b => ?_)
  · rw [orM_at, Bool.and_eq_true, Bool.not_eq_true', decide_eq_false_iff_not] at b
    exact b.2
  · refine Classical.byContradiction fun y => b ?_
    rw [orM_at, decide_eq_true hx, Bool.true_and, Bool.not_eq_true', decide_eq_false_iff_not]
    exact y
/-- no two packages have a file in common -/
def DJf (N : Nat → Int) (f : Nat → Int) : Prop := ∀ p q : Nat, p < 12 → q < 12 → ¬ p = q → filesP N f p &&& filesP N f q = 0
theorem fP_cg {N : Nat → Int} {f g : Nat → Int} {p : Nat} (e : f p = g p) : filesP N f p = filesP N g p := by unfold filesP; rw [slF_cgp e, e]
theorem fP_c {N : Nat → Int} {f g : Nat → Int} {p : Nat} (nf : ¬ f p = -1) (ng : ¬ g p = -1) (e : cIn f p = cIn g p) : filesP N f p = filesP N g p := by
  have : slF N f p = slF N g p := by
    unfold slF
    unfold cIn at e
    rw [if_neg nf, if_neg ng] at e
    rw [if_neg nf, if_neg ng, e]
  unfold filesP
  rw [if_neg nf, if_neg ng, this]
theorem fP_0 {N : Nat → Int} {f : Nat → Int} {p : Nat} (e : f p = -1) : filesP N f p = 0 := if_pos e
/-- behind a step without a clash -/
theorem cfl_DJ {N : Nat → Int} {g : Nat → Int} {c : Nat → Bool} : ∀ (L : List Nat) (u : Nat → Int), (∀ x, x ∈ L → x < 12) → (∀ x, x ∈ L → c x = true → u x = -1 ∨ u x = g x) → DJf N u → cfl N g c u L = -1 → ∃ w, DJf N w ∧ (∀ p, w p = if p ∈ L ∧ c p = true then g p else u p) := by
  intro L
  induction L with
  | nil => intro u _ _ d _; exact ⟨u, d, fun p => by rw [if_neg (fun y => by simp at y)]⟩
  | cons x l ih =>
    intro u lp un d z
    unfold cfl at z
    by_cases cx : c x = true
    · rw [if_pos cx] at z
      by_cases hb : hitB N u (filesP N g x) = true
      · rw [if_pos hb] at z; omega
      · rw [if_neg hb] at z
        have x12 := lp x (by simp)
        have d1 : DJf N (updN u x (g x)) := by
          have nh : ∀ q, q < 12 → ¬ q = x → filesP N u q &&& filesP N g x = 0 := fun q hq _ => by
            by_cases y : u q = -1
            · rw [fP_0 y, Nat.zero_and]
            · refine Classical.byContradiction fun w => hb (hitB_is.mpr ⟨q, hq, y, w⟩)
          have ex : filesP N (updN u x (g x)) x = filesP N g x := fP_cg updN_eq
          have eo : ∀ q, ¬ q = x → filesP N (updN u x (g x)) q = filesP N u q := fun q n => fP_cg (updN_ne n)
          intro p q hp hq n
          by_cases e1 : p = x
          · rw [e1, ex, eo q (fun y => n (e1.trans y.symm)), Nat.and_comm]; exact nh q hq (fun y => n (e1.trans y.symm))
          · by_cases e2 : q = x
            · rw [e2, ex, eo p e1]; exact nh p hp e1
            · rw [eo p e1, eo q e2]; exact d p q hp hq n
        obtain ⟨w, dw, ew⟩ := ih (updN u x (g x)) (fun y hy => lp y (by simp [hy])) (fun y hy cy => by
          by_cases e : y = x
          · rw [e, updN_eq]; exact .inr rfl
          · rw [updN_ne e]; exact un y (by simp [hy]) cy) d1 z
        refine ⟨w, dw, fun p => ?_⟩
        rw [ew p]
        by_cases e : p = x
        · rw [e, updN_eq, if_pos (c := x ∈ x :: l ∧ c x = true) ⟨List.mem_cons_self, cx⟩]; split <;> rfl
        · rw [updN_ne e]
          by_cases h : p ∈ l ∧ c p = true
          · rw [if_pos h, if_pos ⟨by simp [h.1], h.2⟩]
          · rw [if_neg h, if_neg (fun y => h ⟨by have := y.1; simp at this; exact this.resolve_left e, y.2⟩)]
    · rw [if_neg cx] at z
      obtain ⟨w, dw, ew⟩ := ih u (fun y hy => lp y (by simp [hy])) (fun y hy cy => un y (by simp [hy]) cy) d z
      refine ⟨w, dw, fun p => ?_⟩
      rw [ew p]
      by_cases h : p ∈ l ∧ c p = true
      · rw [if_pos h, if_pos ⟨by simp [h.1], h.2⟩]
      · rw [if_neg h, if_neg (fun y => h ⟨by
          have := y.1
          simp at this
          refine this.resolve_left (fun e => cx (e ▸ y.2)), y.2⟩)]
