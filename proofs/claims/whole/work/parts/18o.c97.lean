/-! SEARCH, the reference: it is exact -/
/-- what the set f has, as literals -/
def lkB (N : Nat → Int) (f : Nat → Int) : BitVec 64 := orN 52 (fun j => if j < 40 then (List.range 12).any (fun p => decide (slF N f p = (j : Int))) else decide (1000000 ≤ f (j - 40)))
theorem lk_o {N : Nat → Int} {f : Nat → Int} {p : Nat} (hp : p < 12) : (lkB N f).getLsbD (40 + p) = decide (1000000 ≤ f p) := by
  unfold lkB
  rw [orN_at _ _ _ (by decide), decide_eq_true (by omega), Bool.true_and, if_neg (by omega), show 40 + p - 40 = p by omega]
theorem lk_s {N : Nat → Int} {m : Nat} (W : WF N m) {f : Nat → Int} (S : fOK N f) {p v : Nat} (hp : p < pc N) (hv : v < vc N) (e : nV N v 0 = p) : (lkB N f).getLsbD v = decide ((v : Int) = slF N f p) := by
  have w12 := W.1.2.1
  have v40 := vc64 W.1
  have w40 := W.1.2.2.2.1
  have p12 : p < 12 := by unfold pc at hp; omega
  have v4 : v < 40 := by unfold vc at hv; omega
  unfold lkB
  rw [orN_at _ _ _ (by decide), decide_eq_true (by omega), Bool.true_and, if_pos v4]
  by_cases c : (v : Int) = slF N f p
  · rw [decide_eq_true c]
    exact List.any_eq_true.mpr ⟨p, List.mem_range.mpr p12, decide_eq_true c.symm⟩
  · rw [decide_eq_false c]
    cases y : (List.range 12).any (fun q => decide (slF N f q = (v : Int))) with
    | false => rfl
    | true =>
      obtain ⟨q, hq, eq⟩ := List.any_eq_true.mp y
      have hq := List.mem_range.mp hq
      have eq := of_decide_eq_true eq
      have nq : ¬ f q = -1 := fun z => by
        have : slF N f q = -1 := if_pos z
        omega
      obtain ⟨-, -, s2⟩ := slF_fOK W S hq nq
      rw [eq, Int.toNat_natCast, e] at s2
      have : p = q := by omega
      subst this
      exact absurd eq.symm c
/-- what is open is as in f -/
def cmp_ (N : Nat → Int) (f : Nat → Int) (y n : BitVec 64) : BitVec 64 := y ||| (lkB N f &&& (n ^^^ 18446744073709551615#64))
theorem cmp_at {N : Nat → Int} {f : Nat → Int} {y n : BitVec 64} {j : Nat} (hj : j < 64) : (cmp_ N f y n).getLsbD j = (y.getLsbD j || ((lkB N f).getLsbD j && !n.getLsbD j)) := by
  unfold cmp_
  rw [BitVec.getLsbD_or, BitVec.getLsbD_and, not_m1_at hj]
theorem cmp_x {N : Nat → Int} {f : Nat → Int} {y n : BitVec 64} (D : dj y n) : exA (cmp_ N f y n) y n := fun j hj => by
  rw [cmp_at hj]
  refine ⟨fun e => by rw [e]; rfl, fun e => ?_⟩
  cases c : y.getLsbD j with
  | true => exact absurd ⟨c, e⟩ (D j hj)
  | false => rw [e]; simp
theorem sC_cmp {N : Nat → Int} {m : Nat} (W : WF N m) {f : Nat → Int} (S : fOK N f) {y n : BitVec 64} (D : dj y n) : sC N f (cmp_ N f y n) (~~~ cmp_ N f y n) = sC N f y n := by
  have w12 := W.1.2.1
  have v40 := vc64 W.1
  have w40 := W.1.2.2.2.1
  have nt : ∀ j, j < 64 → (~~~ cmp_ N f y n).getLsbD j = !(y.getLsbD j || ((lkB N f).getLsbD j && !n.getLsbD j)) := fun j hj => by
    rw [BitVec.getLsbD_not, decide_eq_true hj, Bool.true_and, cmp_at hj]
  have dn : ∀ j, j < 64 → y.getLsbD j = true → n.getLsbD j = false := fun j hj e => by
    cases c : n.getLsbD j with
    | false => rfl
    | true => exact absurd ⟨e, c⟩ (D j hj)
  refine cntN_cg _ (fun p hp => ?_)
  have p12 : p < 12 := by unfold pc at hp; omega
  unfold sCp
  have e1 : q0 N f (cmp_ N f y n) (~~~ cmp_ N f y n) p = q0 N f y n p := by
    unfold q0
    congr 1
    · by_cases c : 1000000 ≤ f p
      · rw [if_pos c, if_pos c, nt _ (by omega), lk_o p12, decide_eq_true c, Bool.true_and]
        cases a : y.getLsbD (40 + p) with
        | true => rw [dn _ (by omega) a]; rfl
        | false => rw [Bool.false_or, Bool.not_not]
      · rw [if_neg c, if_neg c, cmp_at (by omega), lk_o p12, decide_eq_false c, Bool.false_and, Bool.or_false]
    · by_cases c : slF N f p = -1
      · rw [decide_eq_true c]; rfl
      · have nf : ¬ f p = -1 := fun z => c (if_pos z)
        obtain ⟨s0, s1, s2⟩ := slF_fOK W S p12 nf
        rw [nt _ (by omega), lk_s W S hp s1 s2, show decide ((((slF N f p).toNat : Nat) : Int) = slF N f p) = true from decide_eq_true (by omega), Bool.true_and]
        cases a : y.getLsbD (slF N f p).toNat with
        | true => rw [dn _ (by omega) a]; rfl
        | false => rw [Bool.false_or, Bool.not_not]
  have e2 : ∀ k, k ≤ vc N → aV N f (cmp_ N f y n) p k = aV N f y p k := fun k => by
    induction k with
    | zero => intro _; rfl
    | succ k ih =>
      intro hk
      show (_ || _) = (_ || _)
      rw [ih (by omega)]
      congr 1
      by_cases c : nV N k 0 = p
      · rw [cmp_at (by omega), lk_s W S hp (by omega) c]
        cases d : decide ((k : Int) = slF N f p) with
        | true => simp
        | false => simp
      · rw [decide_eq_false c]; rfl
  rw [e1, e2 _ (Nat.le_refl _)]
theorem sC_mono {N : Nat → Int} {m : Nat} (W : WF N m) {f : Nat → Int} {y n y2 n2 : BitVec 64} (a : ∀ i, i < 64 → (y.getLsbD i = true → y2.getLsbD i = true) ∧ (n.getLsbD i = true → n2.getLsbD i = true)) : sC N f y n ≤ sC N f y2 n2 := by
  have w12 := W.1.2.1
  have v40 := vc64 W.1
  refine cntN_mono _ (fun p hp e => ?_)
  have p12 : p < 12 := by unfold pc at hp; omega
  have mv : ∀ k, k ≤ vc N → aV N f y p k = true → aV N f y2 p k = true := fun k => by
    induction k with
    | zero => intro _ z; cases z
    | succ k ih =>
      intro hk z
      have z : (aV N f y p k || (decide (nV N k 0 = p) && !decide ((k : Int) = slF N f p) && y.getLsbD k)) = true := z
      show (aV N f y2 p k || (decide (nV N k 0 = p) && !decide ((k : Int) = slF N f p) && y2.getLsbD k)) = true
      rw [Bool.or_eq_true] at z ⊢
      refine z.imp (ih (by omega)) (fun z => ?_)
      rw [Bool.and_eq_true] at z ⊢
      exact ⟨z.1, (a k (by omega)).1 z.2⟩
  unfold sCp q0 at e ⊢
  rw [Bool.or_eq_true, Bool.or_eq_true] at e ⊢
  refine e.imp (fun e => e.imp (fun e => ?_) (fun e => ?_)) (mv _ (Nat.le_refl _))
  · by_cases c : 1000000 ≤ f p
    · rw [if_pos c] at e ⊢; exact (a _ (by omega)).2 e
    · rw [if_neg c] at e ⊢; exact (a _ (by omega)).1 e
  · rw [Bool.and_eq_true] at e ⊢
    refine ⟨e.1, ?_⟩
    refine (a _ ?_).2 e.2
    refine Classical.byContradiction fun z => ?_
    rw [BitVec.getLsbD_of_ge _ _ (by omega)] at e
    exact absurd e.2 (by decide)
def SatB (N : Nat → Int) (f : Nat → Int) (cs : List Cl) (keep : Nat → Bool) (mo : Int) (y n : BitVec 64) : Prop := ∃ A, exA A y n ∧ SatA cs keep A ∧ (mo = -1 ∨ (sC N f A (~~~ A) : Int) ≤ mo)
def fixP (cs : List Cl) (keep : Nat → Bool) (y n : BitVec 64) (x : Int) (k : Nat) : Prop := (x = -1 ∧ ∀ i, i < k → keep i = true → ¬ unS y n (cs.getD i c0)) ∨ ∃ c : Nat, x = (c : Int) ∧ c < k ∧ c < cs.length ∧ unS y n (cs.getD c c0) ∧ 2 ≤ popc (oYs n (cs.getD c c0)) + popc (oNs y (cs.getD c c0))
theorem nun_ {y n : BitVec 64} {c : Cl} (z : ¬ unS y n c) : ∃ j, j < 64 ∧ ((cYes c).getLsbD j = true ∧ y.getLsbD j = true ∨ (cNo c).getLsbD j = true ∧ n.getLsbD j = true) := by
  unfold unS at z
  by_cases a : cYes c &&& y = 0#64
  · obtain ⟨j, hj, e⟩ := nz64.mp (fun b => z ⟨a, b⟩)
    rw [BitVec.getLsbD_and, Bool.and_eq_true] at e
    exact ⟨j, hj, .inr e⟩
  · obtain ⟨j, hj, e⟩ := nz64.mp a
    rw [BitVec.getLsbD_and, Bool.and_eq_true] at e
    exact ⟨j, hj, .inl e⟩
theorem Sat_all {N : Nat → Int} {m : Nat} (W : WF N m) {f : Nat → Int} {cs : List Cl} {keep : Nat → Bool} {mo : Int} (S : mo = -1 ∨ fOK N f) {y n : BitVec 64} (D : dj y n) (z : ∀ i, i < cs.length → keep i = true → ¬ unS y n (cs.getD i c0)) (b : mo = -1 ∨ (sC N f y n : Int) ≤ mo) : SatB N f cs keep mo y n := by
  refine ⟨cmp_ N f y n, cmp_x D, fun i hi ki => ?_, ?_⟩
  · obtain ⟨j, hj, ⟨a, c⟩ | ⟨a, c⟩⟩ := nun_ (z i hi ki)
    · exact clH_at.mpr ⟨j, hj, .inl ⟨a, (cmp_x D j hj).1 c⟩⟩
    · exact clH_at.mpr ⟨j, hj, .inr ⟨a, (cmp_x D j hj).2 c⟩⟩
  · rcases b with b | b
    · exact .inl b
    · rcases S with S | S
      · exact .inl S
      · exact .inr (by rw [sC_cmp W S D]; exact b)
theorem sC_x {N : Nat → Int} {m : Nat} (W : WF N m) {f : Nat → Int} {A y n : BitVec 64} (x : exA A y n) : sC N f y n ≤ sC N f A (~~~ A) := sC_mono W (fun i hi => ⟨(x i hi).1, fun e => by rw [BitVec.getLsbD_not, decide_eq_true hi, (x i hi).2 e]; rfl⟩)
theorem exA_sp {A y n : BitVec 64} {j : Nat} (hj : j < 64) : exA A y n ↔ exA A (y ||| bit1 j) n ∨ exA A y (n ||| bit1 j) := by
  constructor
  · intro x
    cases e : A.getLsbD j with
    | true =>
      refine .inl fun i hi => ⟨fun z => ?_, (x i hi).2⟩
      rw [BitVec.getLsbD_or, bit1_at hj, Bool.or_eq_true] at z
      rcases z with z | z
      · exact (x i hi).1 z
      · rw [of_decide_eq_true z]; exact e
    | false =>
      refine .inr fun i hi => ⟨(x i hi).1, fun z => ?_⟩
      rw [BitVec.getLsbD_or, bit1_at hj, Bool.or_eq_true] at z
      rcases z with z | z
      · exact (x i hi).2 z
      · rw [of_decide_eq_true z]; exact e
  · rintro (x | x) i hi
    · exact ⟨fun z => (x i hi).1 (by rw [BitVec.getLsbD_or, z]; rfl), (x i hi).2⟩
    · exact ⟨(x i hi).1, fun z => (x i hi).2 (by rw [BitVec.getLsbD_or, z]; rfl)⟩
theorem Sat_sp {N : Nat → Int} {f : Nat → Int} {cs : List Cl} {keep : Nat → Bool} {mo : Int} {y n : BitVec 64} {j : Nat} (hj : j < 64) : SatB N f cs keep mo y n ↔ SatB N f cs keep mo (y ||| bit1 j) n ∨ SatB N f cs keep mo y (n ||| bit1 j) := by
  constructor
  · rintro ⟨A, x, s⟩
    rcases (exA_sp hj).mp x with x | x
    · exact .inl ⟨A, x, s⟩
    · exact .inr ⟨A, x, s⟩
  · rintro (⟨A, x, s⟩ | ⟨A, x, s⟩)
    · exact ⟨A, (exA_sp hj).mpr (.inl x), s⟩
    · exact ⟨A, (exA_sp hj).mpr (.inr x), s⟩
theorem br_ {y n : BitVec 64} {j : Nat} (hj : j < 64) (D : dj y n) (a : y.getLsbD j = false) (b : n.getLsbD j = false) : dj (y ||| bit1 j) n ∧ dj y (n ||| bit1 j) ∧ pN y n < pN (y ||| bit1 j) n ∧ pN y n < pN y (n ||| bit1 j) := by
  have bj : (bit1 j).getLsbD j = true := by rw [bit1_at hj]; exact decide_eq_true rfl
  refine ⟨fun i hi => ?_, fun i hi => ?_, pN_lt hj (fun i _ => ⟨fun e => by rw [BitVec.getLsbD_or, e]; rfl, id⟩) ⟨a, b⟩ (.inl (by rw [BitVec.getLsbD_or, bj, Bool.or_true])), pN_lt hj (fun i _ => ⟨id, fun e => by rw [BitVec.getLsbD_or, e]; rfl⟩) ⟨a, b⟩ (.inr (by rw [BitVec.getLsbD_or, bj, Bool.or_true]))⟩
  · rw [BitVec.getLsbD_or, bit1_at hj, Bool.or_eq_true]
    rintro ⟨c | c, d⟩
    · exact D i hi ⟨c, d⟩
    · rw [of_decide_eq_true c, b] at d; cases d
  · rw [BitVec.getLsbD_or, bit1_at hj, Bool.or_eq_true]
    rintro ⟨d, c | c⟩
    · exact D i hi ⟨d, c⟩
    · rw [of_decide_eq_true c, a] at d; cases d
/-- only what a search works with has changed -/
def SX (h g : XH) : Prop := Fr (fun b => b = 437) h g ∧ (∀ j, j < 32 ∨ 36 < j → el g 437 j = el h 437 j) ∧ g.length = h.length ∧ xhs g = xhs h
theorem SX_rf (h : XH) : SX h h := ⟨Fr_rf _ _, fun _ _ => rfl, rfl, rfl⟩
theorem SX_tr {h g k : XH} (a : SX h g) (b : SX g k) : SX h k := ⟨Fr_tr a.1 (by rw [a.2.2.1]; exact Nat.le_refl _) b.1, fun j n => (b.2.1 j n).trans (a.2.1 j n), b.2.2.1.trans a.2.2.1, b.2.2.2.trans a.2.2.2⟩
theorem SX_st {h g : XH} {j : Nat} {v : Value} (e : g = sV h 437 j v) (hj : 32 ≤ j ∧ j ≤ 36) : SX h g :=
  ⟨by rw [e]; exact Fr_sV rfl, fun i n => by rw [e]; exact el_ni (by omega), by rw [e, len_sV], by rw [e, xhs_sV]⟩
def SM (h g : XH) : Prop := SX h g ∧ hI g 437 32 = hI h 437 32 ∧ hI g 437 33 = hI h 437 33 ∧ hR g 437 34 = hR h 437 34
theorem SM_rf (h : XH) : SM h h := ⟨SX_rf h, rfl, rfl, rfl⟩
theorem SM_tr {h g k : XH} (a : SM h g) (b : SM g k) : SM h k := ⟨SX_tr a.1 b.1, b.2.1.trans a.2.1, b.2.2.1.trans a.2.2.1, b.2.2.2.trans a.2.2.2⟩
theorem SM_st {h g : XH} {j : Nat} {b : BitVec 64} (e : g = sL h 437 j b) (hj : j = 35 ∨ j = 36) : SM h g :=
  ⟨SX_st e (by omega), by rw [e]; exact hI_ni (by omega), by rw [e]; exact hI_ni (by omega), by rw [e]; exact hR_ni (by omega)⟩
/-- the clauses that are searched, the most changes from the set f -/
def SrQ (h : XH) (N : Nat → Int) (f : Nat → Int) (cs : List Cl) (mo : Int) : Prop :=
  N = nw h ∧ (hk h (hR h 437 24) = 101 ∧ hk h (hR h 437 25) = 101 ∧ ¬ hR h 437 24 = 437 ∧ ¬ hR h 437 25 = 437) ∧ hI h 437 29 = cs.length ∧ cs.length ≤ 8192 ∧ cs.length ≤ hn h (hR h 437 24) ∧ cs.length ≤ hn h (hR h 437 25) ∧ (∀ i, i < cs.length → hL h (hR h 437 24) i = cYes (cs.getD i c0) ∧ hL h (hR h 437 25) i = cNo (cs.getD i c0)) ∧
  hI h 437 33 = mo ∧ (mo = -1 ∨ AR h (hR h 437 34) f ∧ ¬ hR h 437 34 = 437)
/-- those kept -/
def KP (h : XH) (cs : List Cl) (keep : Nat → Bool) : Prop := (¬ hI h 437 32 = 0 ∧ ∀ i, keep i = true) ∨ (hI h 437 32 = 0 ∧ hk h (hR h 437 31) = 102 ∧ cs.length ≤ hn h (hR h 437 31) ∧ ¬ hR h 437 31 = 437 ∧ ∀ i, i < cs.length → (keep i = true ↔ ¬ hI h (hR h 437 31) i = 0))
def SrP (h : XH) (N : Nat → Int) (f : Nat → Int) (cs : List Cl) (keep : Nat → Bool) (mo : Int) : Prop := SrQ h N f cs mo ∧ KP h cs keep
theorem SrQ_fr {h g : XH} {N : Nat → Int} {f : Nat → Int} {cs : List Cl} {mo : Int} (T : HT h) (F : ∀ b, b < h.length → ¬ b = 437 → (hk h b = 100 ∨ hk h b = 101) → sameC h g b) (e : ∀ j, j < 31 → el g 437 j = el h 437 j) (i33 : hI g 437 33 = hI h 437 33) (r34 : hR g 437 34 = hR h 437 34) (z : SrQ h N f cs mo) : SrQ g N f cs mo := by
  have L := HT_len T
  obtain ⟨a1, ⟨k1, k2, n1, n2⟩, a2, a8, a3, a4, a5, a7, a9⟩ := z
  have r : ∀ j, j < 31 → hR g 437 j = hR h 437 j := fun j n => congrArg gvR (e j n)
  have s1 := F _ (hk_lt k1 (by decide)) n1 (.inr k1)
  have s2 := F _ (hk_lt k2 (by decide)) n2 (.inr k2)
  unfold SrQ
  rw [r 24 (by decide), r 25 (by decide), r34, show hI g 437 29 = hI h 437 29 from congrArg gvI (e 29 (by decide)), i33, sameC_k s1, sameC_k s2, sameC_n s1, sameC_n s2]
  exact ⟨a1.trans (nw_fr (F 438 (by omega) (by decide) (.inl (lstn T).2.2.2.2.2.2.2.1))).symm, ⟨k1, k2, n1, n2⟩, a2, a8, a3, a4, fun j hj => by rw [sameC_L s1, sameC_L s2]; exact a5 j hj, a7, a9.imp_right (fun ⟨b1, b2⟩ => ⟨AR_fr (F _ (hk_lt b1.1 (by decide)) b2 (.inl b1.1)) b1, b2⟩)⟩
theorem SrP_SM {h g : XH} {N : Nat → Int} {f : Nat → Int} {cs : List Cl} {keep : Nat → Bool} {mo : Int} (T : HT h) (q : SM h g) (z : SrP h N f cs keep mo) : SrP g N f cs keep mo := by
  obtain ⟨⟨F, e, -, -⟩, i32, i33, r34⟩ := q
  refine ⟨SrQ_fr T (fun b hb n _ => F b hb n) (fun j hj => e j (.inl (by omega))) i33 r34 z.1, ?_⟩
  have := z.2
  unfold KP at this ⊢
  rw [i32, show hR g 437 31 = hR h 437 31 from congrArg gvR (e 31 (by decide))]
  refine this.imp_right (fun ⟨b1, b2, b3, b4, b5⟩ => ?_)
  have s3 := F _ (hk_lt b2 (by decide)) b4
  rw [sameC_k s3, sameC_n s3]
  exact ⟨b1, b2, b3, b4, fun j hj => by rw [sameC_I s3]; exact b5 j hj⟩
/-- all clauses are searched -/
theorem SrP_32 {h g : XH} {N : Nat → Int} {f : Nat → Int} {cs : List Cl} {mo : Int} (T : HT h) (e : g = sI h 437 32 1) (z : SrQ h N f cs mo) : SrP g N f cs (fun _ => true) mo := by
  refine ⟨SrQ_fr T (fun b _ n _ => by rw [e]; exact sameC_sV (fun y => n y.symm)) (fun j hj => by rw [e]; exact el_ni (by omega)) (by rw [e]; exact hI_ni (by decide)) (by rw [e]; exact hR_ni (by decide)) z, .inl ⟨?_, fun _ => rfl⟩⟩
  rw [show hI g 437 32 = 1 by rw [e]; exact hI_eq (by rw [(lstn T).2.2.2.2.1]; decide) (rgk rfl)]
  decide
set_option maxHeartbeats 8000000 in
theorem c_srb {rec_ : BitVec 64 → BitVec 64 → (Int → XH → Prop) → XH → Prop} {p0 p1 : BitVec 64} {h : XH} {N : Nat → Int} {m : Nat} (T : HT h) (W : WF N m) {f : Nat → Int} {cs : List Cl} {keep : Nat → Bool} {mo : Int} (S : mo = -1 ∨ fOK N f) (R : SrP h N f cs keep mo) (D0 : dj p0 p1) (ih : ∀ (y n : BitVec 64) (g : XH) (Kr : Int → XH → Prop), HT g → SM h g → pN p0 p1 < pN y n → dj y n → (∀ x g2, HT g2 → SM g g2 → (x = 0 ∨ x = 1) → (x = 1 ↔ SatB N f cs keep mo y n) → Kr x g2) → rec_ y n Kr g) {K : Int → XH → Prop} (k : ∀ x g, HT g → SM h g → (x = 0 ∨ x = 1) → (x = 1 ↔ SatB N f cs keep mo p0 p1) → K x g) : wb_X14_search rec_ p0 p1 K h := by
  unfold wb_X14_search
  obtain ⟨⟨eN, ⟨k1, k2, n1, n2⟩, i29, l81, l24, l25, rows, i33, md⟩, kp⟩ := id R
  have SB : ∀ {y n : BitVec 64}, (∀ A, exA A p0 p1 ∧ SatA cs keep A ↔ exA A y n ∧ SatA cs keep A) → (SatB N f cs keep mo p0 p1 ↔ SatB N f cs keep mo y n) := fun e => by
    constructor
    · rintro ⟨A, x, s, b⟩
      obtain ⟨x2, s2⟩ := (e A).mp ⟨x, s⟩
      exact ⟨A, x2, s2, b⟩
    · rintro ⟨A, x, s, b⟩
      obtain ⟨x2, s2⟩ := (e A).mpr ⟨x, s⟩
      exact ⟨A, x2, s2, b⟩
  refine ⟨fun b1 b2 x3 x4 => dj b1 b2 ∧ (∀ A, exA A p0 p1 ∧ SatA cs keep A ↔ exA A b1 b2 ∧ SatA cs keep A) ∧ pN p0 p1 ≤ pN b1 b2 ∧ (x4 = 0 ∧ fixP cs keep b1 b2 x3 cs.length ∨ x4 = 1), fun b1 b2 _ x4 => 2 * (64 - pN b1 b2) + (if x4 = 0 then 0 else 1), ?_, ?_⟩
  · exact ⟨D0, fun A => Iff.rfl, Nat.le_refl _, .inr rfl⟩
  · intro b1 b2 x3 x4 rx3 rx4 z11
    obtain ⟨D, E, PL, zo⟩ := z11
    refine ⟨fun c97 => ?_, fun c97 => ?_⟩
    · have fx := (zo.resolve_right (by omega)).2
      refine ⟨mo = -1 ∨ (sC N f b1 b2 : Int) ≤ mo, ?_, ?_⟩
      · intro z12
        refine ⟨fun c49 => ?_, fun c49 => ?_⟩
        · obtain ⟨c, ec, -, cl, un, two⟩ := fx.resolve_left (fun y => c49 y.1)
          have xc : x3.toNat = c := by omega
          obtain ⟨rw1, rw2⟩ := rows c cl
          have oe : ∀ b, b = oYs b2 (cs.getD c c0) → ∀ j, j < 64 → b.getLsbD j = true → b1.getLsbD j = false ∧ b2.getLsbD j = false := fun b e j hj y => by
            rw [e, oY_at hj] at y
            exact ⟨(un_at un hj).1 y.1, y.2⟩
          have oe2 : ∀ b, b = oNs b1 (cs.getD c c0) → ∀ j, j < 64 → b.getLsbD j = true → b1.getLsbD j = false ∧ b2.getLsbD j = false := fun b e j hj y => by
            rw [e, oN_at hj] at y
            exact ⟨y.2, (un_at un hj).2 y.1⟩
          refine ⟨k1, ?_⟩
          refine ⟨(by omega), ?_⟩
          intro b15 eb15
          rw [xc, rw1] at eb15
          have f15 : b15 = oYs b2 (cs.getD c c0) := eb15
          refine ⟨fun b => ¬ b = 0#64 ∧ ∀ j, j < 64 → b.getLsbD j = true → b1.getLsbD j = false ∧ b2.getLsbD j = false, ?_, ?_⟩
          · intro b16 z17
            unfold w_J13_lowestOneBit_067f4
            obtain ⟨j, hj, ej, tj⟩ := low_ z17.1
            obtain ⟨nj1, nj2⟩ := z17.2 j hj tj
            obtain ⟨d1, d2, g1, g2⟩ := br_ hj D nj1 nj2
            have SP := (SB E).trans (Sat_sp (N := N) (f := f) (cs := cs) (keep := keep) (mo := mo) (y := b1) (n := b2) hj)
            rw [ej]
            refine ⟨fun c43 => ?_, fun c43 => ?_⟩
            · refine ih _ _ h _ T (SM_rf h) (by omega) d2 (fun x19 h20 th20 s20 v20 q20 => ?_)
              intro t20 u20
              intro rx19 vx19
              refine ⟨fun x g => SM h g ∧ (x = 0 ∨ x = 1) ∧ (x = 1 ↔ SatB N f cs keep mo p0 p1), ?_, ?_⟩
              · intro x21 h22 t22 s22 rx21 z23
                refine ⟨z23.2.1, ?_⟩
                exact k _ _ t22 z23.1 z23.2.1 z23.2.2
              · refine ⟨fun g => SM h g ∧ SatB N f cs keep mo p0 p1, ?_, ?_⟩
                · intro h25 t25 s25 z26
                  exact ⟨z26.1, .inr rfl, fun _ => z26.2, fun _ => rfl⟩
                · refine ⟨fun c30 => ?_, fun c30 => ?_⟩
                  · exact ⟨s20, SP.mpr (.inr (q20.mp (by omega)))⟩
                  · refine ih _ _ h20 _ t20 s20 (by omega) d1 (fun x27 h28 th28 s28 v28 q28 => ?_)
                    intro t28 u28
                    intro rx27 vx27
                    refine ⟨fun c29 => ?_, fun c29 => ?_⟩
                    · refine ⟨SM_tr s20 s28, .inl rfl, fun y => absurd y (by decide), fun y => ?_⟩
                      rcases SP.mp y with y | y
                      · have := q28.mpr y; omega
                      · have := q20.mpr y; omega
                    · exact ⟨SM_tr s20 s28, SP.mpr (.inl (q28.mp (by omega)))⟩
            · refine ih _ _ h _ T (SM_rf h) (by omega) d1 (fun x31 h32 th32 s32 v32 q32 => ?_)
              intro t32 u32
              intro rx31 vx31
              refine ⟨fun x g => SM h g ∧ (x = 0 ∨ x = 1) ∧ (x = 1 ↔ SatB N f cs keep mo p0 p1), ?_, ?_⟩
              · intro x33 h34 t34 s34 rx33 z35
                refine ⟨z35.2.1, ?_⟩
                exact k _ _ t34 z35.1 z35.2.1 z35.2.2
              · refine ⟨fun g => SM h g ∧ SatB N f cs keep mo p0 p1, ?_, ?_⟩
                · intro h37 t37 s37 z38
                  exact ⟨z38.1, .inr rfl, fun _ => z38.2, fun _ => rfl⟩
                · refine ⟨fun c42 => ?_, fun c42 => ?_⟩
                  · exact ⟨s32, SP.mpr (.inl (q32.mp (by omega)))⟩
                  · refine ih _ _ h32 _ t32 s32 (by omega) d2 (fun x39 h40 th40 s40 v40 q40 => ?_)
                    intro t40 u40
                    intro rx39 vx39
                    refine ⟨fun c41 => ?_, fun c41 => ?_⟩
                    · refine ⟨SM_tr s32 s40, .inl rfl, fun y => absurd y (by decide), fun y => ?_⟩
                      rcases SP.mp y with y | y
                      · have := q32.mpr y; omega
                      · have := q40.mpr y; omega
                    · exact ⟨SM_tr s32 s40, SP.mpr (.inr (q40.mp (by omega)))⟩
          · refine ⟨fun c46 => ?_, fun c46 => ?_⟩
            · refine ⟨k2, ?_⟩
              refine ⟨(by omega), ?_⟩
              rw [xc, rw2]
              refine ⟨fun y => ?_, oe2 _ rfl⟩
              have e1 : popc (oYs b2 (cs.getD c c0)) = 0 := by
                rw [← f15, c46]; rfl
              have e2 : popc (oNs b1 (cs.getD c c0)) = 0 := by
                rw [show oNs b1 (cs.getD c c0) = 0#64 from y]; rfl
              omega
            · exact ⟨c46, oe _ f15⟩
        · intro h47 eh47 t47 u47
          intro h48 eh48 t48 u48
          obtain ⟨-, fa⟩ := fx.resolve_right (fun ⟨c, e, _⟩ => by omega)
          exact k 1 h48 t48 (SM_tr (SM_st eh47 (.inl rfl)) (SM_st eh48 (.inr rfl))) (.inr rfl) ⟨fun _ => (SB E).mpr (Sat_all W S D fa z12), fun _ => rfl⟩
      · refine ⟨fun c52 => ?_, fun c52 => ?_⟩
        · exact .inl (i33.symm.trans c52)
        · have md2 := md.resolve_left (fun y => c52 (i33.trans y))
          have S2 := S.resolve_left (fun y => c52 (i33.trans y))
          refine c_X14_surelyChanged T eN W md2.1 S2 ?_
          intro rx50
          refine ⟨fun c51 => ?_, fun c51 => ?_⟩
          · exact .inr (by rw [← i33]; omega)
          · refine k 0 h T (SM_rf h) (.inl rfl) ⟨fun y => absurd y (by decide), fun y => ?_⟩
            obtain ⟨A, x, s, b⟩ := (SB E).mp y
            have := sC_x W (f := f) x
            exact absurd b (fun b => b.elim (fun b => c52 (i33.trans b)) (fun b => by rw [i33] at c51; omega))
    · have x41 := (zo.resolve_left (fun y => c97 y.1))
      refine ⟨fun b53 b54 x55 x56 x57 => 0 ≤ x57 ∧ x57 ≤ cs.length ∧ dj b53 b54 ∧ (∀ A, exA A p0 p1 ∧ SatA cs keep A ↔ exA A b53 b54 ∧ SatA cs keep A) ∧ pN b1 b2 ≤ pN b53 b54 ∧ (x56 = 0 ∧ b53 = b1 ∧ b54 = b2 ∧ fixP cs keep b1 b2 x55 x57.toNat ∨ x56 = 1 ∧ pN b1 b2 < pN b53 b54), fun _ _ _ _ x57 => ((cs.length : Int) - x57).toNat, ?_, ?_⟩
      · exact ⟨by omega, by omega, D, E, Nat.le_refl _, .inl ⟨rfl, rfl, rfl, .inl ⟨rfl, fun i hi => absurd hi (by omega)⟩⟩⟩
      · intro b53 b54 x55 x56 x57 rx55 rx56 rx57 z63
        obtain ⟨u0, u1, uD, uE, uP, uo⟩ := z63
        refine ⟨fun c96 => ?_, fun c96 => ?_⟩
        · rw [i29] at c96
          have pl := pN_le b1 b2
          have pl2 := pN_le b53 b54
          refine ⟨⟨uD, uE, by omega, ?_⟩, ?_⟩
          · rcases uo with ⟨a, b, d, e⟩ | ⟨a, -⟩
            · rw [show x57.toNat = cs.length by omega] at e
              exact .inl ⟨a, by rw [b, d]; exact e⟩
            · exact .inr a
          · dsimp only
            rw [if_neg (show ¬ x4 = 0 from c97)]
            rcases uo with ⟨a, b, d, e⟩ | ⟨a, b⟩
            · rw [a, b, d]; simp
            · rw [a]; simp; omega
        · rw [i29] at c96
          have xl : x57.toNat < cs.length := by omega
          obtain ⟨rw1, rw2⟩ := rows x57.toNat xl
          refine ⟨fun a b o n => dj a b ∧ (∀ A, exA A p0 p1 ∧ SatA cs keep A ↔ exA A a b ∧ SatA cs keep A) ∧ pN b1 b2 ≤ pN a b ∧ (n = 0 ∧ a = b1 ∧ b = b2 ∧ fixP cs keep b1 b2 o (x57.toNat + 1) ∨ n = 1 ∧ pN b1 b2 < pN a b), ?_, ?_⟩
          · intro b64 b65 x66 x67 rx66 rx67 z73
            intro x74 ex74 rx74
            rw [wr_of (by omega) (by omega)] at ex74
            exact ⟨⟨by omega, by omega, by rw [show x74.toNat = x57.toNat + 1 by omega]; exact z73⟩, by dsimp only; omega⟩
          · refine ⟨keep x57.toNat = true, ?_, ?_⟩
            · intro z75
              refine ⟨k1, ?_⟩
              refine ⟨(by omega), ?_⟩
              refine ⟨fun c91 => ?_, fun c91 => ?_⟩
              · rw [rw1] at c91
                refine ⟨uD, uE, uP, uo.imp_left (fun ⟨a, b, d, e⟩ => ⟨a, b, d, ?_⟩)⟩
                rcases e with ⟨e1, e2⟩ | ⟨c, e1, e2, e3⟩
                · refine .inl ⟨e1, fun i hi ki => ?_⟩
                  by_cases q : i = x57.toNat
                  · rw [q]; intro y; rw [b] at c91; exact c91 y.1
                  · exact e2 i (by omega) ki
                · exact .inr ⟨c, e1, by omega, e3⟩
              · refine ⟨k2, ?_⟩
                refine ⟨(by omega), ?_⟩
                refine ⟨fun c90 => ?_, fun c90 => ?_⟩
                · intro b80 eb80
                  rw [rw1] at c91 eb80
                  have e80 : b80 = oYs b54 (cs.getD x57.toNat c0) := eb80
                  intro b81 eb81
                  rw [rw2] at c90 eb81
                  have e81 : b81 = oNs b53 (cs.getD x57.toNat c0) := eb81
                  have un : unS b53 b54 (cs.getD x57.toNat c0) := ⟨Decidable.not_not.mp c91, c90⟩
                  refine c_J13_bitCount_95d88 ?_
                  rw [e80]
                  intro rx82
                  refine c_J13_bitCount_95d88 ?_
                  rw [e81]
                  intro rx83
                  intro x84 ex84 rx84
                  have b82 := popc_le (oYs b54 (cs.getD x57.toNat c0))
                  have b83 := popc_le (oNs b53 (cs.getD x57.toNat c0))
                  rw [wr_of (by omega) (by omega)] at ex84
                  refine ⟨fun c89 => ?_, fun c89 => ?_⟩
                  · refine ⟨fun c88 => ?_, fun c88 => ?_⟩
                    · refine ⟨fun c85 => ?_, fun c85 => ?_⟩
                      · refine ⟨uD, uE, uP, uo.imp_left (fun ⟨a, b, d, e⟩ => ⟨a, b, d, ?_⟩)⟩
                        rcases e with ⟨e1, e2⟩ | ⟨c, e1, e2, e3⟩
                        · exact absurd e1 c85
                        · exact .inr ⟨c, e1, by omega, e3⟩
                      · refine ⟨uD, uE, uP, uo.imp_left (fun ⟨a, b, d, e⟩ => ⟨a, b, d, .inr ⟨x57.toNat, by omega, by omega, xl, ?_⟩⟩)⟩
                        rw [← b, ← d]
                        exact ⟨un, by omega⟩
                    · intro b86 eb86
                      intro b87 eb87
                      obtain ⟨w1, w2, w3⟩ := unit_ uD un (by omega)
                      rw [← eb86, ← eb87] at w1 w2 w3
                      refine ⟨w1, fun A => (uE A).trans ⟨fun ⟨x, s⟩ => ⟨w3 A (s _ xl z75) x, s⟩, fun ⟨x, s⟩ => ⟨fun i hi => ⟨fun y => (x i hi).1 (by rw [eb86, BitVec.getLsbD_or, y]; rfl), fun y => (x i hi).2 (by rw [eb87, BitVec.getLsbD_or, y]; rfl)⟩, s⟩⟩, by omega, .inr ⟨rfl, by omega⟩⟩
                  · refine k 0 h T (SM_rf h) (.inl rfl) ⟨fun y => absurd y (by decide), fun y => ?_⟩
                    obtain ⟨A, x, s, -⟩ := (SB uE).mp y
                    exact absurd (none_ un (by omega) x (s _ xl z75)) id
                · rw [rw2] at c90
                  refine ⟨uD, uE, uP, uo.imp_left (fun ⟨a, b, d, e⟩ => ⟨a, b, d, ?_⟩)⟩
                  rcases e with ⟨e1, e2⟩ | ⟨c, e1, e2, e3⟩
                  · refine .inl ⟨e1, fun i hi ki => ?_⟩
                    by_cases q : i = x57.toNat
                    · rw [q]; intro y; rw [d] at c90; exact c90 y.2
                    · exact e2 i (by omega) ki
                  · exact .inr ⟨c, e1, by omega, e3⟩
            · refine ⟨fun c95 => ?_, fun c95 => ?_⟩
              · rcases kp with ⟨-, y⟩ | ⟨y, -⟩
                · exact y _
                · exact absurd y c95
              · obtain ⟨-, k31, l31, -, kv⟩ := kp.resolve_left (fun y => y.1 (Decidable.not_not.mp c95))
                refine ⟨k31, ?_⟩
                refine ⟨(by omega), ?_⟩
                refine ⟨fun c94 => ?_, fun c94 => ?_⟩
                · refine ⟨uD, uE, uP, uo.imp_left (fun ⟨a, b, d, e⟩ => ⟨a, b, d, ?_⟩)⟩
                  rcases e with ⟨e1, e2⟩ | ⟨c, e1, e2, e3⟩
                  · refine .inl ⟨e1, fun i hi ki => ?_⟩
                    by_cases q : i = x57.toNat
                    · rw [q, kv _ xl] at ki; exact absurd c94 ki
                    · exact e2 i (by omega) ki
                  · exact .inr ⟨c, e1, by omega, e3⟩
                · exact (kv _ xl).mpr c94
theorem c_srch {N : Nat → Int} {m : Nat} (W : WF N m) {f : Nat → Int} {cs : List Cl} {keep : Nat → Bool} {mo : Int} (S : mo = -1 ∨ fOK N f) : ∀ (n : Nat) (p0 p1 : BitVec 64) (h : XH) (K : Int → XH → Prop), 64 < pN p0 p1 + n → HT h → SrP h N f cs keep mo → dj p0 p1 → (∀ x g, HT g → SM h g → (x = 0 ∨ x = 1) → (x = 1 ↔ SatB N f cs keep mo p0 p1) → K x g) → wn_X14_search n p0 p1 K h := by
  intro n
  induction n with
  | zero =>
    intro p0 p1 h K lt
    have := pN_le p0 p1
    omega
  | succ n ih =>
    intro p0 p1 h K lt T R D k
    exact c_srb T W S R D (fun y n2 g Kr tg q l d kr => ih y n2 g Kr (by omega) tg (SrP_SM T q R) d kr) k
theorem c_X14_search {p0 p1 : BitVec 64} {h : XH} {N : Nat → Int} {m : Nat} (T : HT h) (W : WF N m) {f : Nat → Int} {cs : List Cl} {keep : Nat → Bool} {mo : Int} (S : mo = -1 ∨ fOK N f) (R : SrP h N f cs keep mo) (D : dj p0 p1) {K : Int → XH → Prop} (k : ∀ x g, HT g → SM h g → (x = 0 ∨ x = 1) → (x = 1 ↔ SatB N f cs keep mo p0 p1) → K x g) : w_X14_search p0 p1 K h := c_srch W S 70 p0 p1 h K (by omega) T R D k
