/-! SETS: small questions of both sides -/
theorem sumN_st {g : Nat → Int} {v : Int} (h : 0 ≤ v) : sumN (v + 1).toNat g = sumN v.toNat g + g v.toNat := by rw [show (v + 1).toNat = v.toNat + 1 by omega]; rfl
theorem cntN_st {g : Nat → Bool} {v : Int} (h : 0 ≤ v) : cntN (v + 1).toNat g = cntN v.toNat g + (if g v.toNat = true then 1 else 0) := by rw [show (v + 1).toNat = v.toNat + 1 by omega]; rfl
theorem orN_st {g : Nat → Bool} {v : Int} (h : 0 ≤ v) : orN (v + 1).toNat g = orN v.toNat g ||| (if g v.toNat = true then bit1 v.toNat else 0#64) := by rw [show (v + 1).toNat = v.toNat + 1 by omega]; rfl
theorem orM_st {g : Nat → Bool} {v : Int} (h : 0 ≤ v) : orM (v + 1).toNat g = orM v.toNat g ||| (if g v.toNat = true then 2 ^ v.toNat else 0) := by rw [show (v + 1).toNat = v.toNat + 1 by omega]; rfl
theorem cntN_1 (g : Nat → Bool) (n : Nat) : cntN (n + 1) g = cntN n g + (if g n = true then 1 else 0) := rfl
theorem bt {b : Bool} (h : ¬ b = true) : b = false := by cases b with | true => exact absurd rfl h | false => rfl
theorem dt {P : Prop} [Decidable P] (h : P) : decide P = true := decide_eq_true h
theorem df {P : Prop} [Decidable P] (h : ¬ P) : decide P = false := decide_eq_false h
/-- what a package's bits are -/
def wMask (N : Nat → Int) (p : Nat) : BitVec 64 := orN (vc N) (fun v => decide (nV N v 0 = p)) ||| oBit p
theorem P8_w {h : XH} {N : Nat → Int} (C : CSP h 8 N) (W : 0 ≤ N 4 ∧ N 4 ≤ 40) {p : Nat} (hp : p < pc N) (h12 : p < 12) : hL h 11 p = wMask N p := by
  apply BitVec.eq_of_getLsbD_eq
  intro j hj
  unfold wMask
  rw [BitVec.getLsbD_or, orN_at _ _ _ (by unfold vc; omega)]
  unfold oBit
  rw [bit1_at (by omega)]
  have a := (P8 C hp).2.2.1 j
  by_cases c : (hL h 11 p).getLsbD j = true
  · rw [c]
    rcases a.mp c with ⟨x, y⟩ | x
    · rw [dt x, dt y]; rfl
    · rw [dt x, Bool.or_true]
  · rw [bt c]
    have n : ¬ (j < vc N ∧ nV N j 0 = p ∨ j = 40 + p) := fun z => c (a.mpr z)
    by_cases x : j < vc N
    · by_cases y : nV N j 0 = p
      · exact absurd (.inl ⟨x, y⟩) n
      · rw [df y, df (fun z => n (.inr z)), Bool.and_false]; rfl
    · rw [df x, df (fun z => n (.inr z)), Bool.false_and]; rfl
/-- the version of a package in a set of bits -/
def idF (N : Nat → Int) (s : BitVec 64) (p : Int) : Int := fnd (vc N) (fun v => decide (nV N v 0 = p) && s.getLsbD v)
theorem idF_r {N : Nat → Int} {s : BitVec 64} {p : Int} (W : 0 ≤ N 4) : -1 ≤ idF N s p ∧ idF N s p < N 4 ∧ (¬ idF N s p = -1 → nV N (idF N s p).toNat 0 = p ∧ s.getLsbD (idF N s p).toNat = true) ∧ (idF N s p = -1 → ∀ v, v < vc N → nV N v 0 = p → s.getLsbD v = false) := by
  unfold idF
  rcases fnd_cs (fun v => decide (nV N v 0 = p) && s.getLsbD v) (vc N) with ⟨e, a⟩ | ⟨i, e, hi, pi, -⟩
  · rw [e]
    refine ⟨by omega, by omega, fun n => absurd rfl n, fun _ v hv x => ?_⟩
    have := a v hv
    simp only [Bool.and_eq_false_iff, decide_eq_false_iff_not] at this
    exact this.resolve_left (fun y => y x)
  · simp only [Bool.and_eq_true, decide_eq_true_eq] at pi
    unfold vc at hi
    rw [e]
    exact ⟨by omega, by omega, fun _ => pi, fun z => by omega⟩
theorem slF_r {N : Nat → Int} {m : Nat} (W : WV N m) {f : Nat → Int} {p : Nat} {v : Nat} (hv : v < vc N) (e0 : nV N v 0 = p) (e1 : f p = nV N v 1 ∨ f p = nV N v 1 + 1000000) : slF N f p = v := by
  have w := W.2.2.2.2.1 v hv
  unfold slF
  rw [if_neg (by omega)]
  refine (slotF_is W (r := v) (.inl ⟨by omega, by unfold vc at hv; omega, by rw [Int.toNat_natCast]; exact e0, ?_⟩)).symm
  rw [Int.toNat_natCast]
  omega
/-- a set told by a row: the version of a package -/
theorem Set_v {N : Nat → Int} {m : Nat} (W : WV N m) {s : BitVec 64} {f : Nat → Int} (S : SetR N s f) {p : Nat} (hp : p < 12) (n : ¬ f p = -1) : ∃ v : Nat, v < vc N ∧ slF N f p = v ∧ nV N v 0 = p ∧ (f p = nV N v 1 ∨ f p = nV N v 1 + 1000000) ∧ s.getLsbD v = true := by
  obtain ⟨s1, s2, s3, s4⟩ := S
  rcases s4 p hp with x | ⟨v, hv, e0, e1⟩
  · exact absurd x n
  · refine ⟨v, hv, slF_r W hv e0 e1, e0, e1, (s1 v (by have := W.2.2.2.1; unfold vc at hv; omega)).mpr ⟨hv, ?_⟩⟩
    rw [e0, Int.toNat_natCast]
    exact e1
theorem idF_F {N : Nat → Int} {m : Nat} (W : WV N m) {s : BitVec 64} {f : Nat → Int} (S : SetR N s f) {p : Nat} (hp : p < 12) : idF N s p = slF N f p := by
  have h40 : ∀ v, v < vc N → v < 40 := fun v hv => by have := W.2.2.2.1; unfold vc at hv; omega
  by_cases n : f p = -1
  · have e : slF N f p = -1 := by unfold slF; rw [if_pos n]
    rw [e]
    unfold idF
    refine fnd_no (fun v hv => ?_)
    by_cases c : nV N v 0 = p
    · by_cases d : s.getLsbD v = true
      · have := ((S.1 v (h40 v hv)).mp d).2
        rw [c, Int.toNat_natCast] at this
        have w := W.2.2.2.2.1 v hv
        omega
      · rw [bt d, Bool.and_false]
    · rw [df c, Bool.false_and]
  · obtain ⟨v, hv, e, e0, e1, b⟩ := Set_v W S hp n
    rw [e]
    unfold idF
    refine fnd_is hv (by rw [dt e0, b]; rfl) (fun j hj => ?_)
    by_cases c : nV N j 0 = p
    · by_cases d : s.getLsbD j = true
      · have := ((S.1 j (h40 j (by omega))).mp d).2
        rw [c, Int.toNat_natCast] at this
        have := W.2.2.2.2.2.2 j v (by omega) hv (c.trans e0.symm) (by
          have w := W.2.2.2.2.1 v hv
          have w2 := W.2.2.2.2.1 j (by omega)
          omega)
        omega
      · rw [bt d, Bool.and_false]
    · rw [df c, Bool.false_and]
/-- versions of a set -/
def cIdF (N : Nat → Int) (s : BitVec 64) (p : Int) : Int := if idF N s p = -1 then -1 else nV N (idF N s p).toNat 1
theorem cIdF_F {N : Nat → Int} {m : Nat} (W : WV N m) {s : BitVec 64} {f : Nat → Int} (S : SetR N s f) {p : Nat} (hp : p < 12) : cIdF N s p = cIn f p := by
  unfold cIdF cIn
  rw [idF_F W S hp]
  by_cases n : f p = -1
  · rw [if_pos n, if_pos (by unfold slF; rw [if_pos n])]
  · obtain ⟨v, hv, e, e0, e1, b⟩ := Set_v W S hp n
    have w := W.2.2.2.2.1 v hv
    rw [if_neg n, e, if_neg (by omega), Int.toNat_natCast]
    omega
/-- the sum of the sizes, both ways -/
theorem size_F {N : Nat → Int} {m : Nat} (W : WV N m) {s : BitVec 64} {f : Nat → Int} (S : SetR N s f) (g : Nat → Int) : sumN (vc N) (fun v => if s.getLsbD v = true then g v else 0) = sumN 12 (fun p => if f p = -1 then 0 else g (slF N f p).toNat) := by
  have h40 : ∀ v, v < vc N → v < 40 := fun v hv => by have := W.2.2.2.1; unfold vc at hv; omega
  have a : ∀ v, v < vc N → (if s.getLsbD v = true then g v else 0) = sumN 12 (fun p => if nV N v 0 = (p : Int) then (if s.getLsbD v = true then g v else 0) else 0) := fun v hv => by
    have w := W.2.2.2.2.1 v hv
    have := W.2.1
    rw [sumN_1 (i := (nV N v 0).toNat) 12 (by omega) (fun j hj n => if_neg (by omega)), if_pos (show nV N v 0 = (((nV N v 0).toNat : Nat) : Int) by omega)]
  rw [sumN_cg _ a, sumN_sw]
  refine sumN_cg _ (fun p hp => ?_)
  by_cases n : f p = -1
  · rw [if_pos n]
    refine sumN_0 _ (fun v hv => ?_)
    by_cases c : nV N v 0 = (p : Int)
    · by_cases d : s.getLsbD v = true
      · have := ((S.1 v (h40 v hv)).mp d).2
        rw [c, Int.toNat_natCast] at this
        have w := W.2.2.2.2.1 v hv
        omega
      · rw [if_pos c, if_neg d]
    · rw [if_neg c]
  · obtain ⟨v, hv, e, e0, e1, b⟩ := Set_v W S hp n
    rw [if_neg n, e, Int.toNat_natCast, sumN_1 (i := v) _ hv (fun j hj n => ?_), if_pos e0, if_pos b]
    by_cases c : nV N j 0 = (p : Int)
    · by_cases d : s.getLsbD j = true
      · have := ((S.1 j (h40 j hj)).mp d).2
        rw [c, Int.toNat_natCast] at this
        exact absurd (W.2.2.2.2.2.2 j v hj hv (c.trans e0.symm) (by
          have w := W.2.2.2.2.1 v hv
          have w2 := W.2.2.2.2.1 j hj
          omega)) n
      · rw [if_pos c, if_neg d]
    · rw [if_neg c]
/-- how many packages, both ways -/
theorem many_F {N : Nat → Int} {m : Nat} (W : WV N m) {s : BitVec 64} {f : Nat → Int} (S : SetR N s f) : popc (s &&& 1099511627775#64) = cntN 12 (fun p => !decide (f p = -1)) := by
  have e : popc (s &&& 1099511627775#64) = cntN (vc N + (64 - vc N)) (s &&& 1099511627775#64).getLsbD := by
    unfold popc
    congr 1
    have := W.2.2.2.1
    unfold vc
    omega
  have h40 : vc N ≤ 40 := by have := W.2.2.2.1; unfold vc; omega
  have b : ∀ j, j < 64 → (s &&& 1099511627775#64).getLsbD j = (s.getLsbD j && decide (j < 40)) := fun j hj => by
    rw [BitVec.getLsbD_and]
    congr 1
    have : ∀ m : Fin 64, (1099511627775#64 : BitVec 64).getLsbD m.1 = decide (m.1 < 40) := by decide +kernel
    exact this ⟨j, hj⟩
  have z : cntN (64 - vc N) (fun i => (s &&& 1099511627775#64).getLsbD (vc N + i)) = 0 := by
    have : cntN (64 - vc N) (fun i => (s &&& 1099511627775#64).getLsbD (vc N + i)) = cntN (64 - vc N) (fun _ => false) := by
      refine cntN_cg _ (fun i hi => ?_)
      rw [b _ (by omega)]
      by_cases c : vc N + i < 40
      · have : ¬ s.getLsbD (vc N + i) = true := fun y => by have := ((S.1 _ c).mp y).1; omega
        rw [bt this, Bool.false_and]
      · rw [df c, Bool.and_false]
    rw [this]
    have : ∀ n, cntN n (fun _ => false) = 0 := fun n => by
      induction n with
      | zero => rfl
      | succ n ih => unfold cntN; rw [ih]; rfl
    exact this _
  rw [e, cntN_sp, z, Nat.add_zero]
  have q := size_F W S (fun _ => 1)
  have y1 := cntN_s s.getLsbD (vc N)
  have y2 := cntN_s (fun p => !decide (f p = -1)) 12
  have y3 : cntN (vc N) (s &&& 1099511627775#64).getLsbD = cntN (vc N) s.getLsbD := cntN_cg _ (fun j hj => by rw [b j (by omega), dt (show j < 40 by omega), Bool.and_true])
  have y4 : sumN 12 (fun p => if (!decide (f p = -1)) = true then (1 : Int) else 0) = sumN 12 (fun p => if f p = -1 then 0 else 1) := sumN_cg _ (fun p hp => by
    by_cases c : f p = -1
    · rw [if_pos c, dt c]; rfl
    · rw [if_neg c, df c]; rfl)
  rw [y3]
  omega
/-- packages that are unlike in two sets -/
def unlP (N : Nat → Int) (s t : BitVec 64) (p : Nat) : Bool := !decide ((s ^^^ t) &&& wMask N p = 0#64)
theorem wMask_at {N : Nat → Int} (W : N 4 ≤ 40) {p j : Nat} (hp : p < 12) : (wMask N p).getLsbD j = ((decide (j < vc N) && decide (nV N j 0 = p)) || decide (j = 40 + p)) := by
  unfold wMask oBit
  rw [BitVec.getLsbD_or, orN_at _ _ _ (by unfold vc; omega), bit1_at (by omega)]
theorem unl_F {N : Nat → Int} {m : Nat} (W : WV N m) {s t : BitVec 64} {f g : Nat → Int} (S : SetR N s f) (T : SetR N t g) {p : Nat} (hp : p < 12) : unlP N s t p = !decide (f p = g p) := by
  have h40 : ∀ v, v < vc N → v < 40 := fun v hv => by have := W.2.2.2.1; unfold vc at hv; omega
  have wp : ∀ v, v < vc N → 0 ≤ nV N v 0 ∧ 0 ≤ nV N v 1 ∧ nV N v 1 < 1000000 := fun v hv => by have := W.2.2.2.2.1 v hv; omega
  have key : (s ^^^ t) &&& wMask N p = 0#64 ↔ f p = g p := by
    rw [bvz]
    constructor
    · intro a
      have ao := a (40 + p) (by omega)
      rw [BitVec.getLsbD_and, BitVec.getLsbD_xor, wMask_at W.2.2.2.1 hp, dt (show 40 + p = 40 + p from rfl), Bool.or_true, Bool.and_true] at ao
      have av : ∀ v, v < vc N → nV N v 0 = p → s.getLsbD v = t.getLsbD v := fun v hv e => by
        have y := a v (by have := h40 v hv; omega)
        rw [BitVec.getLsbD_and, BitVec.getLsbD_xor, wMask_at W.2.2.2.1 hp, dt hv, dt e, Bool.and_self, Bool.true_or, Bool.and_true] at y
        cases p1 : s.getLsbD v <;> cases p2 : t.getLsbD v <;> rw [p1, p2] at y <;> first | rfl | cases y
      have ab : (1000000 ≤ f p) ↔ (1000000 ≤ g p) := by
        rw [← S.2.1 p hp, ← T.2.1 p hp]
        cases p1 : s.getLsbD (40 + p) <;> cases p2 : t.getLsbD (40 + p) <;> rw [p1, p2] at ao <;> first | exact Iff.rfl | cases ao
      by_cases n : f p = -1
      · by_cases k : g p = -1
        · rw [n, k]
        · obtain ⟨v, hv, e, e0, e1, b⟩ := Set_v W T hp k
          have := av v hv e0
          rw [b] at this
          have := ((S.1 v (h40 v hv)).mp this).2
          rw [e0, Int.toNat_natCast] at this
          have := wp v hv
          omega
      · obtain ⟨v, hv, e, e0, e1, b⟩ := Set_v W S hp n
        have := av v hv e0
        rw [b] at this
        have := ((T.1 v (h40 v hv)).mp this.symm).2
        rw [e0, Int.toNat_natCast] at this
        have := wp v hv
        omega
    · intro e j hj
      rw [BitVec.getLsbD_and, BitVec.getLsbD_xor, wMask_at W.2.2.2.1 hp]
      by_cases o : j = 40 + p
      · subst o
        have : s.getLsbD (40 + p) = t.getLsbD (40 + p) := by
          have x := S.2.1 p hp
          have y := T.2.1 p hp
          rw [e] at x
          have z := x.trans y.symm
          cases p1 : s.getLsbD (40 + p) <;> cases p2 : t.getLsbD (40 + p) <;> rw [p1, p2] at z <;> first | rfl | (simp at z)
        rw [this, Bool.xor_self, Bool.false_and]
      · rw [df o, Bool.or_false]
        by_cases hv : j < vc N
        · by_cases c : nV N j 0 = p
          · have : s.getLsbD j = t.getLsbD j := by
              have x := S.1 j (h40 j hv)
              have y := T.1 j (h40 j hv)
              rw [c, Int.toNat_natCast, e] at x
              rw [c, Int.toNat_natCast] at y
              have z := x.trans y.symm
              cases p1 : s.getLsbD j <;> cases p2 : t.getLsbD j <;> rw [p1, p2] at z <;> first | rfl | (simp at z)
            rw [this, Bool.xor_self, Bool.false_and]
          · rw [df c, Bool.and_false, Bool.and_false]
        · rw [df hv, Bool.false_and, Bool.and_false]
  unfold unlP
  by_cases c : f p = g p
  · rw [dt c, dt (key.mpr c)]
  · rw [df c, df (fun z => c (key.mp z))]
/-- two sets differ in packages that are there alone -/
theorem Set_out {N : Nat → Int} {m : Nat} (W : WV N m) {s : BitVec 64} {f : Nat → Int} (S : SetR N s f) {p : Nat} (hp : p < 12) (n : pc N ≤ p) : f p = -1 := by
  rcases S.2.2.2 p hp with x | ⟨v, hv, e0, -⟩
  · exact x
  · have := W.2.2.2.2.1 v hv
    unfold pc at n
    omega
theorem cntN_M (P : Nat → Bool) {n k : Nat} (h : n ≤ k) : cntN k (orM n P).testBit = cntN n P := by
  obtain ⟨d, rfl⟩ : ∃ d, k = n + d := ⟨k - n, by omega⟩
  rw [cntN_sp]
  have z : ∀ d, cntN d (fun i => (orM n P).testBit (n + i)) = 0 := fun d => by
    induction d with
    | zero => rfl
    | succ d ih =>
      rw [cntN_1, ih, orM_at, df (by omega), Bool.false_and]
      rfl
  rw [z, Nat.add_zero]
  exact cntN_cg _ (fun i hi => by rw [orM_at, dt hi, Bool.true_and])
theorem cntN_ex (P : Nat → Bool) {n : Nat} : ∀ k, n ≤ k → (∀ i, n ≤ i → i < k → P i = false) → cntN k P = cntN n P := by
  intro k
  induction k with
  | zero => intro h _; rw [show n = 0 by omega]
  | succ k ih =>
    intro h a
    by_cases e : n = k + 1
    · rw [e]
    · rw [cntN_1, ih (by omega) (fun i x y => a i x (by omega)), a k (by omega) (by omega)]
      rfl
theorem diff_F {N : Nat → Int} {m : Nat} (W : WV N m) {s t : BitVec 64} {f g : Nat → Int} (S : SetR N s f) (T : SetR N t g) : cntN (pc N) (unlP N s t) = cntN 12 (fun p => !decide (f p = g p)) := by
  have := W.2.1
  rw [cntN_ex (fun p => !decide (f p = g p)) (n := pc N) 12 (by unfold pc; omega) (fun i x y => by rw [Set_out W S y x, Set_out W T y x]; rfl)]
  exact cntN_cg _ (fun i hi => unl_F W S T (by unfold pc at hi; omega))
set_option maxHeartbeats 1000000 in
theorem c_X8_idIn {s : BitVec 64} {p1 : Int} {K : Int → Prop} {h : XH} {N : Nat → Int} {nd : Nat → ND} (C : CSV h 8 N nd) (W : 0 ≤ N 4 ∧ N 4 ≤ 40) (k : K (idF N s p1)) : w_X8_idIn s p1 K h := by
  unfold w_X8_idIn
  obtain ⟨-, V1⟩ := V80 C
  refine ⟨fun v => 0 ≤ v ∧ v ≤ N 4 ∧ ∀ j : Nat, (j : Int) < v → (decide (nV N j 0 = p1) && s.getLsbD j) = false, fun v => (N 4 - v).toNat, ?_, ?_⟩
  · exact ⟨by omega, W.1, fun j hj => by omega⟩
  · intro x1 rx1 z2
    refine ⟨fun c9 => ?_, fun c9 => ?_⟩
    · have e : idF N s p1 = -1 := fnd_no (fun j hj => z2.2.2 j (by unfold vc at hj; omega))
      rw [← e]
      exact k
    · have hv : x1.toNat < vc N := by unfold vc; omega
      have a := (V8 C hv).1
      obtain ⟨z0, z1, z2⟩ := z2
      refine ⟨(by first | decide | omega | ((try simp (disch := omega) only [wr_of] at *); omega)), ?_⟩
      refine ⟨_, fun z4 => z4, ?_⟩
      refine ⟨fun c8 => ?_, fun c8 => ?_⟩
      · intro x5 ex5 rx5
        rw [wr_of (by omega) (by omega)] at ex5
        exact ⟨⟨by omega, by omega, fun j hj => by
          by_cases e : (j : Int) = x1
          · rw [show j = x1.toNat by omega, df (by rw [← a]; exact c8), Bool.false_and]
          · exact z2 j (by omega)⟩, by dsimp only; omega⟩
      · refine c_X12_has (by omega) ?_
        intro x6 qx6
        intro rx6 vx6
        refine ⟨fun c7 => ?_, fun c7 => ?_⟩
        · intro x5 ex5 rx5
          rw [wr_of (by omega) (by omega)] at ex5
          exact ⟨⟨by omega, by omega, fun j hj => by
            by_cases e : (j : Int) = x1
            · rw [show j = x1.toNat by omega, bt ((bq1 qx6).2.1.mp c7), Bool.and_false]
            · exact z2 j (by omega)⟩, by dsimp only; omega⟩
        · have e : idF N s p1 = (x1.toNat : Int) := fnd_is hv (by rw [dt (by rw [← a]; omega), (bq1 qx6).2.2.1.mp c7]; rfl) (fun j hj => z2 j (by omega))
          rw [show x1 = idF N s p1 by omega]
          exact k
set_option maxHeartbeats 1000000 in
theorem c_X8_codeIn {s : BitVec 64} {p1 : Int} {K : Int → Prop} {h : XH} {N : Nat → Int} {nd : Nat → ND} (C : CSV h 8 N nd) (W : 0 ≤ N 4 ∧ N 4 ≤ 40) (k : K (cIdF N s p1)) : w_X8_codeIn s p1 K h := by
  unfold w_X8_codeIn
  have R := idF_r (s := s) (p := p1) W.1
  unfold cIdF at k
  refine c_X8_idIn C W ?_
  intro _
  refine ⟨_, fun x2 rx2 z3 => z3, ?_⟩
  refine ⟨fun c5 => ?_, fun c5 => ?_⟩
  · refine ⟨(by first | decide | omega | ((try simp (disch := omega) only [wr_of] at *); omega)), ?_⟩
    rw [if_neg c5] at k
    rw [(V8 C (by unfold vc; omega)).2.1]
    exact k
  · rw [if_pos (by omega)] at k
    exact k
set_option maxHeartbeats 1000000 in
theorem c_X8_sizeOf {s : BitVec 64} {K : Int → Prop} {h : XH} {N : Nat → Int} {nd : Nat → ND} {m : Nat} (C : CSV h 8 N nd) (W : WV N m) (k : K (sumN (vc N) (fun v => if s.getLsbD v = true then nV N v 3 else 0))) : w_X8_sizeOf s K h := by
  unfold w_X8_sizeOf
  obtain ⟨-, V1⟩ := V80 C
  have W4 := W.2.2.2.1
  have W3 := W.2.2.1
  have bd : ∀ n : Nat, n ≤ vc N → 0 ≤ sumN n (fun v => if s.getLsbD v = true then nV N v 3 else 0) ∧ sumN n (fun v => if s.getLsbD v = true then nV N v 3 else 0) ≤ n * 1000 := fun n hn => sumN_bd n (fun i hi => by
    have := W.2.2.2.2.1 i (by omega)
    by_cases c : s.getLsbD i = true
    · rw [if_pos c]; omega
    · rw [if_neg c]; omega)
  refine ⟨fun a v => 0 ≤ v ∧ v ≤ N 4 ∧ a = sumN v.toNat (fun v => if s.getLsbD v = true then nV N v 3 else 0), fun _ v => (N 4 - v).toNat, ?_, ?_⟩
  · exact ⟨by omega, W3, rfl⟩
  · intro x1 x2 rx1 rx2 z3
    refine ⟨fun c11 => ?_, fun c11 => ?_⟩
    · rw [z3.2.2, show x2.toNat = vc N by unfold vc; omega]
      exact k
    · have hv : x2.toNat < vc N := by unfold vc; omega
      have a := (V8 C hv).2.2.2.1
      obtain ⟨z0, z1, z2⟩ := z3
      have b := bd (x2.toNat + 1) (by omega)
      have b2 := bd x2.toNat (by omega)
      refine c_X12_has (by omega) ?_
      intro x4 qx4
      intro rx4 vx4
      refine ⟨_, fun x5 rx5 z6 => z6, ?_⟩
      refine ⟨fun c10 => ?_, fun c10 => ?_⟩
      · intro x7 ex7 rx7
        intro x8 ex8 rx8
        have st := sumN_st (g := fun v => if s.getLsbD v = true then nV N v 3 else 0) (v := x2) (by omega)
        rw [bt ((bq1 qx4).2.1.mp c10)] at st
        rw [wr_of (by omega) (by omega)] at ex8
        rw [wr_of (by omega) (by omega)] at ex7
        exact ⟨⟨by omega, by omega, by rw [ex8, ex7, st, z2]; rfl⟩, by dsimp only; omega⟩
      · refine ⟨(by first | decide | omega | ((try simp (disch := omega) only [wr_of] at *); omega)), ?_⟩
        intro x7 ex7 rx7
        intro x8 ex8 rx8
        have st := sumN_st (g := fun v => if s.getLsbD v = true then nV N v 3 else 0) (v := x2) (by omega)
        rw [if_pos ((bq1 qx4).2.2.1.mp c10)] at st
        have w := W.2.2.2.2.1 _ hv
        rw [wr_of (by omega) (by omega)] at ex8
        rw [a, wr_of (by omega) (by omega)] at ex7
        exact ⟨⟨by omega, by omega, by rw [ex8, ex7, st, z2]⟩, by dsimp only; omega⟩
set_option maxHeartbeats 1000000 in
theorem c_X8_unlikePacks {s t : BitVec 64} {K : Int → Prop} {h : XH} {N : Nat → Int} {nd : Nat → ND} {m : Nat} (C : CSV h 8 N nd) (CP : CSP h 8 N) (W : WV N m) (k : K (orM (pc N) (unlP N s t) : Nat)) : w_X8_unlikePacks s t K h := by
  unfold w_X8_unlikePacks
  obtain ⟨V0, -⟩ := V80 C
  have W0 := W.1
  have W1 := W.2.1
  have W4 := W.2.2.2.1
  have bd : ∀ n : Nat, n ≤ 12 → orM n (unlP N s t) < 4096 := fun n hn => Nat.lt_of_lt_of_le (orM_lt _ n) (Nat.pow_le_pow_right (by decide) hn)
  refine ⟨fun a v => 0 ≤ v ∧ v ≤ N 0 ∧ a = (orM v.toNat (unlP N s t) : Nat), fun _ v => (N 0 - v).toNat, ?_, ?_⟩
  · exact ⟨by omega, W0, rfl⟩
  · intro x1 x2 rx1 rx2 z3
    refine ⟨fun c10 => ?_, fun c10 => ?_⟩
    · rw [z3.2.2, show x2.toNat = pc N by unfold pc; omega]
      exact k
    · have hv : x2.toNat < pc N := by unfold pc; omega
      have a := P8_w CP ⟨W.2.2.1, W4⟩ hv (by omega)
      obtain ⟨z0, z1, z2⟩ := z3
      have b2 := bd x2.toNat (by omega)
      have st := orM_st (g := unlP N s t) (v := x2) (by omega)
      refine ⟨(by first | decide | omega | ((try simp (disch := omega) only [wr_of] at *); omega)), ?_⟩
      refine ⟨_, fun x5 rx5 z6 => z6, ?_⟩
      refine ⟨fun c9 => ?_, fun c9 => ?_⟩
      · intro x7 ex7 rx7
        intro x8 ex8 rx8
        rw [a] at c9
        rw [show unlP N s t x2.toNat = false by unfold unlP; rw [dt c9]; rfl] at st
        rw [wr_of (by omega) (by omega)] at ex8
        exact ⟨⟨by omega, by omega, by rw [ex8, st, ex7, z2, show (0 : Int) = ((0 : Nat) : Int) from rfl, ior_nat (by omega) (by decide)]; rfl⟩, by dsimp only; omega⟩
      · intro x7 ex7 rx7
        intro x8 ex8 rx8
        rw [a] at c9
        rw [if_pos (show unlP N s t x2.toNat = true by unfold unlP; rw [df c9]; rfl)] at st
        rw [wr_of (by omega) (by omega)] at ex8
        have pw : 2 ^ x2.toNat < 4096 := Nat.pow_lt_pow_right (m := x2.toNat) (n := 12) (by decide) (by omega)
        have sh : ishl 1 x2 = ((2 ^ x2.toNat : Nat) : Int) := by
          have := ishl_nat (a := 1) (n := x2.toNat) (by omega) (by omega)
          rw [show ((x2.toNat : Nat) : Int) = x2 by omega, Nat.one_mul] at this
          exact this
        exact ⟨⟨by omega, by omega, by rw [ex8, st, ex7, z2, sh, ior_nat (by omega) (by omega)]⟩, by dsimp only; omega⟩
set_option maxHeartbeats 1000000 in
theorem c_X12_changesBetween {s t : BitVec 64} {K : Int → Prop} {h : XH} {N : Nat → Int} {nd : Nat → ND} {m : Nat} (C : CSV h 8 N nd) (CP : CSP h 8 N) (W : WV N m) (k : K (cntN (pc N) (unlP N s t) : Nat)) : w_X12_changesBetween s t K h := by
  unfold w_X12_changesBetween
  refine c_X8_unlikePacks C CP W ?_
  intro _
  have bd : orM (pc N) (unlP N s t) < 4096 := Nat.lt_of_lt_of_le (orM_lt _ _) (Nat.pow_le_pow_right (n := 2) (by decide) (show pc N ≤ 12 by have := W.2.1; unfold pc; omega))
  refine c_J6_bitCount_0f7a4 (by omega) ?_
  rw [cntN_M _ (by have := W.2.1; unfold pc; omega)]
  intro _
  exact k
set_option maxHeartbeats 1000000 in
theorem c_X12_packsIn {s : BitVec 64} {K : Int → Prop} {h : XH} (k : K (popc (s &&& 1099511627775#64) : Nat)) : w_X12_packsIn s K h := by
  unfold w_X12_packsIn
  refine c_J13_bitCount_95d88 ?_
  intro _
  exact k
set_option maxHeartbeats 1000000 in
theorem c_X12_valueIn {s : BitVec 64} {p1 : Int} {K : Int → Prop} {h : XH} {N : Nat → Int} {nd : Nat → ND} {m : Nat} {f : Nat → Int} (C : CSV h 8 N nd) (W : WV N m) (S : SetR N s f) (hp : 0 ≤ p1 ∧ p1 < 12) (k : K (f p1.toNat)) : w_X12_valueIn s p1 K h := by
  unfold w_X12_valueIn
  have F := cIdF_F W S (p := p1.toNat) (by omega)
  rw [show ((p1.toNat : Nat) : Int) = p1 by omega] at F
  have o := S.2.1 p1.toNat (by omega)
  have fr : f p1.toNat = -1 ∨ (0 ≤ f p1.toNat ∧ f p1.toNat < 2000000) := by
    rcases S.2.2.2 p1.toNat (by omega) with x | ⟨v, hv, e0, e1⟩
    · exact .inl x
    · have := W.2.2.2.2.1 v hv
      omega
  refine c_X8_codeIn C ⟨W.2.2.1, W.2.2.2.1⟩ ?_
  rw [F]
  intro _
  refine c_X12_switchOf hp ?_
  refine ⟨_, fun x3 rx3 z4 => z4, ?_⟩
  refine ⟨fun c5 => ?_, fun c5 => ?_⟩
  · have nb : ¬ 1000000 ≤ f p1.toNat := fun y => by
      have := o.mpr y
      rw [and_bit1 (by omega)] at c5
      rw [c5] at this
      cases this
    have e : wr (cIn f p1.toNat + 0) = f p1.toNat := by
      unfold cIn
      rcases fr with x | x
      · rw [if_pos x, x]; rfl
      · rw [if_neg (by omega), wr_of (by omega) (by omega)]; omega
    rw [e]
    exact k
  · have nb : 1000000 ≤ f p1.toNat := by
      refine o.mp ?_
      by_cases y : s.getLsbD (40 + p1.toNat) = true
      · exact y
      · exact absurd ((and_bit1 (by omega)).mpr (bt y)) c5
    rw [show wr (cIn f p1.toNat + 1000000) = f p1.toNat by unfold cIn; rw [if_neg (by omega), wr_of (by omega) (by omega)]; omega]
    exact k
/-! the reference's sets -/
/-- a row of 12 numbers at the cell a: a set -/
def AR (h : XH) (a : Nat) (f : Nat → Int) : Prop := hk h a = 100 ∧ hn h a = 12 ∧ ∀ i, i < 12 → hI h a i = f i
/-- numbers that a set of the reference can have -/
def fOK (N : Nat → Int) (f : Nat → Int) : Prop := ∀ p : Nat, p < 12 → f p = -1 ∨ ∃ v : Nat, v < vc N ∧ nV N v 0 = p ∧ (f p = nV N v 1 ∨ f p = nV N v 1 + 1000000)
theorem fOK_v {N : Nat → Int} {m : Nat} (W : WV N m) {f : Nat → Int} (S : fOK N f) {p : Nat} (hp : p < 12) (n : ¬ f p = -1) : ∃ v : Nat, v < vc N ∧ slF N f p = v ∧ nV N v 0 = p ∧ (f p = nV N v 1 ∨ f p = nV N v 1 + 1000000) := by
  rcases S p hp with x | ⟨v, hv, e0, e1⟩
  · exact absurd x n
  · exact ⟨v, hv, slF_r W hv e0 e1, e0, e1⟩
theorem fOK_r {N : Nat → Int} {m : Nat} (W : WV N m) {f : Nat → Int} (S : fOK N f) {p : Nat} (hp : p < 12) : f p = -1 ∨ (0 ≤ f p ∧ f p < 2000000) := by
  rcases S p hp with x | ⟨v, hv, e0, e1⟩
  · exact .inl x
  · have := W.2.2.2.2.1 v hv
    omega
set_option maxHeartbeats 1000000 in
theorem c_X14_slotIn {p0 : Nat} {p1 : Int} {K : Int → Prop} {h : XH} {N : Nat → Int} {m : Nat} {f : Nat → Int} (eN : N = nw h) (W : WV N m) (A : AR h p0 f) (S : fOK N f) (hp : 0 ≤ p1 ∧ p1 < 12) (k : K (slF N f p1.toNat)) : w_X14_slotIn p0 p1 K h := by
  unfold w_X14_slotIn
  obtain ⟨A1, A2, A3⟩ := A
  have a := A3 p1.toNat (by omega)
  have fr := fOK_r W S (p := p1.toNat) (by omega)
  unfold slF at k
  refine ⟨A1, ?_⟩
  refine ⟨(by rw [A2]; omega), ?_⟩
  refine ⟨_, fun x3 rx3 z4 => z4, ?_⟩
  refine ⟨fun c6 => ?_, fun c6 => ?_⟩
  · rw [a, irem_pos ⟨by omega, by omega⟩ (rgk rfl) (by omega) (by decide)]
    refine c_X14_slotOf eN ⟨W.2.2.1, W.2.2.2.1⟩ ?_
    intro x5 qx5
    intro rx5
    rw [if_neg (by omega)] at k
    rw [show ((p1.toNat : Nat) : Int) = p1 by omega] at k
    rw [slotF_is W qx5]
    exact k
  · rw [if_pos (by omega)] at k
    exact k
set_option maxHeartbeats 1000000 in
theorem c_X14_codeIn {p0 : Nat} {p1 : Int} {K : Int → Prop} {h : XH} {f : Nat → Int} (A : AR h p0 f) (hp : 0 ≤ p1 ∧ p1 < 12) (fr : f p1.toNat = -1 ∨ (0 ≤ f p1.toNat ∧ f p1.toNat < 2000000)) (k : K (cIn f p1.toNat)) : w_X14_codeIn p0 p1 K h := by
  unfold w_X14_codeIn
  obtain ⟨A1, A2, A3⟩ := A
  have a := A3 p1.toNat (by omega)
  unfold cIn at k
  refine ⟨A1, ?_⟩
  refine ⟨(by rw [A2]; omega), ?_⟩
  refine ⟨_, fun x3 rx3 z4 => z4, ?_⟩
  refine ⟨fun c5 => ?_, fun c5 => ?_⟩
  · rw [if_neg (by omega)] at k
    rw [a, irem_pos ⟨by omega, by omega⟩ (rgk rfl) (by omega) (by decide)]
    exact k
  · rw [if_pos (by omega)] at k
    exact k
set_option maxHeartbeats 1000000 in
theorem c_X14_manyIn {p0 : Nat} {K : Int → Prop} {h : XH} {f : Nat → Int} (A : AR h p0 f) (k : K (cntN 12 (fun p => !decide (f p = -1)) : Nat)) : w_X14_manyIn p0 K h := by
  unfold w_X14_manyIn
  obtain ⟨A1, A2, A3⟩ := A
  refine ⟨fun a v => 0 ≤ v ∧ v ≤ 12 ∧ a = (cntN v.toNat (fun p => !decide (f p = -1)) : Nat), fun _ v => (12 - v).toNat, ?_, ?_⟩
  · exact ⟨by decide, by decide, rfl⟩
  · intro x1 x2 rx1 rx2 z3
    refine ⟨fun c11 => ?_, fun c11 => ?_⟩
    · rw [z3.2.2, show x2.toNat = 12 by omega]
      exact k
    · obtain ⟨z0, z1, z2⟩ := z3
      have a := A3 x2.toNat (by omega)
      have st := cntN_st (g := fun p => !decide (f p = -1)) (v := x2) (by omega)
      have le := cntN_le (fun p => !decide (f p = -1)) x2.toNat
      refine ⟨A1, ?_⟩
      refine ⟨(by rw [A2]; omega), ?_⟩
      refine ⟨_, fun x6 rx6 z7 => z7, ?_⟩
      refine ⟨fun c10 => ?_, fun c10 => ?_⟩
      · intro x8 ex8 rx8
        intro x9 ex9 rx9
        rw [wr_of (by omega) (by omega)] at ex8 ex9
        rw [if_pos (show (!decide (f x2.toNat = -1)) = true by rw [df (by omega)]; rfl)] at st
        exact ⟨⟨by omega, by omega, by rw [ex9, st, ex8, z2]; omega⟩, by dsimp only; omega⟩
      · intro x8 ex8 rx8
        intro x9 ex9 rx9
        rw [wr_of (by omega) (by omega)] at ex8 ex9
        rw [if_neg (show ¬ (!decide (f x2.toNat = -1)) = true by rw [dt (by omega)]; decide)] at st
        exact ⟨⟨by omega, by omega, by rw [ex9, st, ex8, z2]; omega⟩, by dsimp only; omega⟩
set_option maxHeartbeats 1000000 in
theorem c_X14_differences {p0 p1 : Nat} {K : Int → Prop} {h : XH} {f g : Nat → Int} (A : AR h p0 f) (B : AR h p1 g) (k : K (cntN 12 (fun p => !decide (f p = g p)) : Nat)) : w_X14_differences p0 p1 K h := by
  unfold w_X14_differences
  obtain ⟨A1, A2, A3⟩ := A
  obtain ⟨B1, B2, B3⟩ := B
  refine ⟨fun a v => 0 ≤ v ∧ v ≤ 12 ∧ a = (cntN v.toNat (fun p => !decide (f p = g p)) : Nat), fun _ v => (12 - v).toNat, ?_, ?_⟩
  · exact ⟨by decide, by decide, rfl⟩
  · intro x1 x2 rx1 rx2 z3
    refine ⟨fun c13 => ?_, fun c13 => ?_⟩
    · rw [z3.2.2, show x2.toNat = 12 by omega]
      exact k
    · obtain ⟨z0, z1, z2⟩ := z3
      have a := A3 x2.toNat (by omega)
      have b := B3 x2.toNat (by omega)
      have st := cntN_st (g := fun p => !decide (f p = g p)) (v := x2) (by omega)
      have le := cntN_le (fun p => !decide (f p = g p)) x2.toNat
      refine ⟨A1, ?_⟩
      refine ⟨(by rw [A2]; omega), ?_⟩
      refine ⟨B1, ?_⟩
      refine ⟨(by rw [B2]; omega), ?_⟩
      refine ⟨_, fun x8 rx8 z9 => z9, ?_⟩
      refine ⟨fun c12 => ?_, fun c12 => ?_⟩
      · intro x10 ex10 rx10
        intro x11 ex11 rx11
        rw [wr_of (by omega) (by omega)] at ex10 ex11
        rw [if_pos (show (!decide (f x2.toNat = g x2.toNat)) = true by rw [df (by omega)]; rfl)] at st
        exact ⟨⟨by omega, by omega, by rw [ex11, st, ex10, z2]; omega⟩, by dsimp only; omega⟩
      · intro x10 ex10 rx10
        intro x11 ex11 rx11
        rw [wr_of (by omega) (by omega)] at ex10 ex11
        rw [if_neg (show ¬ (!decide (f x2.toNat = g x2.toNat)) = true by rw [dt (by omega)]; decide)] at st
        exact ⟨⟨by omega, by omega, by rw [ex11, st, ex10, z2]; omega⟩, by dsimp only; omega⟩
set_option maxHeartbeats 1000000 in
theorem c_X14_sizeOf {p0 : Nat} {K : Int → Prop} {h : XH} {N : Nat → Int} {m : Nat} {f : Nat → Int} (eN : N = nw h) (W : WV N m) (A : AR h p0 f) (S : fOK N f) (k : K (sumN 12 (fun p => if f p = -1 then 0 else nV N (slF N f p).toNat 3))) : w_X14_sizeOf p0 K h := by
  unfold w_X14_sizeOf
  have A0 := A
  obtain ⟨A1, A2, A3⟩ := A
  have bd : ∀ n : Nat, n ≤ 12 → 0 ≤ sumN n (fun p => if f p = -1 then 0 else nV N (slF N f p).toNat 3) ∧ sumN n (fun p => if f p = -1 then 0 else nV N (slF N f p).toNat 3) ≤ n * 1000 := fun n hn => sumN_bd n (fun i hi => by
    by_cases c : f i = -1
    · rw [if_pos c]; omega
    · rw [if_neg c]
      obtain ⟨v, hv, e, -⟩ := fOK_v W S (show i < 12 by omega) c
      have := W.2.2.2.2.1 v hv
      rw [e, Int.toNat_natCast]
      omega)
  refine ⟨fun a v => 0 ≤ v ∧ v ≤ 12 ∧ a = sumN v.toNat (fun p => if f p = -1 then 0 else nV N (slF N f p).toNat 3), fun _ v => (12 - v).toNat, ?_, ?_⟩
  · exact ⟨by decide, by decide, rfl⟩
  · intro x1 x2 rx1 rx2 z3
    refine ⟨fun c13 => ?_, fun c13 => ?_⟩
    · rw [z3.2.2, show x2.toNat = 12 by omega]
      exact k
    · obtain ⟨z0, z1, z2⟩ := z3
      have a := A3 x2.toNat (by omega)
      have st := sumN_st (g := fun p => if f p = -1 then 0 else nV N (slF N f p).toNat 3) (v := x2) (by omega)
      have b := bd (x2.toNat + 1) (by omega)
      have b2 := bd x2.toNat (by omega)
      refine ⟨A1, ?_⟩
      refine ⟨(by rw [A2]; omega), ?_⟩
      refine ⟨_, fun x6 rx6 z7 => z7, ?_⟩
      refine ⟨fun c12 => ?_, fun c12 => ?_⟩
      · have nf : ¬ f x2.toNat = -1 := by rw [← a]; exact c12
        obtain ⟨v, hv, e, -⟩ := fOK_v W S (show x2.toNat < 12 by omega) nf
        have w := W.2.2.2.2.1 v hv
        have v40 : v < 40 := by have := W.2.2.2.1; unfold vc at hv; omega
        refine c_X14_slotIn eN W A0 S (by omega) ?_
        rw [e]
        intro _
        refine c_X14_ver (by omega) ?_
        intro x11 ex11
        intro rx11
        intro x8 ex8 rx8
        intro x9 ex9 rx9
        rw [if_neg nf, e, Int.toNat_natCast] at st
        have e3 : x11 = nV N v 3 := by rw [ex11, eN, Int.toNat_natCast]; rfl
        rw [wr_of (by omega) (by omega)] at ex9
        rw [wr_of (by omega) (by omega)] at ex8
        exact ⟨⟨by omega, by omega, by rw [ex9, ex8, st, z2, e3]⟩, by dsimp only; omega⟩
      · intro x8 ex8 rx8
        intro x9 ex9 rx9
        rw [if_pos (by omega)] at st
        rw [wr_of (by omega) (by omega)] at ex9
        rw [wr_of (by omega) (by omega)] at ex8
        exact ⟨⟨by omega, by omega, by rw [ex9, ex8, st, z2]⟩, by dsimp only; omega⟩
