/-! SEARCH, the reference -/
theorem z64 {x : BitVec 64} : x = 0#64 ↔ ∀ j, j < 64 → x.getLsbD j = false := ⟨fun h j _ => by rw [h, BitVec.getLsbD_zero], fun h => bits_eq (fun j hj => by rw [h j hj, BitVec.getLsbD_zero])⟩
theorem nz64 {x : BitVec 64} : ¬ x = 0#64 ↔ ∃ j, j < 64 ∧ x.getLsbD j = true := by
  rw [z64]
  constructor
  · intro h
    refine Classical.byContradiction fun n => h fun j hj => ?_
    cases e : x.getLsbD j with
    | false => rfl
    | true => exact absurd ⟨j, hj, e⟩ n
  · rintro ⟨j, hj, e⟩ h
    rw [h j hj] at e; cases e
theorem bz {b : BitVec 64} {j : Nat} (hj : j < 64) : b &&& bit1 j = 0#64 ↔ b.getLsbD j = false := by
  rw [z64]
  constructor
  · intro h
    have := h j hj
    rw [BitVec.getLsbD_and, bit1_at hj, decide_eq_true rfl, Bool.and_true] at this
    exact this
  · intro h i hi
    rw [BitVec.getLsbD_and, bit1_at hj]
    by_cases c : i = j
    · rw [c, h, Bool.false_and]
    · rw [decide_eq_false c, Bool.and_false]
theorem low_ {b : BitVec 64} (n : ¬ b = 0#64) : ∃ j, j < 64 ∧ b &&& -b = bit1 j ∧ b.getLsbD j = true := by
  have ex : ∃ j, b.getLsbD j = true := by obtain ⟨j, -, e⟩ := nz64.mp n; exact ⟨j, e⟩
  obtain ⟨j, e, mn⟩ : ∃ j, b.getLsbD j = true ∧ ∀ i, i < j → b.getLsbD i = false := by
    obtain ⟨k, e⟩ := ex
    induction k using Nat.strongRecOn with
    | ind k ih =>
      by_cases c : ∃ i, i < k ∧ b.getLsbD i = true
      · obtain ⟨i, hi, ei⟩ := c
        exact ih i hi ei
      · refine ⟨k, e, fun i hi => ?_⟩
        cases y : b.getLsbD i with
        | false => rfl
        | true => exact absurd ⟨i, hi, y⟩ c
  have hj : j < 64 := by
    refine Classical.byContradiction fun y => ?_
    rw [BitVec.getLsbD_of_ge _ _ (by omega)] at e; cases e
  refine ⟨j, hj, bits_eq (fun i hi => ?_), e⟩
  rw [BitVec.getLsbD_and, bit1_at hj, BitVec.getLsbD_neg]
  by_cases c : i = j
  · subst c
    have : ¬ ∃ t, t < i ∧ b.getLsbD t = true := fun ⟨t, a, y⟩ => by rw [mn t a] at y; cases y
    simp [e, this, hi]
  · by_cases d : i < j
    · rw [mn i d, Bool.false_and, decide_eq_false c]
    · have : ∃ t, t < i ∧ b.getLsbD t = true := ⟨j, by omega, e⟩
      cases y : b.getLsbD i with
      | false => rw [Bool.false_and, decide_eq_false c]
      | true => simp [this, hi, c]
/-- the literals told are those of A -/
def exA (A y n : BitVec 64) : Prop := ∀ j, j < 64 → (y.getLsbD j = true → A.getLsbD j = true) ∧ (n.getLsbD j = true → A.getLsbD j = false)
def dj (y n : BitVec 64) : Prop := ∀ j, j < 64 → ¬ (y.getLsbD j = true ∧ n.getLsbD j = true)
def SatA (cs : List Cl) (keep : Nat → Bool) (A : BitVec 64) : Prop := ∀ i, i < cs.length → keep i = true → clH A (cs.getD i c0)
theorem clH_at {A : BitVec 64} {c : Cl} : clH A c ↔ ∃ j, j < 64 ∧ ((cYes c).getLsbD j = true ∧ A.getLsbD j = true ∨ (cNo c).getLsbD j = true ∧ A.getLsbD j = false) := by
  unfold clH
  rw [nz64, nz64]
  constructor
  · rintro (⟨j, hj, e⟩ | ⟨j, hj, e⟩)
    · rw [BitVec.getLsbD_and, Bool.and_eq_true] at e
      exact ⟨j, hj, .inl e⟩
    · rw [BitVec.getLsbD_and, Bool.and_eq_true, BitVec.getLsbD_not] at e
      refine ⟨j, hj, .inr ⟨e.1, ?_⟩⟩
      have := e.2
      rw [Bool.and_eq_true] at this
      cases y : A.getLsbD j with
      | false => rfl
      | true => rw [y] at this; exact absurd this.2 (by decide)
  · rintro ⟨j, hj, ⟨a, b⟩ | ⟨a, b⟩⟩
    · exact .inl ⟨j, hj, by rw [BitVec.getLsbD_and, a, b]; rfl⟩
    · exact .inr ⟨j, hj, by rw [BitVec.getLsbD_and, BitVec.getLsbD_not, a, b, decide_eq_true hj]; rfl⟩
def oYs (n : BitVec 64) (c : Cl) : BitVec 64 := cYes c &&& (n ^^^ 18446744073709551615#64)
def oNs (y : BitVec 64) (c : Cl) : BitVec 64 := cNo c &&& (y ^^^ 18446744073709551615#64)
def unS (y n : BitVec 64) (c : Cl) : Prop := cYes c &&& y = 0#64 ∧ cNo c &&& n = 0#64
theorem oY_at {n : BitVec 64} {c : Cl} {j : Nat} (hj : j < 64) : (oYs n c).getLsbD j = true ↔ (cYes c).getLsbD j = true ∧ n.getLsbD j = false := by
  unfold oYs
  rw [BitVec.getLsbD_and, not_m1_at hj, Bool.and_eq_true, Bool.not_eq_true']
theorem oN_at {y : BitVec 64} {c : Cl} {j : Nat} (hj : j < 64) : (oNs y c).getLsbD j = true ↔ (cNo c).getLsbD j = true ∧ y.getLsbD j = false := by
  unfold oNs
  rw [BitVec.getLsbD_and, not_m1_at hj, Bool.and_eq_true, Bool.not_eq_true']
theorem un_at {y n : BitVec 64} {c : Cl} (u : unS y n c) {j : Nat} (hj : j < 64) : ((cYes c).getLsbD j = true → y.getLsbD j = false) ∧ ((cNo c).getLsbD j = true → n.getLsbD j = false) := by
  obtain ⟨a, b⟩ := u
  have a := z64.mp a j hj
  have b := z64.mp b j hj
  rw [BitVec.getLsbD_and] at a b
  exact ⟨fun e => by rw [e, Bool.true_and] at a; exact a, fun e => by rw [e, Bool.true_and] at b; exact b⟩
/-- one of the open literals holds -/
theorem open_ {A y n : BitVec 64} {c : Cl} (x : exA A y n) (cl : clH A c) : (∃ j, j < 64 ∧ (cYes c).getLsbD j = true ∧ y.getLsbD j = true) ∨ (∃ j, j < 64 ∧ (cNo c).getLsbD j = true ∧ n.getLsbD j = true) ∨ ∃ j, j < 64 ∧ ((oYs n c).getLsbD j = true ∧ A.getLsbD j = true ∨ (oNs y c).getLsbD j = true ∧ A.getLsbD j = false) := by
  obtain ⟨j, hj, ⟨a, b⟩ | ⟨a, b⟩⟩ := clH_at.mp cl
  · refine .inr (.inr ⟨j, hj, .inl ⟨(oY_at hj).mpr ⟨a, ?_⟩, b⟩⟩)
    cases e : n.getLsbD j with
    | false => rfl
    | true => rw [(x j hj).2 e] at b; cases b
  · refine .inr (.inr ⟨j, hj, .inr ⟨(oN_at hj).mpr ⟨a, ?_⟩, b⟩⟩)
    cases e : y.getLsbD j with
    | false => rfl
    | true => rw [(x j hj).1 e] at b; cases b
theorem popc_1 {x : BitVec 64} {i : Nat} (hi : i < 64) (e : x.getLsbD i = true) : 1 ≤ popc x := by
  have := cntN_lt (g := fun _ => false) (k := x.getLsbD) 64 (fun _ _ h => by cases h) ⟨i, hi, e, rfl⟩
  unfold popc
  omega
theorem popc_2 {x : BitVec 64} {i j : Nat} (hi : i < 64) (hj : j < 64) (n : ¬ i = j) (e : x.getLsbD i = true) (d : x.getLsbD j = true) : 2 ≤ popc x := by
  have a := cntN_lt (g := fun _ => false) (k := fun t => decide (t = i)) 64 (fun _ _ h => by cases h) ⟨i, hi, decide_eq_true rfl, rfl⟩
  have b := cntN_lt (g := fun t => decide (t = i)) (k := x.getLsbD) 64 (fun t _ h => by rw [of_decide_eq_true h]; exact e) ⟨j, hj, d, decide_eq_false (fun y => n y.symm)⟩
  unfold popc
  omega
theorem popc_0 {x : BitVec 64} (e : popc x = 0) {j : Nat} (hj : j < 64) : x.getLsbD j = false := by
  cases y : x.getLsbD j with
  | false => rfl
  | true => have := popc_1 hj y; omega
theorem popc_le (x : BitVec 64) : popc x ≤ 64 := cntN_le _ 64
def pN (y n : BitVec 64) : Nat := popc (y ||| n)
theorem pN_le (y n : BitVec 64) : pN y n ≤ 64 := popc_le _
theorem pN_lt {y n y2 n2 : BitVec 64} {j : Nat} (hj : j < 64) (a : ∀ i, i < 64 → (y.getLsbD i = true → y2.getLsbD i = true) ∧ (n.getLsbD i = true → n2.getLsbD i = true)) (b : y.getLsbD j = false ∧ n.getLsbD j = false) (d : y2.getLsbD j = true ∨ n2.getLsbD j = true) : pN y n < pN y2 n2 := by
  refine cntN_lt 64 (fun i hi e => ?_) ⟨j, hj, ?_, ?_⟩
  · rw [BitVec.getLsbD_or, Bool.or_eq_true] at e ⊢
    exact e.imp (a i hi).1 (a i hi).2
  · rw [BitVec.getLsbD_or, Bool.or_eq_true]; exact d
  · rw [BitVec.getLsbD_or, b.1, b.2]; rfl
/-- a clause with one open literal -/
theorem unit_ {y n : BitVec 64} {c : Cl} (D : dj y n) (u : unS y n c) (one : popc (oYs n c) + popc (oNs y c) = 1) : dj (y ||| oYs n c) (n ||| oNs y c) ∧ pN y n < pN (y ||| oYs n c) (n ||| oNs y c) ∧ ∀ A, clH A c → exA A y n → exA A (y ||| oYs n c) (n ||| oNs y c) := by
  refine ⟨fun j hj => ?_, ?_, fun A cl x => ?_⟩
  · rw [BitVec.getLsbD_or, BitVec.getLsbD_or, Bool.or_eq_true, Bool.or_eq_true]
    rintro ⟨a | a, b | b⟩
    · exact D j hj ⟨a, b⟩
    · have := ((oN_at hj).mp b).2; rw [this] at a; cases a
    · have := ((oY_at hj).mp a).2; rw [this] at b; cases b
    · have := popc_1 hj a; have := popc_1 hj b; omega
  · have ex : ∃ j, j < 64 ∧ ((oYs n c).getLsbD j = true ∨ (oNs y c).getLsbD j = true) := by
      refine Classical.byContradiction fun no => ?_
      have e1 : popc (oYs n c) = 0 := by
        unfold popc
        have := cntN_mono (g := (oYs n c).getLsbD) (k := fun _ => false) 64 (fun i hi e => absurd ⟨i, hi, .inl e⟩ no)
        have z : ∀ t, cntN t (fun _ => false) = 0 := fun t => by
          induction t with
          | zero => rfl
          | succ t ih => show cntN t _ + _ = 0; rw [ih]; rfl
        rw [z] at this; omega
      have e2 : popc (oNs y c) = 0 := by
        unfold popc
        have := cntN_mono (g := (oNs y c).getLsbD) (k := fun _ => false) 64 (fun i hi e => absurd ⟨i, hi, .inr e⟩ no)
        have z : ∀ t, cntN t (fun _ => false) = 0 := fun t => by
          induction t with
          | zero => rfl
          | succ t ih => show cntN t _ + _ = 0; rw [ih]; rfl
        rw [z] at this; omega
      omega
    obtain ⟨j, hj, o⟩ := ex
    refine pN_lt hj (fun i hi => ⟨fun e => by rw [BitVec.getLsbD_or, e]; rfl, fun e => by rw [BitVec.getLsbD_or, e]; rfl⟩) ?_ ?_
    · rcases o with o | o
      · obtain ⟨a, b⟩ := (oY_at hj).mp o
        exact ⟨(un_at u hj).1 a, b⟩
      · obtain ⟨a, b⟩ := (oN_at hj).mp o
        exact ⟨b, (un_at u hj).2 a⟩
    · rw [BitVec.getLsbD_or, BitVec.getLsbD_or, Bool.or_eq_true, Bool.or_eq_true]
      rcases o with o | o
      · exact .inl (.inr o)
      · exact .inr (.inr o)
  · have w : ∃ j, j < 64 ∧ ((oYs n c).getLsbD j = true ∧ A.getLsbD j = true ∨ (oNs y c).getLsbD j = true ∧ A.getLsbD j = false) := by
      rcases open_ x cl with ⟨j, hj, a, b⟩ | ⟨j, hj, a, b⟩ | z
      · rw [(un_at u hj).1 a] at b; cases b
      · rw [(un_at u hj).2 a] at b; cases b
      · exact z
    obtain ⟨j, hj, o⟩ := w
    intro i hi
    rw [BitVec.getLsbD_or, BitVec.getLsbD_or, Bool.or_eq_true, Bool.or_eq_true]
    refine ⟨fun e => e.elim (x i hi).1 (fun e => ?_), fun e => e.elim (x i hi).2 (fun e => ?_)⟩
    · rcases o with ⟨o, v⟩ | ⟨o, v⟩
      · by_cases q : i = j
        · rw [q]; exact v
        · have := popc_2 hi hj q e o; omega
      · have := popc_1 hi e; have := popc_1 hj o; omega
    · rcases o with ⟨o, v⟩ | ⟨o, v⟩
      · have := popc_1 hi e; have := popc_1 hj o; omega
      · by_cases q : i = j
        · rw [q]; exact v
        · have := popc_2 hi hj q e o; omega
theorem none_ {A y n : BitVec 64} {c : Cl} (u : unS y n c) (one : popc (oYs n c) + popc (oNs y c) = 0) (x : exA A y n) (cl : clH A c) : False := by
  rcases open_ x cl with ⟨j, hj, a, b⟩ | ⟨j, hj, a, b⟩ | ⟨j, hj, ⟨a, b⟩ | ⟨a, b⟩⟩
  · rw [(un_at u hj).1 a] at b; cases b
  · rw [(un_at u hj).2 a] at b; cases b
  · have := popc_1 hj a; omega
  · have := popc_1 hj a; omega
def aV (N : Nat → Int) (f : Nat → Int) (y : BitVec 64) (p : Nat) : Nat → Bool
  | 0 => false
  | k + 1 => aV N f y p k || (decide (nV N k 0 = p) && !decide ((k : Int) = slF N f p) && y.getLsbD k)
def q0 (N : Nat → Int) (f : Nat → Int) (y n : BitVec 64) (p : Nat) : Bool := (if 1000000 ≤ f p then n else y).getLsbD (40 + p) || (!decide (slF N f p = -1) && n.getLsbD (slF N f p).toNat)
def sCp (N : Nat → Int) (f : Nat → Int) (y n : BitVec 64) (p : Nat) : Bool := q0 N f y n p || aV N f y p (vc N)
/-- how many packages are changed in any case -/
def sC (N : Nat → Int) (f : Nat → Int) (y n : BitVec 64) : Nat := cntN (pc N) (sCp N f y n)
set_option maxHeartbeats 1000000 in
theorem c_X14_surelyChanged {p0 p1 : BitVec 64} {h : XH} {N : Nat → Int} {m : Nat} (T : HT h) (eN : N = nw h) (W : WF N m) {f : Nat → Int} (A : AR h (hR h 437 34) f) (S : fOK N f) {K : Int → Prop} (k : K (sC N f p0 p1 : Nat)) : w_X14_surelyChanged p0 p1 K h := by
  unfold w_X14_surelyChanged
  have w0 := W.1.1
  have w12 := W.1.2.1
  have w4 := W.1.2.2.1
  have v40 := W.1.2.2.2.1
  have i0 : hI h 438 0 = N 0 := by rw [eN]; rfl
  have i4 : hI h 438 4 = N 4 := by rw [eN]; rfl
  have pcN : pc N = (N 0).toNat := rfl
  have vcN : vc N = (N 4).toNat := rfl
  refine ⟨fun x p => 0 ≤ p ∧ p ≤ N 0 ∧ x = (cntN p.toNat (sCp N f p0 p1) : Nat), fun _ p => (N 0 - p).toNat, ?_, ?_⟩
  · exact ⟨by omega, w0, rfl⟩
  · intro x1 x2 rx1 rx2 z7
    obtain ⟨a0, a1, ax⟩ := z7
    refine ⟨fun c43 => ?_, fun c43 => ?_⟩
    · rw [i0] at c43
      rw [ax, show x2.toNat = pc N by omega]
      exact k
    · rw [i0] at c43
      have st := cntN_st (g := sCp N f p0 p1) (v := x2) a0
      have cle := cntN_le (sCp N f p0 p1) x2.toNat
      have p12 : x2.toNat < 12 := by omega
      have sl := fun q => slF_fOK W S p12 q
      have fv := A.2.2 x2.toNat p12
      refine c_X14_slotIn eN W.1 A S (by omega) ?_
      intro rx8
      refine c_X14_isOnIn A.1 (by have := A.2.1; omega) ?_
      rw [fv]
      intro x9 qx9
      intro rx9 vx9
      refine ⟨fun b => b = if 1000000 ≤ f x2.toNat then p1 else p0, ?_, ?_⟩
      · intro b10 z11
        unfold w_X14_optionBit
        rw [wr_of (x := 40 + x2) (by omega) (by omega), show ((40 : Int) + x2) = ((40 + x2.toNat : Nat) : Int) by omega, lshl1 (by omega)]
        refine ⟨fun x => x = if q0 N f p0 p1 x2.toNat = true then 1 else 0, ?_, ?_⟩
        · intro x13 rx13 z14
          refine ⟨fun x v => 0 ≤ v ∧ v ≤ N 4 ∧ x = if (q0 N f p0 p1 x2.toNat || aV N f p0 x2.toNat v.toNat) = true then 1 else 0, fun _ v => (N 4 - v).toNat, ?_, ?_⟩
          · refine ⟨by omega, w4, ?_⟩
            rw [z14, show aV N f p0 x2.toNat (0 : Int).toNat = false from rfl, Bool.or_false]
          · intro x16 x17 rx16 rx17 z18
            obtain ⟨b0, b1_, bx⟩ := z18
            refine ⟨fun c35 => ?_, fun c35 => ?_⟩
            · rw [i4] at c35
              rw [show x17.toNat = vc N by omega] at bx
              refine ⟨fun x => x = if sCp N f p0 p1 x2.toNat = true then 1 else 0, ?_, ?_⟩
              · intro x19 rx19 z20
                intro x21 ex21 rx21
                intro x22 ex22 rx22
                rw [wr_of (by split at z20 <;> omega) (by split at z20 <;> omega)] at ex21
                rw [wr_of (by omega) (by omega)] at ex22
                refine ⟨⟨by omega, by omega, ?_⟩, by dsimp only; omega⟩
                rw [ex22, st, ex21, z20, ax]
                split <;> omega
              · refine ⟨fun c23 => ?_, fun c23 => ?_⟩
                · rw [c23] at bx
                  by_cases y : sCp N f p0 p1 x2.toNat = true
                  · unfold sCp at y; rw [if_pos y] at bx; omega
                  · rw [if_neg y]
                · by_cases y : sCp N f p0 p1 x2.toNat = true
                  · rw [if_pos y]
                  · unfold sCp at y; rw [if_neg y] at bx; exact absurd bx c23
            · rw [i4] at c35
              have se : aV N f p0 x2.toNat (x17.toNat + 1) = (aV N f p0 x2.toNat x17.toNat || (decide (nV N x17.toNat 0 = x2.toNat) && !decide (((x17.toNat : Nat) : Int) = slF N f x2.toNat) && p0.getLsbD x17.toNat)) := rfl
              refine ⟨fun x => x = if (q0 N f p0 p1 x2.toNat || aV N f p0 x2.toNat (x17.toNat + 1)) = true then 1 else 0, ?_, ?_⟩
              · intro x24 rx24 z25
                intro x26 ex26 rx26
                rw [wr_of (by omega) (by omega)] at ex26
                exact ⟨⟨by omega, by omega, by rw [z25, show x26.toNat = x17.toNat + 1 by omega]⟩, by dsimp only; omega⟩
              · refine ⟨(q0 N f p0 p1 x2.toNat || aV N f p0 x2.toNat (x17.toNat + 1)) = true, ?_, ?_⟩
                · intro z27
                  rw [if_pos z27]
                · refine ⟨fun c34 => ?_, fun c34 => ?_⟩
                  · have y : (q0 N f p0 p1 x2.toNat || aV N f p0 x2.toNat x17.toNat) = true := Classical.byContradiction fun y => by rw [if_neg y] at bx; exact c34 bx
                    rw [se, ← Bool.or_assoc, y, Bool.true_or]
                  · have y0 : (q0 N f p0 p1 x2.toNat || aV N f p0 x2.toNat x17.toNat) = false := by
                      cases y : (q0 N f p0 p1 x2.toNat || aV N f p0 x2.toNat x17.toNat) with
                      | false => rfl
                      | true => rw [y] at bx; simp at bx; omega
                    refine c_X14_ver (by omega) ?_
                    intro x28 ex28
                    have e28 : x28 = nV N x17.toNat 0 := by rw [ex28, eN]; rfl
                    intro rx28
                    refine ⟨(q0 N f p0 p1 x2.toNat || aV N f p0 x2.toNat (x17.toNat + 1)) = false, ?_, ?_⟩
                    · intro z29
                      rw [if_neg (by rw [z29]; decide)]
                    · refine ⟨fun c33 => ?_, fun c33 => ?_⟩
                      · rw [se, ← Bool.or_assoc, y0, Bool.false_or, decide_eq_false (by omega), Bool.false_and, Bool.false_and]
                      · refine ⟨fun c32 => ?_, fun c32 => ?_⟩
                        · rw [se, ← Bool.or_assoc, y0, Bool.false_or, decide_eq_true (show ((x17.toNat : Nat) : Int) = slF N f x2.toNat by omega)]
                          simp
                        · unfold w_X14_bit
                          rw [show x17 = ((x17.toNat : Nat) : Int) by omega, lshl1 (by omega)]
                          try rw [Int.toNat_natCast]
                          refine ⟨fun c31 => ?_, fun c31 => ?_⟩
                          · rw [se, ← Bool.or_assoc, y0, Bool.false_or, (bz (by omega)).mp c31, Bool.and_false]
                          · rw [bz (by omega), Bool.not_eq_false] at c31
                            rw [se, ← Bool.or_assoc, y0, Bool.false_or, c31, decide_eq_true (by omega), decide_eq_false (by omega)]
                            rfl
        · refine ⟨q0 N f p0 p1 x2.toNat = true, ?_, ?_⟩
          · intro z36
            rw [if_pos z36]
          · refine ⟨fun c41 => ?_, fun c41 => ?_⟩
            · unfold q0
              rw [bz (by omega), Bool.not_eq_false, z11] at c41
              rw [c41, Bool.true_or]
            · have o0 : (if 1000000 ≤ f x2.toNat then p1 else p0).getLsbD (40 + x2.toNat) = false := by rw [← z11]; exact (bz (by omega)).mp (Decidable.not_not.mp c41)
              refine ⟨q0 N f p0 p1 x2.toNat = false, ?_, ?_⟩
              · intro z37
                rw [if_neg (by rw [z37]; decide)]
              · refine ⟨fun c40 => ?_, fun c40 => ?_⟩
                · unfold q0
                  rw [o0, decide_eq_true c40]; rfl
                · have nf : ¬ f x2.toNat = -1 := fun y => c40 (by unfold slF; rw [if_pos y])
                  obtain ⟨s0, s1, s2⟩ := sl nf
                  have v40_ : (slF N f x2.toNat).toNat < 40 := by omega
                  unfold w_X14_bit
                  rw [show slF N f x2.toNat = (((slF N f x2.toNat).toNat : Nat) : Int) by omega, lshl1 (by omega)]
                  refine ⟨fun c39 => ?_, fun c39 => ?_⟩
                  · unfold q0
                    rw [o0, (bz (by omega)).mp c39, Bool.and_false]; rfl
                  · unfold q0
                    rw [bz (by omega), Bool.not_eq_false] at c39
                    rw [c39, decide_eq_false c40]; simp
      · refine ⟨fun c42 => ?_, fun c42 => ?_⟩
        · rw [if_neg ((bq1 qx9).2.1.mp c42)]
        · rw [if_pos ((bq1 qx9).2.2.1.mp c42)]
