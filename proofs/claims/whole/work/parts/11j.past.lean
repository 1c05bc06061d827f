/-! WHAT IS KEPT FOR UNDO: class and reference side by side -/
theorem ly_noTxt : (List.range lyN).all (fun a => match xfind lyS a with | some s => !decide (s.1 = 1) && !decide (s.1 = 11) | none => false) = true := by decide +kernel
theorem noTxt {h : XH} (T : HT h) {b : Nat} (hb : b < 468) : ¬ (hk h b = 1 ∨ hk h b = 11) := by
  have := List.all_eq_true.mp ly_noTxt b (List.mem_range.mpr hb)
  cases e : xfind lyS b with
  | none => rw [e] at this; cases this
  | some s =>
    rw [e] at this
    have k := lyk (c := s.1) (n := s.2) T e
    rw [k]
    simp only [Bool.and_eq_true, Bool.not_eq_true', decide_eq_false_iff_not] at this
    omega
/-- texts are the same behind what changes cells of the first 468 only -/
theorem txt_fr {S : Nat → Prop} {h h1 : XH} (T : HT h) (f : Fr S h h1) (s : ∀ b, S b → b < 468) (a : Nat) (ha : hk h a = 1 ∨ hk h a = 11) : sameC h h1 a :=
  f a (by rcases ha with e | e <;> exact hk_lt e (by decide)) (fun z => noTxt T (s a z) ha)
theorem WF_b {N : Nat → Int} {m : Nat} (w : WF N m) : 0 ≤ N 0 ∧ N 0 ≤ 12 ∧ 0 ≤ N 4 ∧ N 4 ≤ 40 := ⟨w.1.1, w.1.2.1, w.1.2.2.1, w.1.2.2.2.1⟩
theorem CS_fr {h h1 : XH} {b : Nat} {N : Nat → Int} {nd : Nat → ND} (f : ∀ j, j < 35 → sameC h h1 (b + j)) (S : ∀ a, hk h a = 1 ∨ hk h a = 11 → sameC h h1 a) (hW : 0 ≤ N 0 ∧ N 0 ≤ 12 ∧ 0 ≤ N 4 ∧ N 4 ≤ 40) (z : CS h b N nd) : CS h1 b N nd := CS_copy (fun j i hj _ => sameC_el (f j hj) i) S hW z
theorem HT_len {h : XH} (T : HT h) : 468 ≤ h.length := T.2.1.2.2.2
theorem nw_fr {h h1 : XH} (e : sameC h h1 438) : nw h1 = nw h := funext fun i => sameC_I e i
theorem pst_fr {h h1 : XH} (e : sameC h h1 439) (k : Nat) : pst h1 k = pst h k := by
  funext i
  unfold pst
  rw [sameC_I e]
/-- o: the oldest copy, u: how many there are -/
def PS (h : XH) (nd : Nat → ND) (m : Nat) (o u : Int) : Prop := (0 ≤ o ∧ o < 10 ∧ 0 ≤ u ∧ u ≤ 10) ∧ hI h 2 9 = o ∧ hI h 2 10 = u ∧ hI h 437 2 = u ∧ hI h 437 3 = (o + u) % 10 ∧ ∀ k : Nat, (k : Int) < u → CS h (bs ((o + k) % 10).toNat) (pst h ((o + k) % 10).toNat) nd ∧ WF (pst h ((o + k) % 10).toNat) m
/-- both have kept their state -/
theorem PS_rec {S : Nat → Prop} {h h1 h2 h3 : XH} {nd : Nat → ND} {m : Nat} {o u : Int} (T : HT h) (C : CS h 8 (nw h) nd) (W : WF (nw h) m) (z : PS h nd m o u) (r : Rmb o u h h1) (F : Fr S h1 h2) (s : ∀ b, S b → b < 86 ∨ b = 437 ∨ (440 ≤ b ∧ b < 468)) (l2 : h1.length ≤ h2.length) (e9 : hI h2 2 9 = hI h1 2 9) (e10 : hI h2 2 10 = hI h1 2 10) (r3 : Rrec ((o + u) % 10) u h2 h3) : ∃ o' u', PS h3 nd m o' u' := by
  obtain ⟨b0, -, -, -, -, z5⟩ := z
  obtain ⟨r1, rl, -, -, rc, rd, -⟩ := r
  obtain ⟨q1, ql, -, q3, q2, -, qn, qp, -⟩ := r3
  have L := HT_len T
  have B := bs_lt (k := ((o + u) % 10).toNat) (by omega)
  -- cells that nobody changes
  have F2 : ∀ b, b < h.length → 86 ≤ b → ¬ b = 437 → ¬ (440 ≤ b ∧ b < 468) → ¬ (bs ((o + u) % 10).toNat ≤ b ∧ b < bs ((o + u) % 10).toNat + 35) → sameC h h2 b := fun b hb h86 n7 n4 n =>
    sameC_tr (r1 b hb (fun y => y.elim (fun y => by omega) n)) (F b (by omega) (fun y => by have := s b y; omega))
  have F3 : ∀ b, b < h.length → 86 ≤ b → ¬ b = 437 → ¬ b = 439 → ¬ (440 ≤ b ∧ b < 468) → ¬ (bs ((o + u) % 10).toNat ≤ b ∧ b < bs ((o + u) % 10).toNat + 35) → sameC h h3 b := fun b hb h86 n1 n2 n4 n =>
    sameC_tr (F2 b hb h86 n1 n4 n) (q1 b (by omega) (fun y => y.elim n1 n2))
  have X : ∀ a, hk h a = 1 ∨ hk h a = 11 → sameC h h3 a := fun a ha => by
    have ha4 : ¬ a < 468 := fun y => noTxt T y ha
    have hal : a < h.length := by rcases ha with e | e <;> exact hk_lt e (by decide)
    exact F3 a hal (by omega) (by omega) (by omega) (by omega) (by omega)
  have en : nw h2 = nw h := nw_fr (F2 438 (by omega) (by omega) (by omega) (by omega) (by omega))
  have ep : ∀ k, pst h2 k = pst h k := fun k => pst_fr (F2 439 (by omega) (by omega) (by omega) (by omega) (by omega)) k
  have new : CS h3 (bs ((o + u) % 10).toNat) (pst h3 ((o + u) % 10).toNat) nd ∧ WF (pst h3 ((o + u) % 10).toNat) m := by
    rw [qn, en]
    refine ⟨CS_copy (h := h) (b := 8) (fun j i hj f => ?_) X (WF_b W) C, W⟩
    rw [sameC_el (q1 (bs ((o + u) % 10).toNat + j) (by omega) (by omega)), sameC_el (F (bs ((o + u) % 10).toNat + j) (by omega) (fun y => by have := s _ y; omega))]
    exact rd j i hj f
  have old : ∀ k : Nat, (k : Int) < u → ¬ ((o + k) % 10) = (o + u) % 10 → CS h3 (bs ((o + k) % 10).toNat) (pst h3 ((o + k) % 10).toNat) nd ∧ WF (pst h3 ((o + k) % 10).toNat) m := fun k hk n => by
    rw [qp _ (by omega) (by omega), ep]
    obtain ⟨y1, y2⟩ := z5 k hk
    have B2 := bs_lt (k := ((o + k) % 10).toNat) (by omega)
    have B3 := bs_ne (k := ((o + k) % 10).toNat) (l := ((o + u) % 10).toNat) (by omega) (by omega) (by omega)
    exact ⟨CS_fr (fun j hj => F3 _ (by omega) (by omega) (by omega) (by omega) (by omega) (by omega)) X (WF_b y2) y1, y2⟩
  have h2' : sameC h2 h3 2 := q1 2 (by omega) (by omega)
  have E9 : hI h3 2 9 = hI h1 2 9 := by rw [sameC_I h2', e9]
  have E10 : hI h3 2 10 = hI h1 2 10 := by rw [sameC_I h2', e10]
  rcases rc with ⟨u1, c9, c10⟩ | ⟨u1, c9, c10⟩
  · refine ⟨o, u + 1, by omega, by rw [E9]; exact c9, by rw [E10]; exact c10, by rw [q2]; omega, by rw [q3]; omega, fun k hk => ?_⟩
    by_cases y : (k : Int) = u
    · rw [y]; exact new
    · exact old k (by omega) (by omega)
  · refine ⟨(o + 1) % 10, 10, by omega, by rw [E9]; exact c9, by rw [E10]; exact c10, by rw [q2]; omega, by rw [q3]; omega, fun k hk => ?_⟩
    by_cases y : k = 9
    · have e : ((o + 1) % 10 + (k : Int)) % 10 = (o + u) % 10 := by omega
      rw [e]; exact new
    · have e : ((o + 1) % 10 + (k : Int)) % 10 = (o + ((k + 1 : Nat) : Int)) % 10 := by omega
      rw [e]; exact old (k + 1) (by omega) (by omega)
/-- both have gone back -/
theorem PS_undo {h h1 h2 : XH} {nd : Nat → ND} {m : Nat} {o u : Int} (T : HT h) (z : PS h nd m o u) (hu : 0 < u) (r : Cund o u h h1) (r2 : Rund ((o + u) % 10) u h1 h2) : PS h2 nd m o (u - 1) ∧ CS h2 8 (nw h2) nd ∧ WF (nw h2) m := by
  obtain ⟨b0, -, -, -, -, z5⟩ := z
  obtain ⟨r1, rl, -, c9, c10, -, rd, -⟩ := r
  obtain ⟨q1, ql, -, -, q2, q3, -, qn, -⟩ := r2
  have L := HT_len T
  have F : ∀ b, b < h.length → ¬ b = 2 → ¬ (8 ≤ b ∧ b < 43) → ¬ b = 437 → ¬ b = 438 → sameC h h2 b := fun b hb n1 n2 n3 n4 =>
    sameC_tr (r1 b hb (fun y => y.elim n1 n2)) (q1 b (by omega) (fun y => y.elim n3 n4))
  have X : ∀ a, hk h a = 1 ∨ hk h a = 11 → sameC h h2 a := fun a ha => by
    have ha4 : ¬ a < 468 := fun y => noTxt T y ha
    have hal : a < h.length := by rcases ha with e | e <;> exact hk_lt e (by decide)
    exact F a hal (by omega) (by omega) (by omega) (by omega)
  have e1 : (((o + u) % 10 + 9) % 10) = (o + ((u - 1).toNat : Int)) % 10 := by omega
  have e2 : (o + u - 1) % 10 = (o + ((u - 1).toNat : Int)) % 10 := by omega
  have ep : ∀ k, pst h2 k = pst h k := fun k => pst_fr (F 439 (by omega) (by omega) (by omega) (by omega) (by omega)) k
  have ep1 : ∀ k, pst h1 k = pst h k := fun k => pst_fr (r1 439 (by omega) (by omega)) k
  have h2' : sameC h1 h2 2 := q1 2 (by omega) (by omega)
  have en : nw h2 = pst h ((o + ((u - 1).toNat : Int)) % 10).toNat := by rw [qn, ep1, e1]
  obtain ⟨y1, y2⟩ := z5 (u - 1).toNat (by omega)
  refine ⟨⟨by omega, by rw [sameC_I h2']; exact c9, by rw [sameC_I h2']; exact c10, q2, by rw [q3]; omega, fun k hk => ?_⟩, ?_, by rw [en]; exact y2⟩
  · rw [ep]
    obtain ⟨x1, x2⟩ := z5 k (by omega)
    have B2 := bs_lt (k := ((o + k) % 10).toNat) (by omega)
    exact ⟨CS_fr (fun j hj => F _ (by omega) (by omega) (by omega) (by omega) (by omega)) X (WF_b x2) x1, x2⟩
  · rw [en]
    refine CS_copy (h := h) (b := bs ((o + ((u - 1).toNat : Int)) % 10).toNat) (fun j i hj f => ?_) X (WF_b y2) y1
    rw [sameC_el (q1 (8 + j) (by omega) (by omega)), rd j i hj f, e2]
