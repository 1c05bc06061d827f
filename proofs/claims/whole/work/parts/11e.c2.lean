/-! WHICH VERSION -/
set_option maxHeartbeats 1000000 in
theorem c_X8_idOf {p0 p1 : Int} {K : Int → Prop} {h : XH} {N : Nat → Int} {nd : Nat → ND} (C : CSV h 8 N nd) (W : 0 ≤ N 4 ∧ N 4 ≤ 40) (k : ∀ r, isSlot N p0 p1 r → K r) : w_X8_idOf p0 p1 K h := by
  unfold w_X8_idOf
  have E := V80 C
  refine ⟨fun x => 0 ≤ x ∧ x ≤ N 4 ∧ ∀ v : Nat, v < x.toNat → ¬ (nV N v 0 = p0 ∧ nV N v 1 = p1), fun x => (N 4 - x).toNat, ?_, ?_⟩
  · exact ⟨by omega, by omega, fun v hv => by omega⟩
  · intro x1 rx1 z2
    obtain ⟨a1, a2, a3⟩ := z2
    refine ⟨fun c8 => ?_, fun c8 => ?_⟩
    · exact k _ (.inr ⟨rfl, fun v hv => a3 v (by unfold vc at hv; omega)⟩)
    · have V := V8 C (v := x1.toNat) (by unfold vc; omega)
      refine ⟨(by first | decide | omega | ((try simp (disch := omega) only [wr_of] at *); omega)), ?_⟩
      refine ⟨¬ (nV N x1.toNat 0 = p0 ∧ nV N x1.toNat 1 = p1), ?_, ?_⟩
      · intro z4
        intro x5 ex5 rx5
        have e5 : x5 = x1 + 1 := by rw [ex5, wr_of (by omega) (by omega)]
        refine ⟨⟨by omega, by omega, fun v hv => ?_⟩, by dsimp only; omega⟩
        by_cases q : v = x1.toNat
        · rw [q]; exact z4
        · exact a3 v (by omega)
      · refine ⟨fun c7 => ?_, fun c7 => ?_⟩
        · exact fun q => c7 (V.1.trans q.1)
        · refine ⟨fun c6 => ?_, fun c6 => ?_⟩
          · exact fun q => c6 (V.2.1.trans q.2)
          · exact k _ (.inl ⟨a1, by omega, by omega, by omega⟩)
set_option maxHeartbeats 1000000 in
theorem c_X14_slotOf {p0 p1 : Int} {K : Int → Prop} {h : XH} {N : Nat → Int} (eN : N = nw h) (W : 0 ≤ N 4 ∧ N 4 ≤ 40) (k : ∀ r, isSlot N p0 p1 r → K r) : w_X14_slotOf p0 p1 K h := by
  unfold w_X14_slotOf
  have E : hI h 438 4 = N 4 := by rw [eN]; rfl
  refine ⟨fun x => 0 ≤ x ∧ x ≤ N 4 ∧ ∀ v : Nat, v < x.toNat → ¬ (nV N v 0 = p0 ∧ nV N v 1 = p1), fun x => (N 4 - x).toNat, ?_, ?_⟩
  · exact ⟨by omega, by omega, fun v hv => by omega⟩
  · intro x1 rx1 z2
    obtain ⟨a1, a2, a3⟩ := z2
    refine ⟨fun c9 => ?_, fun c9 => ?_⟩
    · exact k _ (.inr ⟨rfl, fun v hv => a3 v (by unfold vc at hv; omega)⟩)
    · have V : ∀ j, hI h 438 (5 + 20 * x1.toNat + j) = nV N x1.toNat j := fun j => by rw [eN]; rfl
      refine c_X14_ver (by omega) ?_
      intro x3 qx3
      intro rx3
      refine ⟨¬ (nV N x1.toNat 0 = p0 ∧ nV N x1.toNat 1 = p1), ?_, ?_⟩
      · intro z4
        intro x5 ex5 rx5
        have e5 : x5 = x1 + 1 := by rw [ex5, wr_of (by omega) (by omega)]
        refine ⟨⟨by omega, by omega, fun v hv => ?_⟩, by dsimp only; omega⟩
        by_cases q : v = x1.toNat
        · rw [q]; exact z4
        · exact a3 v (by omega)
      · refine ⟨fun c8 => ?_, fun c8 => ?_⟩
        · exact fun q => c8 (qx3.trans ((V 0).trans q.1))
        · refine c_X14_ver (by omega) ?_
          intro x6 qx6
          intro rx6
          refine ⟨fun c7 => ?_, fun c7 => ?_⟩
          · exact fun q => c7 (qx6.trans ((V 1).trans q.2))
          · exact k _ (.inl ⟨a1, by omega, by have := V 0; simp only [Int.toNat_zero] at *; omega, by have := V 1; simp only [Int.toNat_one] at *; omega⟩)
