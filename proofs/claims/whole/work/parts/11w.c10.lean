/-! MIRROR -/
set_option maxHeartbeats 1000000 in
theorem c_X12_mirror {o u : Int} (B0 : 0 ≤ o ∧ o < 10 ∧ 0 ≤ u ∧ u ≤ 10) {h : XH} (T : HT h) (Bo : hI h 2 9 = o) (Bu : hI h 2 10 = u) (Bs : hI h 43 2 = 10) {K : Int → XH → Prop} {E : Nat → XH → Prop} (k0 : ¬ hI h 8 6 < 3 → E 0 (nT h)) (k : hI h 8 6 < 3 → ∀ h1 h3, Rmb o u h h1 → HT h1 → HX h h1 → h3 = sI h1 8 6 (wr (hI h1 8 6 + 1)) → K (hI h1 8 6) h3) : w_X12_mirror K E h := by
  unfold w_X12_mirror
  refine ⟨fun c4 => ?_, fun c4 => ?_⟩
  · refine c_X12_remember B0 (by assumption) Bo Bu Bs ?_
    intro h1 qh1
    intro t1 u1
    intro x2 ex2 rx2
    intro h3 eh3 t3 u3
    rw [ex2]
    exact k c4 _ _ qh1 t1 u1 eh3
  · exact k0 c4
set_option maxHeartbeats 1000000 in
theorem c_L_mirror {o u : Int} (B0 : 0 ≤ o ∧ o < 10 ∧ 0 ≤ u ∧ u ≤ 10) {h : XH} (T : HT h) (Bo : hI h 2 9 = o) (Bu : hI h 2 10 = u) (Bs : hI h 43 2 = 10) {K : Int → XH → Prop} (k0 : ¬ hI h 8 6 < 3 → K 1 (nT h)) (k : hI h 8 6 < 3 → ∀ h2 h4 h5, Rmb o u h h2 → HT h2 → HX h h2 → h4 = sI h2 8 6 (wr (hI h2 8 6 + 1)) → HT h4 → HX h2 h4 → h5 = sL h4 467 0 (i2l (hI h2 8 6)) → K 0 h5) : w_L_mirror K h := by
  unfold w_L_mirror
  refine c_X12_mirror B0 T Bo Bu Bs (fun q => ⟨rfl, k0 q⟩) ?_
  intro q g2 h2 qg tg ug eh2
  intro t2 u2
  intro rx1
  intro h5 eh5 t5 u5
  exact k q _ _ _ qg tg ug eh2 t2 (by rw [eh2]; exact HX_sV _ _ _ _) eh5
set_option maxHeartbeats 1000000 in
theorem c_X14_mirror {q u : Int} (B1 : 0 ≤ q ∧ q < 10 ∧ 0 ≤ u ∧ u ≤ 10) {h : XH} (T : HT h) (Rq : hI h 437 3 = q) (Ru : hI h 437 2 = u) {K : Int → XH → Prop} (k0 : ¬ hI h 438 3 < 3 → ∀ h1 h2, HT h1 → h1 = sI h 437 5 0 → h2 = sI h1 437 5 1 → K 0 h2) (k : hI h 438 3 < 3 → ∀ h1 h5 h7, HT h1 → h1 = sI h 437 5 0 → Rrec q u h1 h5 → HT h5 → h7 = sI h5 438 3 (wr (hI h5 438 3 + 1)) → K (wr (hI h7 438 3 - 1)) h7) : w_X14_mirror K h := by
  unfold w_X14_mirror
  intro h1 eh1 t1 u1
  have Rq1 : hI h1 437 3 = q := by rw [eh1, hI_ni (by decide)]; exact Rq
  have Ru1 : hI h1 437 2 = u := by rw [eh1, hI_ni (by decide)]; exact Ru
  have s1 : hI h1 438 3 = hI h 438 3 := by rw [eh1, hI_ne (by decide)]
  refine ⟨_, fun x2 rx2 z3 => z3, ?_⟩
  refine ⟨fun c9 => ?_, fun c9 => ?_⟩
  · refine c_X14_refused (bqF (Q := hI h1 438 3 < 3) (by omega)) ?_
    intro x4 h5 qx4
    intro t5 u5
    intro rx4 vx4
    refine ⟨fun c8 => ?_, fun c8 => ?_⟩
    · obtain ⟨b4, e4⟩ : hI h1 438 3 < 3 ∧ h5 = h1 := by
        rcases qx4 with ⟨_, y, z⟩ | ⟨y, _⟩
        · exact ⟨y, z⟩
        · omega
      subst e4
      refine c_X14_record B1 t5 Rq1 Ru1 ?_
      intro h6 qh6
      intro t6 u6
      intro h7 eh7 t7 u7
      first
        | exact k (by rw [← s1]; exact b4) _ _ _ t5 eh1 qh6 t6 eh7
        | (rcases qx4 with ⟨y, _⟩ | ⟨_, y, e4⟩
           · exact absurd y c8
           · exact k0 (by rw [← s1]; exact y) _ _ t1 eh1 e4)
    · first
        | exact k (by rw [← s1]; exact b4) _ _ _ t5 eh1 qh6 t6 eh7
        | (rcases qx4 with ⟨y, _⟩ | ⟨_, y, e4⟩
           · exact absurd y c8
           · exact k0 (by rw [← s1]; exact y) _ _ t1 eh1 e4)
  · refine c_X14_refused (bqT (Q := hI h1 438 3 < 3) (by omega)) ?_
    intro x4 h5 qx4
    intro t5 u5
    intro rx4 vx4
    refine ⟨fun c8 => ?_, fun c8 => ?_⟩
    · obtain ⟨b4, e4⟩ : hI h1 438 3 < 3 ∧ h5 = h1 := by
        rcases qx4 with ⟨_, y, z⟩ | ⟨y, _⟩
        · exact ⟨y, z⟩
        · omega
      subst e4
      refine c_X14_record B1 t5 Rq1 Ru1 ?_
      intro h6 qh6
      intro t6 u6
      intro h7 eh7 t7 u7
      first
        | exact k (by rw [← s1]; exact b4) _ _ _ t5 eh1 qh6 t6 eh7
        | (rcases qx4 with ⟨y, _⟩ | ⟨_, y, e4⟩
           · exact absurd y c8
           · exact k0 (by rw [← s1]; exact y) _ _ t1 eh1 e4)
    · first
        | exact k (by rw [← s1]; exact b4) _ _ _ t5 eh1 qh6 t6 eh7
        | (rcases qx4 with ⟨y, _⟩ | ⟨_, y, e4⟩
           · exact absurd y c8
           · exact k0 (by rw [← s1]; exact y) _ _ t1 eh1 e4)
