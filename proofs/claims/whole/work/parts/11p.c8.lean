/-! QUOTA -/
theorem rc_k {h : XH} (T : HT h) {r : Nat} (hr : r < 3) : hk h (rc r) = 7 := by
  have : r = 0 ∨ r = 1 ∨ r = 2 := by omega
  rcases this with rfl | rfl | rfl
  · exact lyk (n := 12) T rfl
  · exact lyk (n := 12) T rfl
  · exact lyk (n := 12) T rfl
theorem Rmb_s {h h1 : XH} {o u : Int} (T : HT h) (r : Rmb o u h h1) (b0 : 0 ≤ o ∧ o < 10 ∧ 0 ≤ u ∧ u ≤ 10) {b : Nat} (h8 : 8 ≤ b) (h86 : b < 86) : sameC h h1 b := by
  have L := HT_len T
  have Bs := bs_lt (k := ((o + u) % 10).toNat) (by omega)
  exact r.1 b (by omega) (by omega)
set_option maxHeartbeats 1000000 in
theorem c_X12_quota {p0 o u : Int} (B0 : 0 ≤ o ∧ o < 10 ∧ 0 ≤ u ∧ u ≤ 10) {h : XH} (T : HT h) (Bo : hI h 2 9 = o) (Bu : hI h 2 10 = u) (Bs : hI h 43 2 = 10) (bA : 0 ≤ hI h 8 4 ∧ hI h 8 4 < 3) {K : Int → XH → Prop} {E : Nat → XH → Prop} (k0 : ¬ (0 ≤ p0 ∧ p0 ≤ 40000) → E 1 (nT h)) (k : 0 ≤ p0 ∧ p0 ≤ 40000 → ∀ h2 h8, Rmb o u h h2 → HT h2 → HX h h2 → h8 = sI h2 (rc (hI h 8 4).toNat) 4 p0 → K (hI h2 (rc (hI h 8 4).toNat) 4) h8) : w_X12_quota p0 K E h := by
  unfold w_X12_quota
  refine ⟨_, fun z1 => z1, ?_⟩
  refine ⟨fun c10 => ?_, fun c10 => ?_⟩
  · exact k0 (by omega)
  · refine ⟨fun c9 => ?_, fun c9 => ?_⟩
    · refine c_X12_remember B0 (by assumption) Bo Bu Bs ?_
      intro h2 qh2
      intro t2 u2
      have A2 : hI h2 8 4 = hI h 8 4 := sameC_I (Rmb_s T qh2 B0 (by decide) (by decide)) 4
      refine c_X11_atHand (by rw [A2]; exact bA) ?_
      rw [A2]
      refine ⟨(rc_k t2 (by omega)), ?_⟩
      intro x5 ex5 rx5
      refine c_X11_atHand (by rw [A2]; exact bA) ?_
      rw [A2]
      refine ⟨(rc_k t2 (by omega)), ?_⟩
      intro h8 eh8 t8 u8
      rw [ex5]
      exact k (by omega) _ _ qh2 t2 u2 eh8
    · exact k0 (by omega)
set_option maxHeartbeats 1000000 in
theorem c_L_quota {p1 o u : Int} (B0 : 0 ≤ o ∧ o < 10 ∧ 0 ≤ u ∧ u ≤ 10) {h : XH} (T : HT h) (Bo : hI h 2 9 = o) (Bu : hI h 2 10 = u) (Bs : hI h 43 2 = 10) (bA : 0 ≤ hI h 8 4 ∧ hI h 8 4 < 3) {K : Int → XH → Prop} (k0 : ¬ (0 ≤ p1 ∧ p1 ≤ 40000) → K 1 (nT h)) (k : 0 ≤ p1 ∧ p1 ≤ 40000 → ∀ h2 h4 h5, Rmb o u h h2 → HT h2 → HX h h2 → h4 = sI h2 (rc (hI h 8 4).toNat) 4 p1 → HT h4 → HX h2 h4 → h5 = sL h4 467 0 (i2l (hI h2 (rc (hI h 8 4).toNat) 4)) → K 0 h5) : w_L_quota p1 K h := by
  unfold w_L_quota
  refine c_X12_quota B0 T Bo Bu Bs bA (fun q => ⟨rfl, k0 q⟩) ?_
  intro q g2 h2 qg tg ug eh2
  intro t2 u2
  intro rx1
  intro h5 eh5 t5 u5
  exact k q _ _ _ qg tg ug eh2 t2 (by rw [eh2]; exact HX_sV _ _ _ _) eh5
set_option maxHeartbeats 1000000 in
theorem c_X14_quota {p0 q u : Int} (B1 : 0 ≤ q ∧ q < 10 ∧ 0 ≤ u ∧ u ≤ 10) {h : XH} (T : HT h) (Rq : hI h 437 3 = q) (Ru : hI h 437 2 = u) {r : Nat} (hr : hI h 438 1 = r) (R3 : r < 3) {K : Int → XH → Prop} (k0 : ¬ (0 ≤ p0 ∧ p0 ≤ 40000) → ∀ h1 h2, HT h1 → h1 = sI h 437 5 0 → h2 = sI h1 437 5 1 → K 0 h2) (k : 0 ≤ p0 ∧ p0 ≤ 40000 → ∀ h1 h5 h7, HT h1 → h1 = sI h 437 5 0 → Rrec q u h1 h5 → HT h5 → h7 = sI h5 438 (805 + 291 * r + 22) p0 → K (nR (nw h5) r 22) h7) : w_X14_quota p0 K h := by
  unfold w_X14_quota
  intro h1 eh1 t1 u1
  have Rq1 : hI h1 437 3 = q := by rw [eh1, hI_ni (by decide)]; exact Rq
  have Ru1 : hI h1 437 2 = u := by rw [eh1, hI_ni (by decide)]; exact Ru
  have Hr1 : hI h1 438 1 = r := by rw [eh1, hI_ne (by decide)]; exact hr
  refine c_X14_within ?_
  intro x2 qx2
  intro rx2 vx2
  refine c_X14_refused (by assumption) ?_
  intro x3 h4 qx3
  intro t4 u4
  intro rx3 vx3
  refine ⟨fun c8 => ?_, fun c8 => ?_⟩
  · obtain ⟨b4, e4⟩ : (0 ≤ p0 ∧ p0 ≤ 40000) ∧ h4 = h1 := by
      rcases qx3 with ⟨_, y, z⟩ | ⟨y, _⟩
      · exact ⟨y, z⟩
      · omega
    subst e4
    refine c_X14_record B1 t4 Rq1 Ru1 ?_
    intro h5 qh5
    intro t5 u5
    have Hr : hI h5 438 1 = r := by rw [sameC_I (qh5.1 438 (by have := HT_len t4; omega) (by decide))]; exact Hr1
    refine c_X14_rootAt (by decide) Hr R3 ?_
    intro x6 qx6
    intro rx6
    refine c_X14_putRoot (by decide) Hr R3 ?_
    intro h7 eh7
    intro t7 u7
    rw [qx6]
    exact k (by omega) _ _ _ t4 eh1 qh5 t5 eh7
  · rcases qx3 with ⟨y, _⟩ | ⟨_, y, e4⟩
    · exact absurd y c8
    · exact k0 (by omega) _ _ t1 eh1 e4
