/-! QUESTIONS AND SMALL CALLS -/
theorem h5_0 {h h1 : XH} (T : HT h) {x : Int} (rx : rg x) (e : h1 = sI h 437 5 x) : hI h1 437 5 = x := by rw [e]; exact hI_eq (by rw [(lstn T).2.2.2.2.1]; decide) rx
set_option maxHeartbeats 1000000 in
theorem c_X11_rootOf {p0 : Int} (b : 0 ≤ p0 ∧ p0 < 3) {K : Nat → Prop} {h : XH} (k : K (rc p0.toNat)) : w_X11_rootOf p0 K h := by
  unfold w_X11_rootOf
  refine ⟨_, fun a1 z2 => z2, ?_⟩
  refine ⟨fun c4 => ?_, fun c4 => ?_⟩
  · refine ⟨fun c3 => ?_, fun c3 => ?_⟩
    · obtain rfl : p0 = 0 := by omega
      exact k
    · obtain rfl : p0 = 2 := by omega
      exact k
  · obtain rfl : p0 = 1 := by omega
    exact k
set_option maxHeartbeats 1000000 in
theorem c_X11_atHand {K : Nat → Prop} {h : XH} (b : 0 ≤ hI h 8 4 ∧ hI h 8 4 < 3) (k : K (rc (hI h 8 4).toNat)) : w_X11_atHand K h := by
  unfold w_X11_atHand
  refine c_X11_rootOf b ?_
  exact k
set_option maxHeartbeats 1000000 in
theorem c_X14_rootAt {p0 : Int} (hp : 0 ≤ p0 ∧ p0 < 291) {r : Nat} {K : Int → Prop} {h : XH} (hr : hI h 438 1 = r) (r3 : r < 3) (k : ∀ x, x = nR (nw h) r p0.toNat → K x) : w_X14_rootAt p0 K h := by
  unfold w_X14_rootAt
  intro x1 ex1 rx1
  have e : x1 = 805 + 291 * r + p0 := by
    rw [ex1, hr]
    simp (disch := omega) only [wr_of]
    omega
  refine ⟨(by first | decide | omega | ((try simp (disch := omega) only [wr_of] at *); omega)), ?_⟩
  refine k _ ?_
  show hI h 438 x1.toNat = hI h 438 (805 + 291 * r + p0.toNat)
  rw [show x1.toNat = 805 + 291 * r + p0.toNat by omega]
set_option maxHeartbeats 1000000 in
theorem c_X14_putRoot {p0 p1 : Int} (hp : 0 ≤ p0 ∧ p0 < 291) {r : Nat} {K : XH → Prop} {h : XH} (hr : hI h 438 1 = r) (r3 : r < 3) (k : ∀ h1, h1 = sI h 438 (805 + 291 * r + p0.toNat) p1 → K h1) : w_X14_putRoot p0 p1 K h := by
  unfold w_X14_putRoot
  have e : wr (wr (805 + wr (hI h 438 1 * 291)) + p0) = 805 + 291 * r + p0 := by
    rw [hr]
    simp (disch := omega) only [wr_of]
    omega
  rw [e]
  refine ⟨(by first | decide | omega | ((try simp (disch := omega) only [wr_of] at *); omega)), ?_⟩
  intro h2 eh2 t2 u2
  rw [show (805 + 291 * (r : Int) + p0).toNat = 805 + 291 * r + p0.toNat by omega] at eh2
  exact k _ eh2
set_option maxHeartbeats 1000000 in
theorem c_X14_refused {p0 p1 : Int} {Q : Prop} (qx : bq p0 Q) {K : Int → XH → Prop} {h : XH} (k : ∀ x h1, (x = 0 ∧ Q ∧ h1 = h) ∨ (x = 1 ∧ ¬ Q ∧ h1 = sI h 437 5 p1) → K x h1) : w_X14_refused p0 p1 K h := by
  unfold w_X14_refused
  have Y := bq1 qx
  refine ⟨_, fun h1 t1 s1 z2 => z2, ?_⟩
  refine ⟨fun c8 => ?_, fun c8 => ?_⟩
  · refine ⟨_, fun x3 rx3 z4 => z4, ?_⟩
    refine ⟨fun c6 => ?_, fun c6 => ?_⟩
    · refine ⟨(by first | decide | omega | ((try simp (disch := omega) only [wr_of] at *); omega)), ?_⟩
      first
        | exact absurd c6 c8
        | exact absurd c8 c6
        | exact k _ _ (.inl ⟨rfl, Y.2.2.1.mp c8, rfl⟩)
        | exact k _ _ (.inr ⟨rfl, Y.2.1.mp (by omega), eh7⟩)
    · refine ⟨(by first | decide | omega | ((try simp (disch := omega) only [wr_of] at *); omega)), ?_⟩
      first
        | exact absurd c6 c8
        | exact absurd c8 c6
        | exact k _ _ (.inl ⟨rfl, Y.2.2.1.mp c8, rfl⟩)
        | exact k _ _ (.inr ⟨rfl, Y.2.1.mp (by omega), eh7⟩)
  · intro h7 eh7 t7 u7
    refine ⟨_, fun x3 rx3 z4 => z4, ?_⟩
    refine ⟨fun c6 => ?_, fun c6 => ?_⟩
    · refine ⟨(by first | decide | omega | ((try simp (disch := omega) only [wr_of] at *); omega)), ?_⟩
      first
        | exact absurd c6 c8
        | exact absurd c8 c6
        | exact k _ _ (.inl ⟨rfl, Y.2.2.1.mp c8, rfl⟩)
        | exact k _ _ (.inr ⟨rfl, Y.2.1.mp (by omega), eh7⟩)
    · refine ⟨(by first | decide | omega | ((try simp (disch := omega) only [wr_of] at *); omega)), ?_⟩
      first
        | exact absurd c6 c8
        | exact absurd c8 c6
        | exact k _ _ (.inl ⟨rfl, Y.2.2.1.mp c8, rfl⟩)
        | exact k _ _ (.inr ⟨rfl, Y.2.1.mp (by omega), eh7⟩)
set_option maxHeartbeats 1000000 in
theorem c_X14_thrown {K : Int → Prop} {h : XH} (k : K (hI h 437 5)) : w_X14_thrown K h := by
  unfold w_X14_thrown
  exact k
set_option maxHeartbeats 1000000 in
theorem c_X12_checkPack {p0 : Int} {K : Prop} {E : Nat → XH → Prop} {h : XH} (k0 : ¬ (0 ≤ p0 ∧ p0 < hI h 9 0) → E 2 (nT h)) (k : 0 ≤ p0 → p0 < hI h 9 0 → K) : w_X12_checkPack p0 K E h := by
  unfold w_X12_checkPack
  refine ⟨_, fun z1 => z1, ?_⟩
  refine ⟨fun c3 => ?_, fun c3 => ?_⟩
  · exact k0 (by omega)
  · refine ⟨fun c2 => ?_, fun c2 => ?_⟩
    · exact k (by omega) c2
    · exact k0 (by omega)
set_option maxHeartbeats 1000000 in
theorem c_X12_root {p0 o u : Int} (B0 : 0 ≤ o ∧ o < 10 ∧ 0 ≤ u ∧ u ≤ 10) {h : XH} (T : HT h) (Bo : hI h 2 9 = o) (Bu : hI h 2 10 = u) (Bs : hI h 43 2 = 10) {K : Int → XH → Prop} {E : Nat → XH → Prop} (k0 : ¬ (0 ≤ p0 ∧ p0 < 3) → E 1 (nT h)) (k : 0 ≤ p0 ∧ p0 < 3 → ∀ h2 h4, Rmb o u h h2 → HT h2 → HX h h2 → h4 = sI h2 8 4 p0 → K (hI h2 8 4) h4) : w_X12_root p0 K E h := by
  unfold w_X12_root
  refine ⟨_, fun z1 => z1, ?_⟩
  refine ⟨fun c6 => ?_, fun c6 => ?_⟩
  · exact k0 (by omega)
  · refine ⟨fun c5 => ?_, fun c5 => ?_⟩
    · refine c_X12_remember B0 (by assumption) Bo Bu Bs ?_
      intro h2 qh2
      intro t2 u2
      intro x3 ex3 rx3
      intro h4 eh4 t4 u4
      rw [ex3]
      exact k (by omega) _ _ qh2 t2 u2 eh4
    · exact k0 (by omega)
set_option maxHeartbeats 1000000 in
theorem c_L_root {p1 o u : Int} (B0 : 0 ≤ o ∧ o < 10 ∧ 0 ≤ u ∧ u ≤ 10) {h : XH} (T : HT h) (Bo : hI h 2 9 = o) (Bu : hI h 2 10 = u) (Bs : hI h 43 2 = 10) {K : Int → XH → Prop} (k0 : ¬ (0 ≤ p1 ∧ p1 < 3) → K 1 (nT h)) (k : 0 ≤ p1 ∧ p1 < 3 → ∀ h2 h4 h5, Rmb o u h h2 → HT h2 → HX h h2 → h4 = sI h2 8 4 p1 → HT h4 → HX h2 h4 → h5 = sL h4 467 0 (i2l (hI h2 8 4)) → K 0 h5) : w_L_root p1 K h := by
  unfold w_L_root
  refine c_X12_root B0 T Bo Bu Bs (fun q => ⟨rfl, k0 q⟩) ?_
  intro q g2 h2 qg tg ug eh2
  intro t2 u2
  intro rx1
  intro h5 eh5 t5 u5
  exact k q _ _ _ qg tg ug eh2 t2 (by rw [eh2]; exact HX_sV _ _ _ _) eh5
set_option maxHeartbeats 1000000 in
theorem c_X14_root {p0 q u : Int} (B1 : 0 ≤ q ∧ q < 10 ∧ 0 ≤ u ∧ u ≤ 10) {h : XH} (T : HT h) (Rq : hI h 437 3 = q) (Ru : hI h 437 2 = u) {K : Int → XH → Prop} (k0 : ¬ (0 ≤ p0 ∧ p0 < 3) → ∀ h1 h2, HT h1 → h1 = sI h 437 5 0 → h2 = sI h1 437 5 1 → K 0 h2) (k : 0 ≤ p0 ∧ p0 < 3 → ∀ h1 h5 h7, HT h1 → h1 = sI h 437 5 0 → Rrec q u h1 h5 → HT h5 → h7 = sI h5 438 1 p0 → K (hI h5 438 1) h7) : w_X14_root p0 K h := by
  unfold w_X14_root
  intro h1 eh1 t1 u1
  have Rq1 : hI h1 437 3 = q := by rw [eh1, hI_ni (by decide)]; exact Rq
  have Ru1 : hI h1 437 2 = u := by rw [eh1, hI_ni (by decide)]; exact Ru
  refine c_X14_within ?_
  intro x2 qx2
  intro rx2 vx2
  refine c_X14_refused (by assumption) ?_
  intro x3 h4 qx3
  intro t4 u4
  intro rx3 vx3
  refine ⟨fun c8 => ?_, fun c8 => ?_⟩
  · obtain ⟨b4, e4⟩ : (0 ≤ p0 ∧ p0 ≤ 2) ∧ h4 = h1 := by
      rcases qx3 with ⟨_, y, z⟩ | ⟨y, _⟩
      · exact ⟨y, z⟩
      · omega
    subst e4
    refine c_X14_record B1 t4 Rq1 Ru1 ?_
    intro h5 qh5
    intro t5 u5
    intro x6 ex6 rx6
    intro h7 eh7 t7 u7
    rw [ex6]
    exact k (by omega) _ _ _ t4 eh1 qh5 t5 eh7
  · rcases qx3 with ⟨y, _⟩ | ⟨_, y, e4⟩
    · exact absurd y c8
    · exact k0 (by omega) _ _ t1 eh1 e4
