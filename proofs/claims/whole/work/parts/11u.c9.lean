/-! SETS AS THE REFERENCE HAS THEM -/
def n12 : Nat := xcs (some (.inr (0, List.replicate 12 (v0 0))))
/-- a row of 12 numbers was made from the place p of the row at hand on -/
def SA (h h1 : XH) (a p : Nat) : Prop := Fr (fun _ => False) h h1 ∧ Gr 1 n12 h h1 ∧ h.length ≤ a ∧ hk h1 a = 100 ∧ hn h1 a = 12 ∧ ∀ i, i < 12 → hI h1 a i = hI h 438 (p + i)
set_option maxHeartbeats 1000000 in
theorem c_X14_setAt {p0 : Int} {K : Nat → XH → Prop} {h : XH} (T : HT h) (hp : 0 ≤ p0 ∧ p0 + 12 ≤ 1957) (k : ∀ a h1, SA h h1 a p0.toNat → K a h1) : w_X14_setAt p0 K h := by
  unfold w_X14_setAt
  have L := HT_len T
  intro a1 h2 ea1 eh2 t2 u2 ca1 la1
  refine ⟨(by rw [la1]; omega), ?_⟩
  intro h4 eh4 t4 u4
  have s2 : ∀ b, b < h.length → sameC h h2 b := fun b hb => by rw [eh2]; exact sameC_app hb
  have e4 : ∀ j, el h4 a1 j = if 0 ≤ j ∧ j < 0 + 12 then el h2 438 (p0.toNat + (j - 0)) else el h2 a1 j := fun j => by
    rw [eh4]
    exact el_cA (t := t2) (u := 0) (lstn t2).2.2.2.2.2.2.2.1 ca1 (by decide) (by rw [(lstn t2).2.2.2.2.2.1]; omega) (by rw [la1]; omega) j
  refine k _ _ ⟨fun b hb _ => sameC_tr (s2 b hb) (by rw [eh4]; exact sameC_cA (by omega)), ⟨?_, ?_⟩, by omega, (HX_hk u4 ca1 (by decide)), ?_, fun i hi => ?_⟩
  · rw [eh4, len_cA, eh2]
    unfold nA
    rw [len_app]
    omega
  · rw [eh4, xhs_cA (t := t2) (u := 0) (lstn t2).2.2.2.2.2.2.2.1 ca1 (by decide) (by rw [(lstn t2).2.2.2.2.2.1]; omega) (by rw [la1]; omega), eh2, xhs_nA]
    unfold n12
    omega
  · show (sh (xcell h4 a1)).2 = 12
    rw [u4.2 a1 (hk_lt ca1 (by decide))]
    exact la1
  · unfold hI
    rw [e4, if_pos ⟨by omega, by omega⟩, Nat.sub_zero, sameC_el (s2 438 (by omega))]
set_option maxHeartbeats 1000000 in
theorem c_X14_goalSet {r : Nat} {K : Nat → XH → Prop} {h : XH} (T : HT h) (hr : hI h 438 1 = r) (R3 : r < 3) (k : ∀ a h1, SA h h1 a (805 + 291 * r + 35) → K a h1) : w_X14_goalSet K h := by
  unfold w_X14_goalSet
  have E : wr (wr (805 + wr (hI h 438 1 * 291)) + 35) = 805 + 291 * r + 35 := by
    rw [hr]
    simp (disch := omega) only [wr_of]
    omega
  rw [E]
  refine c_X14_setAt T (by omega) ?_
  intro a1 h2 qa1
  intro t2 u2
  rw [show (805 + 291 * (r : Int) + 35).toNat = 805 + 291 * r + 35 by omega] at qa1
  exact k _ _ qa1
set_option maxHeartbeats 1000000 in
theorem c_X14_isOnIn {p0 : Nat} {p1 : Int} {K : Int → Prop} {h : XH} (hk0 : hk h p0 = 100) (hp : 0 ≤ p1 ∧ p1 < (hn h p0 : Int)) (k : ∀ x, bq x (1000000 ≤ hI h p0 p1.toNat) → K x) : w_X14_isOnIn p0 p1 K h := by
  unfold w_X14_isOnIn
  refine ⟨hk0, ?_⟩
  refine ⟨hp, ?_⟩
  refine ⟨_, fun x3 rx3 z4 => z4, ?_⟩
  refine ⟨fun c6 => ?_, fun c6 => ?_⟩
  · refine ⟨(by first | decide | omega | ((try simp (disch := omega) only [wr_of] at *); omega)), ?_⟩
    exact k _ (bqF (by omega))
  · refine ⟨(by first | decide | omega | ((try simp (disch := omega) only [wr_of] at *); omega)), ?_⟩
    exact k _ (bqT (by omega))
set_option maxHeartbeats 1000000 in
theorem c_X14_isOn {p0 : Int} {r : Nat} {K : Int → XH → Prop} {h : XH} (T : HT h) (hr : hI h 438 1 = r) (R3 : r < 3) (w : 0 ≤ hI h 438 0 ∧ hI h 438 0 ≤ 12) (k0 : ¬ (0 ≤ p0 ∧ p0 < hI h 438 0) → ∀ h1 h2, HT h1 → h1 = sI h 437 5 0 → h2 = sI h1 437 5 1 → K 0 h2) (k : 0 ≤ p0 ∧ p0 < hI h 438 0 → ∀ h1 h2 a x, HT h1 → h1 = sI h 437 5 0 → SA h1 h2 a (805 + 291 * r + 35) → bq x (1000000 ≤ hI h1 438 (805 + 291 * r + 35 + p0.toNat)) → K x h2) : w_X14_isOn p0 K h := by
  unfold w_X14_isOn
  intro h1 eh1 t1 u1
  have s1 : ∀ j, hI h1 438 j = hI h 438 j := fun j => by rw [eh1, hI_ne (by decide)]
  have W0 : 0 ≤ hI h1 438 0 := by rw [s1]; exact w.1
  refine c_X14_isPack ?_ (by omega)
  intro x2 qx2
  intro rx2 vx2
  refine c_X14_refused (by assumption) ?_
  intro x3 h4 qx3
  intro t4 u4
  intro rx3 vx3
  refine ⟨_, fun x5 h6 t6 s6 rx5 z7 => z7, ?_⟩
  refine ⟨_, fun h9 t9 s9 z10 => z10, ?_⟩
  refine ⟨fun c15 => ?_, fun c15 => ?_⟩
  · have Q : ¬ (0 ≤ p0 ∧ p0 < hI h1 438 0) ∧ h4 = sI h1 437 5 1 := by
      rcases qx3 with ⟨y, _⟩ | ⟨_, y, z⟩
      · exact absurd y c15
      · exact ⟨y, z⟩
    rw [s1] at Q
    refine ⟨(by first | decide | omega | ((try simp (disch := omega) only [wr_of] at *); omega)), ?_⟩
    exact k0 Q.1 _ _ t1 eh1 Q.2
  · obtain ⟨b4, e4⟩ : (0 ≤ p0 ∧ p0 < hI h1 438 0) ∧ h4 = h1 := by
      rcases qx3 with ⟨_, y, z⟩ | ⟨y, _⟩
      · exact ⟨y, z⟩
      · omega
    subst e4
    rw [s1] at b4
    refine c_X14_goalSet t4 ((s1 1).trans hr) R3 ?_
    intro a11 h12 qa11
    intro t12 u12
    refine c_X14_isOnIn qa11.2.2.2.1 (by rw [qa11.2.2.2.2.1]; omega) ?_
    intro x13 qx13
    rw [qa11.2.2.2.2.2 p0.toNat (by omega)] at qx13
    intro rx13 vx13
    refine ⟨fun c14 => ?_, fun c14 => ?_⟩
    · refine ⟨(by first | decide | omega | ((try simp (disch := omega) only [wr_of] at *); omega)), ?_⟩
      exact k b4 _ _ a11 _ t4 eh1 qa11 (by rw [← c14]; exact qx13)
    · refine ⟨(by first | decide | omega | ((try simp (disch := omega) only [wr_of] at *); omega)), ?_⟩
      exact k b4 _ _ a11 _ t4 eh1 qa11 (by rw [show (1 : Int) = x13 by omega]; exact qx13)
theorem and_bit1 {s : BitVec 64} {n : Nat} (h : n < 64) : s &&& bit1 n = 0#64 ↔ s.getLsbD n = false := by
  rw [bvz]
  constructor
  · intro e
    have := e n h
    rw [BitVec.getLsbD_and, bit1_at h, decide_eq_true rfl, Bool.and_true] at this
    exact this
  · intro e j hj
    rw [BitVec.getLsbD_and, bit1_at h]
    by_cases z : j = n
    · rw [z, e]; rfl
    · simp [z]
theorem i2l_0 : i2l 0 = 0#64 := by decide
theorem i2l_1 : i2l 1 = 1#64 := by decide
set_option maxHeartbeats 1000000 in
theorem c_X12_isOn {p0 : Int} {K : Int → Prop} {E : Nat → XH → Prop} {h : XH} (T : HT h) (bA : 0 ≤ hI h 8 4 ∧ hI h 8 4 < 3) (w : hI h 9 0 ≤ 12) (k0 : ¬ (0 ≤ p0 ∧ p0 < hI h 9 0) → E 2 (nT h)) (k : 0 ≤ p0 ∧ p0 < hI h 9 0 → ∀ x, bq x ((hL h (rc (hI h 8 4).toNat) 5).getLsbD (40 + p0.toNat) = true) → K x) : w_X12_isOn p0 K E h := by
  unfold w_X12_isOn
  refine c_X12_checkPack k0 (fun q1 q2 => ?_)
  refine c_X11_atHand bA ?_
  refine ⟨(rc_k T (by omega)), ?_⟩
  refine c_X12_switchOf (by omega) ?_
  refine ⟨_, fun x4 rx4 z5 => z5, ?_⟩
  refine ⟨fun c7 => ?_, fun c7 => ?_⟩
  · refine ⟨(by first | decide | omega | ((try simp (disch := omega) only [wr_of] at *); omega)), ?_⟩
    exact k ⟨q1, q2⟩ _ (bqF (by rw [(and_bit1 (by omega)).mp c7]; decide))
  · refine ⟨(by first | decide | omega | ((try simp (disch := omega) only [wr_of] at *); omega)), ?_⟩
    refine k ⟨q1, q2⟩ _ (bqT ?_)
    cases e : (hL h (rc (hI h 8 4).toNat) 5).getLsbD (40 + p0.toNat) with
    | true => rfl
    | false => exact absurd ((and_bit1 (by omega)).mpr e) c7
set_option maxHeartbeats 1000000 in
theorem c_L_isOn {p1 : Int} {K : Int → XH → Prop} {h : XH} (T : HT h) (bA : 0 ≤ hI h 8 4 ∧ hI h 8 4 < 3) (w : hI h 9 0 ≤ 12) (k0 : ¬ (0 ≤ p1 ∧ p1 < hI h 9 0) → K 1 (nT h)) (k : 0 ≤ p1 ∧ p1 < hI h 9 0 → ∀ x h6, bq x ((hL h (rc (hI h 8 4).toNat) 5).getLsbD (40 + p1.toNat) = true) → h6 = sL h 467 0 (i2l x) → K 0 h6) : w_L_isOn p1 K h := by
  unfold w_L_isOn
  refine c_X12_isOn T bA w (fun q => ⟨rfl, k0 q⟩) ?_
  intro q x1 qx1
  intro rx1 vx1
  refine ⟨_, fun b4 z5 => z5, ?_⟩
  refine ⟨fun c7 => ?_, fun c7 => ?_⟩
  · intro h6 eh6 t6 u6
    exact k q _ _ qx1 (by rw [c7, i2l_0]; exact eh6)
  · intro h6 eh6 t6 u6
    exact k q _ _ qx1 (by rw [show x1 = 1 by omega, i2l_1]; exact eh6)
