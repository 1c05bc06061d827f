/-! PLAN, PLANAT -/
set_option maxHeartbeats 1000000 in
theorem c_X12_checkGoalSound {h : XH} {N : Nat → Int} {nd : Nat → ND} {m : Nat} (T : HT h) (C : CS h 8 N nd) (W : WF N m) (dk : DK nd m) (CC : CaC h N nd) {K : XH → Prop} {E : Nat → XH → Prop} (k0 : ¬ sndP N nd (goal N (rh N)) → ∀ g, HT g → CSt h g N nd → E 0 (nT g)) (k : sndP N nd (goal N (rh N)) → ∀ g, HT g → CSt h g N nd → CaC g N nd → 1 ≤ hI g 2 11 → MetOK g N nd → K g) : w_X12_checkGoalSound K E h := by
  unfold w_X12_checkGoalSound
  refine c_X12_knowMet T C W dk CC ?_
  intro h1 s1 cc1 k1 m1
  intro t1 u1
  have C1 := CSt_CS T C W s1
  refine c_atH C1 W ?_
  refine ⟨(rc_k t1 (rh_lt W)), ?_⟩
  refine c_X3_isSoundSet t1 C1 W dk m1 ?_
  intro x4 qx4
  replace qx4 := bq_iff qx4 (snd_F W.1 dk (CS_g C1 (rh_lt W)))
  intro rx4 vx4
  refine ⟨fun c5 => ?_, fun c5 => ?_⟩
  · exact k ((bq1 qx4).2.2.1.mp c5) _ t1 s1 cc1 k1 m1
  · exact k0 ((bq1 qx4).2.1.mp (Decidable.not_not.mp c5)) _ t1 s1
set_option maxHeartbeats 1000000 in
theorem c_X12_plan {h : XH} {N : Nat → Int} {nd : Nat → ND} {m : Nat} (T : HT h) (C : CS h 8 N nd) (W : WF N m) (dk : DK nd m) (CC : CaC h N nd) {K : Int → XH → Prop} {E : Nat → XH → Prop} (k0 : ¬ sndP N nd (goal N (rh N)) → ∀ g, HT g → CSt h g N nd → E 0 (nT g)) (k : sndP N nd (goal N (rh N)) → ∀ g, HT g → CSt h g N nd → K (((stepsOf N nd (inst N (rh N)) (goal N (rh N))).length : Nat)) g) : w_X12_plan K E h := by
  unfold w_X12_plan
  refine c_X12_checkGoalSound T C W dk CC k0 (fun q1 h1 t1 s1 cc1 k1 m1 => ?_)
  have C1 := CSt_CS T C W s1
  intro _ u1
  refine c_X2_findSteps t1 C1 W dk m1 ?_
  intro h2 f2 l2 y2 e2 e79 e85
  intro t2 u2
  have s2 := CSt_tr s1 (CSt_s (nd := nd) (N := N) t1 (Fr_mono f2 (fun b y => by omega)) l2 y2)
  rw [e79]
  exact k q1 _ t2 s2
set_option maxHeartbeats 1000000 in
theorem c_X12_planAt {p0 : Int} {h : XH} {N : Nat → Int} {nd : Nat → ND} {m : Nat} (T : HT h) (C : CS h 8 N nd) (W : WF N m) (dk : DK nd m) (CC : CaC h N nd) {K : Int → XH → Prop} {E : Nat → XH → Prop} (k0 : ¬ sndP N nd (goal N (rh N)) → ∀ g, HT g → CSt h g N nd → E 0 (nT g)) (k1 : sndP N nd (goal N (rh N)) → ¬ (0 ≤ p0 ∧ p0 < ((stepsOf N nd (inst N (rh N)) (goal N (rh N))).length : Nat)) → ∀ g, HT g → CSt h g N nd → E 2 (nT g)) (k : sndP N nd (goal N (rh N)) → (0 ≤ p0 ∧ p0 < ((stepsOf N nd (inst N (rh N)) (goal N (rh N))).length : Nat)) → ∀ g, HT g → CSt h g N nd → K ((((stepsOf N nd (inst N (rh N)) (goal N (rh N))).getD p0.toNat 0 : Nat) : Int)) g) : w_X12_planAt p0 K E h := by
  unfold w_X12_planAt
  have sl := stepsL_len (N := N) (nd := nd) (g := goal N (rh N)) 12 (inst N (rh N)) (orM 12 (fun p => !decide (inst N (rh N) p = goal N (rh N) p)))
  have se : stepsOf N nd (inst N (rh N)) (goal N (rh N)) = stepsL N nd (goal N (rh N)) 12 (inst N (rh N)) (orM 12 (fun p => !decide (inst N (rh N) p = goal N (rh N) p))) := rfl
  refine c_X12_checkGoalSound T C W dk CC k0 (fun q1 h1 t1 s1 cc1 k1_ m1 => ?_)
  have C1 := CSt_CS T C W s1
  intro _ u1
  refine c_X2_findSteps t1 C1 W dk m1 ?_
  intro h2 f2 l2 y2 e2 e79 e85
  intro t2 u2
  have s2 := CSt_tr s1 (CSt_s (nd := nd) (N := N) t1 (Fr_mono f2 (fun b y => by omega)) l2 y2)
  refine ⟨¬ (0 ≤ p0 ∧ p0 < ((stepsOf N nd (inst N (rh N)) (goal N (rh N))).length : Nat)), ?_, ?_⟩
  · intro z3
    exact k1 q1 z3 _ t2 s2
  · refine ⟨fun c6 => ?_, fun c6 => ?_⟩
    · omega
    · refine ⟨fun c5 => ?_, fun c5 => ?_⟩
      · refine ⟨(by rw [← se] at sl; omega), ?_⟩
        rw [e85 p0.toNat (by omega)]
        exact k q1 ⟨by omega, by omega⟩ _ t2 s2
      · omega
set_option maxHeartbeats 1000000 in
theorem c_L_plan {h : XH} {N : Nat → Int} {nd : Nat → ND} {m : Nat} (T : HT h) (C : CS h 8 N nd) (W : WF N m) (dk : DK nd m) (CC : CaC h N nd) {K : Int → XH → Prop} (k0 : ¬ sndP N nd (goal N (rh N)) → ∀ g, HT g → CSt h g N nd → K 1 (nT g)) (k : sndP N nd (goal N (rh N)) → ∀ g g6, HT g → CSt h g N nd → g6 = sL g 467 0 (i2l (((stepsOf N nd (inst N (rh N)) (goal N (rh N))).length : Nat))) → K 0 g6) : w_L_plan K h := by
  unfold w_L_plan
  refine c_X12_plan T C W dk CC (fun q g t s => ⟨rfl, k0 q g t s⟩) (fun q g t s => ?_)
  intro tx ux _
  intro h5 eh5 t5 u5
  exact k q _ _ t s eh5
set_option maxHeartbeats 1000000 in
theorem c_L_planAt {p1 : Int} {h : XH} {N : Nat → Int} {nd : Nat → ND} {m : Nat} (T : HT h) (C : CS h 8 N nd) (W : WF N m) (dk : DK nd m) (CC : CaC h N nd) {K : Int → XH → Prop} (k0 : ¬ sndP N nd (goal N (rh N)) → ∀ g, HT g → CSt h g N nd → K 1 (nT g)) (k1 : sndP N nd (goal N (rh N)) → ¬ (0 ≤ p1 ∧ p1 < ((stepsOf N nd (inst N (rh N)) (goal N (rh N))).length : Nat)) → ∀ g, HT g → CSt h g N nd → K 2 (nT g)) (k : sndP N nd (goal N (rh N)) → (0 ≤ p1 ∧ p1 < ((stepsOf N nd (inst N (rh N)) (goal N (rh N))).length : Nat)) → ∀ g g6, HT g → CSt h g N nd → g6 = sL g 467 0 (i2l ((((stepsOf N nd (inst N (rh N)) (goal N (rh N))).getD p1.toNat 0 : Nat) : Int))) → K 0 g6) : w_L_planAt p1 K h := by
  unfold w_L_planAt
  refine c_X12_planAt T C W dk CC (fun q g t s => .inl ⟨rfl, k0 q g t s⟩) (fun q w g t s => .inr ⟨rfl, k1 q w g t s⟩) (fun q w g t s => ?_)
  intro tx ux _
  intro h5 eh5 t5 u5
  exact k q w _ _ t s eh5
set_option maxHeartbeats 1000000 in
theorem c_X14_plan {nd : Nat → ND} {h : XH} {N : Nat → Int} {m : Nat} (T : HT h) (eN : N = nw h) (W : WF N m) (Z : NTm h nd m) (fg : fOK N (goal N (rh N))) (fi : fOK N (inst N (rh N))) {K : Int → XH → Prop} (k0 : ¬ sndP N nd (goal N (rh N)) → ∀ h1 h2 h3, HT h1 → h1 = sI h 437 5 0 → RSt h1 h2 nd 3 (3 * n12) → HT h2 → h3 = sI h2 437 5 1 → K 0 h3) (k : sndP N nd (goal N (rh N)) → ∀ h1 h2, HT h1 → h1 = sI h 437 5 0 → RSt h1 h2 nd 3 (3 * n12) → K (((stepsOf N nd (inst N (rh N)) (goal N (rh N))).length : Nat)) h2) : w_X14_plan K h := by
  unfold w_X14_plan
  intro h1 eh1 t1 u1
  have eN1 : N = nw h1 := eN.trans (nw_fr (by rw [eh1]; exact sameC_sV (by decide))).symm
  have Z1 := NTm_5 T eh1 Z
  have L1 := HT_len t1
  refine c_gS t1 eN1 W ?_
  intro a2 h3 f3 g3 l3 A3
  intro t3 u3
  have eN3 : N = nw h3 := eN1.trans (nw_F t1 f3).symm
  have Z3 : NTm h3 nd m := NTm_fr t1 (fun b x _ => f3 b x id) (fun j _ => sameC_el (f3 437 (by omega) id) j) Z1
  have r3 := RSt_a (nd := nd) t1 f3 g3 u3.1
  have L3 := HT_len t3
  refine c_X14_isSoundSet t3 eN3 W Z3 A3 fg ?_
  intro x4 qx4
  intro rx4 vx4
  refine c_X14_refused qx4 ?_
  intro x5 h6 qx5
  intro t6 u6
  intro rx5 vx5
  refine ⟨fun c10 => ?_, fun c10 => ?_⟩
  · have q1 : sndP N nd (goal N (rh N)) := by
      rcases qx5 with ⟨_, y, _⟩ | ⟨y, _⟩
      · exact y
      · omega
    obtain rfl : h6 = h3 := by
      rcases qx5 with ⟨_, _, y⟩ | ⟨y, _⟩
      · exact y
      · omega
    refine c_iS t6 eN3 W ?_
    intro a7 h8 f8 g8 l8 A8
    intro t8 u8
    have eN8 : N = nw h8 := eN3.trans (nw_F t6 f8).symm
    have Z8 : NTm h8 nd m := NTm_fr t6 (fun b x _ => f8 b x id) (fun j _ => sameC_el (f8 437 (by omega) id) j) Z3
    have A28 := AR_fr (f8 a2 (hk_lt A3.1 (by decide)) id) A3
    have r8 := RSt_tr t1 u3.1 r3 (RSt_a (nd := nd) t6 f8 g8 u8.1)
    have L8 := HT_len t8
    refine c_X14_findSteps t8 eN8 W Z8 A8 A28 fi fg (by omega) (by omega) ?_
    intro h9 f9 l9 g9 e9 e63 e66
    intro t9 u9
    have r9 : RSt h1 h9 nd (1 + 1 + 1) (n12 + n12 + n12) := by
      refine RSt_tr t1 (Nat.le_trans u3.1 u8.1) r8 ⟨fun z => CaR_fr (fun b x y => f9 b y (by omega)) (fun j hj => e9 j (by omega)) L8 z, Fr_mono f9 (fun b y => ?_), fun j hj => e9 j (by omega), g9, l9, fun j hj => (congrArg gvR (e9 j (by unfold owP at hj; omega)))⟩
      unfold RS
      omega
    rw [e63]
    exact k q1 _ _ t1 eh1 (RSt_mono r9 (by omega) (by omega))
  · have q_ : ¬ sndP N nd (goal N (rh N)) ∧ h6 = sI h3 437 5 1 := by
      rcases qx5 with ⟨y, _⟩ | ⟨_, y, z⟩
      · omega
      · exact ⟨y, z⟩
    exact k0 q_.1 _ _ _ t1 eh1 (RSt_mono r3 (by omega) (by omega)) t3 q_.2
set_option maxHeartbeats 1000000 in
theorem c_X14_planAt {p0 : Int} {nd : Nat → ND} {h : XH} {N : Nat → Int} {m : Nat} (T : HT h) (eN : N = nw h) (W : WF N m) (Z : NTm h nd m) (fg : fOK N (goal N (rh N))) (fi : fOK N (inst N (rh N))) {K : Int → XH → Prop} (k0 : ¬ sndP N nd (goal N (rh N)) → ∀ h1 h2 h3, HT h1 → h1 = sI h 437 5 0 → RSt h1 h2 nd 3 (3 * n12) → HT h2 → h3 = sI h2 437 5 1 → K 0 h3) (k1 : sndP N nd (goal N (rh N)) → ¬ (0 ≤ p0 ∧ p0 < ((stepsOf N nd (inst N (rh N)) (goal N (rh N))).length : Nat)) → ∀ h1 h2 h3, HT h1 → h1 = sI h 437 5 0 → RSt h1 h2 nd 3 (3 * n12) → HT h2 → h3 = sI h2 437 5 2 → K 0 h3) (k : sndP N nd (goal N (rh N)) → (0 ≤ p0 ∧ p0 < ((stepsOf N nd (inst N (rh N)) (goal N (rh N))).length : Nat)) → ∀ h1 h2, HT h1 → h1 = sI h 437 5 0 → RSt h1 h2 nd 3 (3 * n12) → K ((((stepsOf N nd (inst N (rh N)) (goal N (rh N))).getD p0.toNat 0 : Nat) : Int)) h2) : w_X14_planAt p0 K h := by
  unfold w_X14_planAt
  have sl := stepsL_len (N := N) (nd := nd) (g := goal N (rh N)) 12 (inst N (rh N)) (orM 12 (fun p => !decide (inst N (rh N) p = goal N (rh N) p)))
  have se : stepsOf N nd (inst N (rh N)) (goal N (rh N)) = stepsL N nd (goal N (rh N)) 12 (inst N (rh N)) (orM 12 (fun p => !decide (inst N (rh N) p = goal N (rh N) p))) := rfl
  rw [← se] at sl
  intro h1 eh1 t1 u1
  have eN1 : N = nw h1 := eN.trans (nw_fr (by rw [eh1]; exact sameC_sV (by decide))).symm
  have Z1 := NTm_5 T eh1 Z
  have L1 := HT_len t1
  refine c_gS t1 eN1 W ?_
  intro a2 h3 f3 g3 l3 A3
  intro t3 u3
  have eN3 : N = nw h3 := eN1.trans (nw_F t1 f3).symm
  have Z3 : NTm h3 nd m := NTm_fr t1 (fun b x _ => f3 b x id) (fun j _ => sameC_el (f3 437 (by omega) id) j) Z1
  have r3 := RSt_a (nd := nd) t1 f3 g3 u3.1
  have L3 := HT_len t3
  refine c_X14_isSoundSet t3 eN3 W Z3 A3 fg ?_
  intro x4 qx4
  intro rx4 vx4
  refine c_X14_refused qx4 ?_
  intro x5 h6 qx5
  intro t6 u6
  intro rx5 vx5
  refine ⟨fun c17 => ?_, fun c17 => ?_⟩
  · have q1 : sndP N nd (goal N (rh N)) := by
      rcases qx5 with ⟨_, y, _⟩ | ⟨y, _⟩
      · exact y
      · omega
    obtain rfl : h6 = h3 := by
      rcases qx5 with ⟨_, _, y⟩ | ⟨y, _⟩
      · exact y
      · omega
    refine c_iS t6 eN3 W ?_
    intro a7 h8 f8 g8 l8 A8
    intro t8 u8
    have eN8 : N = nw h8 := eN3.trans (nw_F t6 f8).symm
    have Z8 : NTm h8 nd m := NTm_fr t6 (fun b x _ => f8 b x id) (fun j _ => sameC_el (f8 437 (by omega) id) j) Z3
    have A28 := AR_fr (f8 a2 (hk_lt A3.1 (by decide)) id) A3
    have r8 := RSt_tr t1 u3.1 r3 (RSt_a (nd := nd) t6 f8 g8 u8.1)
    have L8 := HT_len t8
    refine c_X14_findSteps t8 eN8 W Z8 A8 A28 fi fg (by omega) (by omega) ?_
    intro h9 f9 l9 g9 e9 e63 e66
    intro t9 u9
    have r9 : RSt h1 h9 nd (1 + 1 + 1) (n12 + n12 + n12) := by
      refine RSt_tr t1 (Nat.le_trans u3.1 u8.1) r8 ⟨fun z => CaR_fr (fun b x y => f9 b y (by omega)) (fun j hj => e9 j (by omega)) L8 z, Fr_mono f9 (fun b y => ?_), fun j hj => e9 j (by omega), g9, l9, fun j hj => (congrArg gvR (e9 j (by unfold owP at hj; omega)))⟩
      unfold RS
      omega
    rw [e63, wr_of (by omega) (by omega)]
    refine c_X14_within ?_
    intro x10 qx10
    replace qx10 := bq_iff qx10 (show _ ↔ (0 ≤ p0 ∧ p0 < ((stepsOf N nd (inst N (rh N)) (goal N (rh N))).length : Nat)) by omega)
    intro rx10 vx10
    refine c_X14_refused qx10 ?_
    intro x11 h12 qx11
    intro t12 u12
    intro rx11 vx11
    refine ⟨fun x => (0 ≤ p0 ∧ p0 < ((stepsOf N nd (inst N (rh N)) (goal N (rh N))).length : Nat)) ∧ h12 = h9 ∧ x = (((stepsOf N nd (inst N (rh N)) (goal N (rh N))).getD p0.toNat 0 : Nat) : Int) ∨ ¬ (0 ≤ p0 ∧ p0 < ((stepsOf N nd (inst N (rh N)) (goal N (rh N))).length : Nat)) ∧ h12 = sI h9 437 5 2 ∧ x = 0, ?_, ?_⟩
    · intro x13 rx13 z14
      rcases z14 with ⟨y1, y2, y3⟩ | ⟨y1, y2, y3⟩
      · rw [y2, y3]; exact k q1 y1 _ _ t1 eh1 (RSt_mono r9 (by omega) (by omega))
      · rw [y3]; exact k1 q1 y1 _ _ _ t1 eh1 (RSt_mono r9 (by omega) (by omega)) t9 y2
    · refine ⟨fun c16 => ?_, fun c16 => ?_⟩
      · obtain ⟨b_2, e_2⟩ : (0 ≤ p0 ∧ p0 < ((stepsOf N nd (inst N (rh N)) (goal N (rh N))).length : Nat)) ∧ h12 = h9 := by
          rcases qx11 with ⟨_, y, z⟩ | ⟨y, _⟩
          · exact ⟨y, z⟩
          · omega
        subst e_2
        refine ⟨(by omega), ?_⟩
        exact .inl ⟨b_2, rfl, e66 p0.toNat (by omega)⟩
      · have q_2 : ¬ (0 ≤ p0 ∧ p0 < ((stepsOf N nd (inst N (rh N)) (goal N (rh N))).length : Nat)) ∧ h12 = sI h9 437 5 2 := by
          rcases qx11 with ⟨y, _⟩ | ⟨_, y, z⟩
          · omega
          · exact ⟨y, z⟩
        exact .inr ⟨q_2.1, q_2.2, rfl⟩
  · have q_ : ¬ sndP N nd (goal N (rh N)) ∧ h6 = sI h3 437 5 1 := by
      rcases qx5 with ⟨y, _⟩ | ⟨_, y, z⟩
      · omega
      · exact ⟨y, z⟩
    exact k0 q_.1 _ _ _ t1 eh1 (RSt_mono r3 (by omega) (by omega)) t3 q_.2
theorem d_plan {h : XH} {nd : Nat → ND} {o u : Int} {c : Nat} (T : HT h) (R : Inv h nd o u c) {K : Int → XH → Prop} {J : XH → Prop} (k : ∀ h' o' u', HT h' → Inv h' nd o' u' (c + 1) → Gr (1 + 3) (xcs none + 3 * n12) h h' → J h') : w_L_plan  (LDw h (fun g Q => w_X14_plan  Q g) K J) h := by
  classical
  have W := R.1.2.1
  have C := R.1.1
  have hr := rh_lt W
  refine dask (e := if sndP (nw h) nd (goal (nw h) (rh (nw h))) then 0 else 1) (x := ((stepsOf (nw h) nd (inst (nw h) (rh (nw h))) (goal (nw h) (rh (nw h)))).length : Nat)) (wL := fun Q => w_L_plan  Q h) (wR := fun g Q => w_X14_plan  Q g) (mkAe T R (fun Q q0 q1 => ?_)) (fun g Tg Rg eg => mkBe Tg Rg (by split <;> exact rgk rfl) (fun Q q0 q1 => ?_)) k
  · refine c_L_plan T C W (DK_of (NTm_of R.1)) R.2.2.1  (fun y g t s => ?_) (fun y => q1 (if_pos y))
    have := q0 (by rw [if_neg y]; decide) g t s
    rw [if_neg y] at this
    exact this
  · refine c_X14_plan (m := (hI g 437 7).toNat) Tg eg.symm (by rw [← eg]; exact Rg.1.2.1) (NTm_of Rg.1) (CS_g C hr).2.2.2 (CS_i C hr).2.2.2 (fun y h1 h2 h3 t1 e1 r t2 e3 => ?_) (fun y => q1 (if_pos y))
    refine q0 (by rw [if_neg y]; decide) h1 h2 h3 t1 e1 r t2 ?_
    rw [if_neg y]
    exact e3
theorem d_planAt {h : XH} {nd : Nat → ND} {o u p : Int} {c : Nat} (T : HT h) (R : Inv h nd o u c) {K : Int → XH → Prop} {J : XH → Prop} (k : ∀ h' o' u', HT h' → Inv h' nd o' u' (c + 1) → Gr (1 + 3) (xcs none + 3 * n12) h h' → J h') : w_L_planAt p (LDw h (fun g Q => w_X14_planAt p Q g) K J) h := by
  classical
  have W := R.1.2.1
  have C := R.1.1
  have hr := rh_lt W
  have ea : ¬ (sndP (nw h) nd (goal (nw h) (rh (nw h)))) → e2 (sndP (nw h) nd (goal (nw h) (rh (nw h)))) (0 ≤ p ∧ p < ((stepsOf (nw h) nd (inst (nw h) (rh (nw h))) (goal (nw h) (rh (nw h)))).length : Nat)) 1 2 = 1 := fun y => if_neg y
  have eb : (sndP (nw h) nd (goal (nw h) (rh (nw h)))) → ¬ (0 ≤ p ∧ p < ((stepsOf (nw h) nd (inst (nw h) (rh (nw h))) (goal (nw h) (rh (nw h)))).length : Nat)) → e2 (sndP (nw h) nd (goal (nw h) (rh (nw h)))) (0 ≤ p ∧ p < ((stepsOf (nw h) nd (inst (nw h) (rh (nw h))) (goal (nw h) (rh (nw h)))).length : Nat)) 1 2 = 2 := fun y z => by unfold e2; rw [if_pos y, if_neg z]
  have ec : (sndP (nw h) nd (goal (nw h) (rh (nw h)))) → (0 ≤ p ∧ p < ((stepsOf (nw h) nd (inst (nw h) (rh (nw h))) (goal (nw h) (rh (nw h)))).length : Nat)) → e2 (sndP (nw h) nd (goal (nw h) (rh (nw h)))) (0 ≤ p ∧ p < ((stepsOf (nw h) nd (inst (nw h) (rh (nw h))) (goal (nw h) (rh (nw h)))).length : Nat)) 1 2 = 0 := fun y z => by unfold e2; rw [if_pos y, if_pos z]
  refine dask (e := e2 (sndP (nw h) nd (goal (nw h) (rh (nw h)))) (0 ≤ p ∧ p < ((stepsOf (nw h) nd (inst (nw h) (rh (nw h))) (goal (nw h) (rh (nw h)))).length : Nat)) 1 2) (x := (((stepsOf (nw h) nd (inst (nw h) (rh (nw h))) (goal (nw h) (rh (nw h)))).getD p.toNat 0 : Nat) : Int)) (wL := fun Q => w_L_planAt p Q h) (wR := fun g Q => w_X14_planAt p Q g) (mkAe T R (fun Q q0 q1 => ?_)) (fun g Tg Rg eg => mkBe Tg Rg (by unfold e2; split <;> (try split) <;> exact rgk rfl) (fun Q q0 q1 => ?_)) k
  · refine c_L_planAt T C W (DK_of (NTm_of R.1)) R.2.2.1  (fun y g t s => ?_) (fun y z g t s => ?_) (fun y z => q1 (ec y z))
    · have := q0 (by rw [ea y]; decide) g t s
      rw [ea y] at this
      exact this
    · have := q0 (by rw [eb y z]; decide) g t s
      rw [eb y z] at this
      exact this
  · refine c_X14_planAt (m := (hI g 437 7).toNat) Tg eg.symm (by rw [← eg]; exact Rg.1.2.1) (NTm_of Rg.1) (CS_g C hr).2.2.2 (CS_i C hr).2.2.2 (fun y h1 h2 h3 t1 e1 r t2 e3 => ?_) (fun y z h1 h2 h3 t1 e1 r t2 e3 => ?_) (fun y z => q1 (ec y z))
    · exact q0 (by rw [ea y]; decide) h1 h2 h3 t1 e1 r t2 (by rw [ea y]; exact e3)
    · exact q0 (by rw [eb y z]; decide) h1 h2 h3 t1 e1 r t2 (by rw [eb y z]; exact e3)
