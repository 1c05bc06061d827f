/-! QUESTIONS: versionOf, installed, changes, lockDiffers, sumWrong, failure, then, size, checksum, owner, clashes -/
theorem c_iS {h : XH} {N : Nat → Int} {m : Nat} {K : Nat → XH → Prop} (T : HT h) (eN : N = nw h) (W : WF N m) (k : ∀ a h1, Fr (fun _ => False) h h1 → Gr 1 n12 h h1 → h.length ≤ a → AR h1 a (inst N (rh N)) → K a h1) : w_X14_installedSet K h := by
  unfold w_X14_installedSet
  have r3 := rh_lt W
  have E : wr (wr (805 + wr (hI h 438 1 * 291)) + 23) = 805 + 291 * (rh N : Int) + 23 := by
    rw [hr_ eN W]
    simp (disch := omega) only [wr_of]
    omega
  rw [E]
  refine c_setA T eN (f := inst N (rh N)) (by omega) (fun i hi => ?_) (fun a h1 f g l A => ?_)
  · unfold inst nR
    congr 1
    omega
  · intro _ _
    exact k a h1 f g l A
theorem CS_fg {h : XH} {N : Nat → Int} {nd : Nat → ND} {m : Nat} (C : CS h 8 N nd) (W : WF N m) : fOK N (goal N (rh N)) := fOK_of (CS_g C (rh_lt W))
theorem CS_fi {h : XH} {N : Nat → Int} {nd : Nat → ND} {m : Nat} (C : CS h 8 N nd) (W : WF N m) : fOK N (inst N (rh N)) := fOK_of (CS_i C (rh_lt W))
set_option maxHeartbeats 1000000 in
theorem c_X12_versionOf {p0 : Int} {h : XH} {N : Nat → Int} {nd : Nat → ND} {m : Nat} (T : HT h) (C : CS h 8 N nd) (W : WF N m) {K : Int → Prop} {E : Nat → XH → Prop} (k0 : ¬ (0 ≤ p0 ∧ p0 < N 0) → E 2 (nT h)) (k : 0 ≤ p0 ∧ p0 < N 0 → K (cIn (goal N (rh N)) p0.toNat)) : w_X12_versionOf p0 K E h := by
  unfold w_X12_versionOf
  refine c_X12_checkPack (fun q => k0 (by rw [(V80 C.1).1] at q; exact q)) (fun q1 q2 => ?_)
  rw [(V80 C.1).1] at q2
  have b12 := W.1.2.1
  refine c_atH C W ?_
  refine ⟨(rc_k T (rh_lt W)), ?_⟩
  refine c_X8_codeIn C.1 ⟨W.1.2.2.1, W.1.2.2.2.1⟩ ?_
  have F := cIdF_F W.1 (CS_g C (rh_lt W)) (p := p0.toNat) (by omega)
  rw [show ((p0.toNat : Nat) : Int) = p0 by omega] at F
  rw [F]
  intro _
  exact k ⟨q1, q2⟩
set_option maxHeartbeats 1000000 in
theorem c_L_versionOf {p0 : Int} {h : XH} {N : Nat → Int} {nd : Nat → ND} {m : Nat} (T : HT h) (C : CS h 8 N nd) (W : WF N m)  {K : Int → XH → Prop} (k0 : ¬ (0 ≤ p0 ∧ p0 < N 0) → K 1 (nT h)) (k : 0 ≤ p0 ∧ p0 < N 0 → ∀ h6, h6 = sL h 467 0 (i2l (cIn (goal N (rh N)) p0.toNat)) → K 0 h6) : w_L_versionOf p0 K h := by
  unfold w_L_versionOf
  refine c_X12_versionOf T C W  (fun q => ⟨rfl, k0 q⟩) (fun q => ?_)
  intro _
  intro h4 eh4 t4 u4
  exact k q _ eh4
set_option maxHeartbeats 1000000 in
theorem c_X14_versionOf {p0 : Int} {h : XH} {N : Nat → Int} {m : Nat} (T : HT h) (eN : N = nw h) (W : WF N m) (fg : fOK N (goal N (rh N))) {K : Int → XH → Prop} (k0 : ¬ (0 ≤ p0 ∧ p0 < N 0) → ∀ h1 h2, HT h1 → h1 = sI h 437 5 0 → h2 = sI h1 437 5 1 → K 0 h2) (k : 0 ≤ p0 ∧ p0 < N 0 → ∀ h1 h2, HT h1 → h1 = sI h 437 5 0 → Fr (fun _ => False) h1 h2 → Gr 1 (n12) h1 h2 → K (cIn (goal N (rh N)) p0.toNat) h2) : w_X14_versionOf p0 K h := by
  unfold w_X14_versionOf
  intro h1 eh1 t1 u1
  have eN1 : N = nw h1 := eN.trans (nw_fr (by rw [eh1]; exact sameC_sV (by decide))).symm
  refine c_X14_isPack ?_ (by rw [show hI h1 438 0 = N 0 by rw [eN1]; rfl]; exact W.1.1)
  intro x2 qx2
  rw [show hI h1 438 0 = N 0 by rw [eN1]; rfl] at qx2
  have b12 := W.1.2.1
  intro rx2 vx2
  refine c_X14_refused qx2 ?_
  intro x3 h4 qx3
  intro t4 u4
  intro rx3 vx3
  refine ⟨_, fun x5 h6 t6 s6 rx5 z7 => z7, ?_⟩
  refine ⟨fun c11 => ?_, fun c11 => ?_⟩
  · obtain ⟨b_, e_⟩ : (0 ≤ p0 ∧ p0 < N 0) ∧ h4 = h1 := by
      rcases qx3 with ⟨_, y, z⟩ | ⟨y, _⟩
      · exact ⟨y, z⟩
      · omega
    subst e_
    refine c_gS t4 eN1 W ?_
    intro a8 h9 f9 g9 l9 A9
    intro t9 u9
    refine c_X14_codeIn A9 (by omega) (fOK_r W.1 fg (by omega)) ?_
    intro _
    exact k b_ _ _ t4 eh1 f9 g9
  · have q_ : ¬ (0 ≤ p0 ∧ p0 < N 0) ∧ h4 = sI h1 437 5 1 := by
      rcases qx3 with ⟨y, _⟩ | ⟨_, y, z⟩
      · omega
      · exact ⟨y, z⟩
    exact k0 q_.1 _ _ t1 eh1 q_.2
theorem d_versionOf {h : XH} {nd : Nat → ND} {o u p0 : Int} {c : Nat} (T : HT h) (R : Inv h nd o u c) {K : Int → XH → Prop} {J : XH → Prop} (k : ∀ h' o' u', HT h' → Inv h' nd o' u' (c + 1) → Gr (1 + 1) (xcs none + (n12)) h h' → J h') : w_L_versionOf p0 (LDw h (fun g Q => w_X14_versionOf p0 Q g) K J) h :=
  dask (wL := fun Q => w_L_versionOf p0 Q h) (wR := fun g Q => w_X14_versionOf p0 Q g) (mkA T R (by decide) (fun Q k0 k => c_L_versionOf T R.1.1 R.1.2.1  k0 k)) (fun g Tg Rg eg => mkB Tg Rg (rgk rfl) (by decide) (fun Q k0 k => c_X14_versionOf Tg eg.symm R.1.2.1 (CS_fg R.1.1 R.1.2.1) k0 k)) k
set_option maxHeartbeats 1000000 in
theorem c_X12_installed {p0 : Int} {h : XH} {N : Nat → Int} {nd : Nat → ND} {m : Nat} (T : HT h) (C : CS h 8 N nd) (W : WF N m) {K : Int → Prop} {E : Nat → XH → Prop} (k0 : ¬ (0 ≤ p0 ∧ p0 < N 0) → E 2 (nT h)) (k : 0 ≤ p0 ∧ p0 < N 0 → K (inst N (rh N) p0.toNat)) : w_X12_installed p0 K E h := by
  unfold w_X12_installed
  refine c_X12_checkPack (fun q => k0 (by rw [(V80 C.1).1] at q; exact q)) (fun q1 q2 => ?_)
  rw [(V80 C.1).1] at q2
  have b12 := W.1.2.1
  refine c_atH C W ?_
  refine ⟨(rc_k T (rh_lt W)), ?_⟩
  refine c_X12_valueIn C.1 W.1 (CS_i C (rh_lt W)) (by omega) ?_
  intro _
  exact k ⟨q1, q2⟩
set_option maxHeartbeats 1000000 in
theorem c_L_installed {p0 : Int} {h : XH} {N : Nat → Int} {nd : Nat → ND} {m : Nat} (T : HT h) (C : CS h 8 N nd) (W : WF N m)  {K : Int → XH → Prop} (k0 : ¬ (0 ≤ p0 ∧ p0 < N 0) → K 1 (nT h)) (k : 0 ≤ p0 ∧ p0 < N 0 → ∀ h6, h6 = sL h 467 0 (i2l (inst N (rh N) p0.toNat)) → K 0 h6) : w_L_installed p0 K h := by
  unfold w_L_installed
  refine c_X12_installed T C W  (fun q => ⟨rfl, k0 q⟩) (fun q => ?_)
  intro _
  intro h4 eh4 t4 u4
  exact k q _ eh4
set_option maxHeartbeats 1000000 in
theorem c_X14_installed {p0 : Int} {h : XH} {N : Nat → Int} {m : Nat} (T : HT h) (eN : N = nw h) (W : WF N m) {K : Int → XH → Prop} (k0 : ¬ (0 ≤ p0 ∧ p0 < N 0) → ∀ h1 h2, HT h1 → h1 = sI h 437 5 0 → h2 = sI h1 437 5 1 → K 0 h2) (k : 0 ≤ p0 ∧ p0 < N 0 → ∀ h1 h2, HT h1 → h1 = sI h 437 5 0 → Fr (fun _ => False) h1 h2 → Gr 0 (0) h1 h2 → K (inst N (rh N) p0.toNat) h2) : w_X14_installed p0 K h := by
  unfold w_X14_installed
  intro h1 eh1 t1 u1
  have eN1 : N = nw h1 := eN.trans (nw_fr (by rw [eh1]; exact sameC_sV (by decide))).symm
  refine c_X14_isPack ?_ (by rw [show hI h1 438 0 = N 0 by rw [eN1]; rfl]; exact W.1.1)
  intro x2 qx2
  rw [show hI h1 438 0 = N 0 by rw [eN1]; rfl] at qx2
  have b12 := W.1.2.1
  intro rx2 vx2
  refine c_X14_refused qx2 ?_
  intro x3 h4 qx3
  intro t4 u4
  intro rx3 vx3
  refine ⟨_, fun x5 rx5 z6 => z6, ?_⟩
  refine ⟨fun c8 => ?_, fun c8 => ?_⟩
  · obtain ⟨b_, e_⟩ : (0 ≤ p0 ∧ p0 < N 0) ∧ h4 = h1 := by
      rcases qx3 with ⟨_, y, z⟩ | ⟨y, _⟩
      · exact ⟨y, z⟩
      · omega
    subst e_
    rw [wr_of (by omega) (by omega)]
    refine c_X14_rootAt (by omega) (hr_ eN1 W) (rh_lt W) ?_
    intro x7 qx7
    rw [← eN1, show (23 + p0).toNat = 23 + p0.toNat by omega] at qx7
    intro rx7
    rw [qx7]
    exact k b_ _ _ t4 eh1 (Fr_rf _ _) (Gr_rf _)
  · have q_ : ¬ (0 ≤ p0 ∧ p0 < N 0) ∧ h4 = sI h1 437 5 1 := by
      rcases qx3 with ⟨y, _⟩ | ⟨_, y, z⟩
      · omega
      · exact ⟨y, z⟩
    exact k0 q_.1 _ _ t1 eh1 q_.2
theorem d_installed {h : XH} {nd : Nat → ND} {o u p0 : Int} {c : Nat} (T : HT h) (R : Inv h nd o u c) {K : Int → XH → Prop} {J : XH → Prop} (k : ∀ h' o' u', HT h' → Inv h' nd o' u' (c + 1) → Gr (1 + 0) (xcs none + (0)) h h' → J h') : w_L_installed p0 (LDw h (fun g Q => w_X14_installed p0 Q g) K J) h :=
  dask (wL := fun Q => w_L_installed p0 Q h) (wR := fun g Q => w_X14_installed p0 Q g) (mkA T R (by decide) (fun Q k0 k => c_L_installed T R.1.1 R.1.2.1  k0 k)) (fun g Tg Rg eg => mkB Tg Rg (rgk rfl) (by decide) (fun Q k0 k => c_X14_installed Tg eg.symm R.1.2.1  k0 k)) k
set_option maxHeartbeats 1000000 in
theorem c_X12_changes {h : XH} {N : Nat → Int} {nd : Nat → ND} {m : Nat} (T : HT h) (C : CS h 8 N nd) (W : WF N m) {K : Int → Prop} (k : K (cntN 12 (fun p => !decide (inst N (rh N) p = goal N (rh N) p)) : Nat)) : w_X12_changes K h := by
  unfold w_X12_changes
  refine c_atH C W ?_
  refine ⟨(rc_k T (rh_lt W)), ?_⟩
  refine c_atH C W ?_
  refine ⟨(rc_k T (rh_lt W)), ?_⟩
  refine c_X12_changesBetween C.1 C.2.1 W.1 ?_
  rw [diff_F W.1 (CS_i C (rh_lt W)) (CS_g C (rh_lt W))]
  intro _
  exact k
set_option maxHeartbeats 1000000 in
theorem c_X14_changes {h : XH} {N : Nat → Int} {m : Nat} (T : HT h) (eN : N = nw h) (W : WF N m) {K : Int → XH → Prop} (k : ∀ h1 h2, HT h1 → h1 = sI h 437 5 0 → Fr (fun _ => False) h1 h2 → Gr (1 + 1) (n12 + n12) h1 h2 → K ((cntN 12 (fun p => !decide (inst N (rh N) p = goal N (rh N) p)) : Nat)) h2) : w_X14_changes K h := by
  unfold w_X14_changes
  intro h1 eh1 t1 u1
  have eN1 : N = nw h1 := eN.trans (nw_fr (by rw [eh1]; exact sameC_sV (by decide))).symm
  refine c_gS t1 eN1 W ?_
  intro a2 h3 f3 g3 l3 A3
  intro t3 u3
  refine c_iS t3 (eN1.trans (nw_F t1 f3).symm) W ?_
  intro a4 h5 f5 g5 l5 A5
  intro t5 u5
  refine c_X14_differences (AR_fr (f5 a2 (hk_lt A3.1 (by decide)) id) A3) A5 ?_
  intro _
  rw [show cntN 12 (fun p => !decide (goal N (rh N) p = inst N (rh N) p)) = cntN 12 (fun p => !decide (inst N (rh N) p = goal N (rh N) p)) from cntN_cg _ (fun i _ => by rw [decide_eq_decide.mpr (show goal N (rh N) i = inst N (rh N) i ↔ inst N (rh N) i = goal N (rh N) i from eq_comm)])]
  exact k _ _ t1 eh1 (Fr_tr f3 u3.1 f5) (Gr_tr g3 g5)
theorem d_changes {h : XH} {nd : Nat → ND} {o u : Int} {c : Nat} (T : HT h) (R : Inv h nd o u c) {K : Int → XH → Prop} {J : XH → Prop} (k : ∀ h' o' u', HT h' → Inv h' nd o' u' (c + 1) → Gr (1 + 1) (n12 + n12) h h' → J h') : w_X12_changes (LDp h (fun g Q => w_X14_changes Q g) K J) h :=
  dasp (wL := fun Q => w_X12_changes Q h) (wR := fun g Q => w_X14_changes Q g) T R (fun Q k => c_X12_changes T R.1.1 R.1.2.1  k) (fun g Tg Rg eg => mkP Tg Rg (fun Q k => c_X14_changes Tg eg.symm R.1.2.1  k)) k
set_option maxHeartbeats 1000000 in
theorem c_X12_checkLock {p0 : Int} {K : Prop} {E : Nat → XH → Prop} {h : XH} (k0 : ¬ (0 ≤ p0 ∧ p0 < 3) → E 1 (nT h)) (k : 0 ≤ p0 ∧ p0 < 3 → K) : w_X12_checkLock p0 K E h := by
  unfold w_X12_checkLock
  refine ⟨_, fun z1 => z1, ?_⟩
  refine ⟨fun c3 => ?_, fun c3 => ?_⟩
  · first
      | exact k0 (by omega)
      | exact k ⟨by omega, by omega⟩
  · refine ⟨fun c2 => ?_, fun c2 => ?_⟩
    · first
        | exact k0 (by omega)
        | exact k ⟨by omega, by omega⟩
    · first
        | exact k0 (by omega)
        | exact k ⟨by omega, by omega⟩
set_option maxHeartbeats 1000000 in
theorem c_X12_lockDiffers {p0 p1 : Int} {h : XH} {N : Nat → Int} {nd : Nat → ND} {m : Nat} (T : HT h) (C : CS h 8 N nd) (W : WF N m) {K : Int → Prop} {E : Nat → XH → Prop} (k0 : ¬ ((0 ≤ p0 ∧ p0 < 3) ∧ (0 ≤ p1 ∧ p1 < 3)) → E 1 (nT h)) (k : (0 ≤ p0 ∧ p0 < 3) ∧ (0 ≤ p1 ∧ p1 < 3) → K (cntN 12 (fun p => !decide (lockF N p0.toNat p = lockF N p1.toNat p)) : Nat)) : w_X12_lockDiffers p0 p1 K E h := by
  unfold w_X12_lockDiffers
  refine c_X12_checkLock (fun q => k0 (fun z => q z.1)) (fun q1 => ?_)
  refine c_X12_checkLock (fun q => k0 (fun z => q z.2)) (fun q2 => ?_)
  refine ⟨(by first | decide | omega | ((try simp (disch := omega) only [wr_of] at *); omega)), ?_⟩
  refine ⟨(by first | decide | omega | ((try simp (disch := omega) only [wr_of] at *); omega)), ?_⟩
  refine c_X12_changesBetween C.1 C.2.1 W.1 ?_
  rw [diff_F W.1 (CS_l C (by omega)) (CS_l C (by omega))]
  intro _
  exact k ⟨q1, q2⟩
set_option maxHeartbeats 1000000 in
theorem c_L_lockDiffers {p0 p1 : Int} {h : XH} {N : Nat → Int} {nd : Nat → ND} {m : Nat} (T : HT h) (C : CS h 8 N nd) (W : WF N m)  {K : Int → XH → Prop} (k0 : ¬ ((0 ≤ p0 ∧ p0 < 3) ∧ (0 ≤ p1 ∧ p1 < 3)) → K 1 (nT h)) (k : (0 ≤ p0 ∧ p0 < 3) ∧ (0 ≤ p1 ∧ p1 < 3) → ∀ h6, h6 = sL h 467 0 (i2l ((cntN 12 (fun p => !decide (lockF N p0.toNat p = lockF N p1.toNat p)) : Nat))) → K 0 h6) : w_L_lockDiffers p0 p1 K h := by
  unfold w_L_lockDiffers
  refine c_X12_lockDiffers T C W  (fun q => ⟨rfl, k0 q⟩) (fun q => ?_)
  intro _
  intro h4 eh4 t4 u4
  exact k q _ eh4
set_option maxHeartbeats 1000000 in
theorem c_X14_isLock {p0 : Int} {K : Int → Prop} {h : XH} (k : ∀ x, bq x (0 ≤ p0 ∧ p0 < 3) → K x) : w_X14_isLock p0 K h := by
  unfold w_X14_isLock
  refine c_X14_within ?_
  intro x1 qx1
  intro rx1 vx1
  exact k _ (bq_iff qx1 (by omega))
set_option maxHeartbeats 1000000 in
theorem c_X14_lockDiffers {p0 p1 : Int} {h : XH} {N : Nat → Int} {m : Nat} (T : HT h) (eN : N = nw h) (W : WF N m) {K : Int → XH → Prop} (k0 : ¬ ((0 ≤ p0 ∧ p0 < 3) ∧ (0 ≤ p1 ∧ p1 < 3)) → ∀ h1 h2, HT h1 → h1 = sI h 437 5 0 → h2 = sI h1 437 5 1 → K 0 h2) (k : (0 ≤ p0 ∧ p0 < 3) ∧ (0 ≤ p1 ∧ p1 < 3) → ∀ h1 h2, HT h1 → h1 = sI h 437 5 0 → Fr (fun _ => False) h1 h2 → Gr (1 + 1) (n12 + n12) h1 h2 → K ((cntN 12 (fun p => !decide (lockF N p0.toNat p = lockF N p1.toNat p)) : Nat)) h2) : w_X14_lockDiffers p0 p1 K h := by
  unfold w_X14_lockDiffers
  intro h1 eh1 t1 u1
  have eN1 : N = nw h1 := eN.trans (nw_fr (by rw [eh1]; exact sameC_sV (by decide))).symm
  refine c_X14_isLock ?_
  intro x2 qx2
  intro rx2 vx2
  refine ⟨fun x => bq x ((0 ≤ p0 ∧ p0 < 3) ∧ (0 ≤ p1 ∧ p1 < 3)), ?_, ?_⟩
  · intro x3 rx3 z4
    refine c_X14_refused z4 ?_
    intro x5 h6 qx5
    intro t6 u6
    intro rx5 vx5
    refine ⟨_, fun x7 h8 t8 s8 rx7 z9 => z9, ?_⟩
    refine ⟨fun c15 => ?_, fun c15 => ?_⟩
    · obtain ⟨b_, e_⟩ : ((0 ≤ p0 ∧ p0 < 3) ∧ (0 ≤ p1 ∧ p1 < 3)) ∧ h6 = h1 := by
        rcases qx5 with ⟨_, y, z⟩ | ⟨y, _⟩
        · exact ⟨y, z⟩
        · omega
      subst e_
      rw [wr_of (x := 12 * p0) (by omega) (by omega), wr_of (by omega) (by omega)]
      refine c_setA t6 eN1 (f := lockF N p0.toNat) (by omega) (fun i hi => by unfold lockF; congr 1; omega) ?_
      intro a10 h11 f11 g11 l11 A11
      intro t11 u11
      rw [wr_of (x := 12 * p1) (by omega) (by omega), wr_of (by omega) (by omega)]
      refine c_setA t11 (eN1.trans (nw_F t6 f11).symm) (f := lockF N p1.toNat) (by omega) (fun i hi => by unfold lockF; congr 1; omega) ?_
      intro a12 h13 f13 g13 l13 A13
      intro t13 u13
      refine c_X14_differences (AR_fr (f13 a10 (hk_lt A11.1 (by decide)) id) A11) A13 ?_
      intro _
      exact k b_ _ _ t6 eh1 (Fr_tr f11 u11.1 f13) (Gr_tr g11 g13)
    · have q_ : ¬ ((0 ≤ p0 ∧ p0 < 3) ∧ (0 ≤ p1 ∧ p1 < 3)) ∧ h6 = sI h1 437 5 1 := by
        rcases qx5 with ⟨y, _⟩ | ⟨_, y, z⟩
        · omega
        · exact ⟨y, z⟩
      exact k0 q_.1 _ _ t1 eh1 q_.2
  · refine ⟨_, fun z16 => z16, ?_⟩
    refine ⟨fun c19 => ?_, fun c19 => ?_⟩
    · first
        | exact bqF (fun z => (bq1 qx2).2.1.mp c19 z.1)
        | exact bqF (fun z => (bq1 qx17).2.1.mp c18 z.2)
        | exact bqT ⟨(bq1 qx2).2.2.1.mp c19, (bq1 qx17).2.2.1.mp c18⟩
    · refine c_X14_isLock ?_
      intro x17 qx17
      intro rx17 vx17
      refine ⟨fun c18 => ?_, fun c18 => ?_⟩
      · first
          | exact bqF (fun z => (bq1 qx2).2.1.mp c19 z.1)
          | exact bqF (fun z => (bq1 qx17).2.1.mp c18 z.2)
          | exact bqT ⟨(bq1 qx2).2.2.1.mp c19, (bq1 qx17).2.2.1.mp c18⟩
      · first
          | exact bqF (fun z => (bq1 qx2).2.1.mp c19 z.1)
          | exact bqF (fun z => (bq1 qx17).2.1.mp c18 z.2)
          | exact bqT ⟨(bq1 qx2).2.2.1.mp c19, (bq1 qx17).2.2.1.mp c18⟩
theorem d_lockDiffers {h : XH} {nd : Nat → ND} {o u p0 p1 : Int} {c : Nat} (T : HT h) (R : Inv h nd o u c) {K : Int → XH → Prop} {J : XH → Prop} (k : ∀ h' o' u', HT h' → Inv h' nd o' u' (c + 1) → Gr (1 + (1 + 1)) (xcs none + (n12 + n12)) h h' → J h') : w_L_lockDiffers p0 p1 (LDw h (fun g Q => w_X14_lockDiffers p0 p1 Q g) K J) h :=
  dask (wL := fun Q => w_L_lockDiffers p0 p1 Q h) (wR := fun g Q => w_X14_lockDiffers p0 p1 Q g) (mkA T R (by decide) (fun Q k0 k => c_L_lockDiffers T R.1.1 R.1.2.1  k0 k)) (fun g Tg Rg eg => mkB Tg Rg (rgk rfl) (by decide) (fun Q k0 k => c_X14_lockDiffers Tg eg.symm R.1.2.1  k0 k)) k
