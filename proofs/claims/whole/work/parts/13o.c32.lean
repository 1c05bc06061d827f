/-! ISSOUND, TAKELOCK, MERGELOCKS -/
def SND (N : Nat → Int) (nd : Nat → ND) : Prop := ∀ r : Nat, r < 3 → sndP N nd (inst N r)
abbrev goalN (N : Nat → Int) (f : Nat → Int) : Nat → Int := putF N (805 + 291 * rh N + 35) f
def SGo (r b : Nat) : Prop := b = 2 ∨ b = rc r ∨ (44 ≤ b ∧ b < 86)
theorem Gr_n12 (h : XH) : Gr 1 n12 h (nA h 0 12) := ⟨by unfold nA; rw [len_app]; omega, by rw [xhs_nA]; unfold n12; omega⟩
theorem goal_VF {N : Nat → Int} {f : Nat → Int} : VF N (goalN N f) := fun i _ _ => putF_out (by omega)
theorem fOK_vf {N M : Nat → Int} {f : Nat → Int} (E : VF N M) (hW : N 4 ≤ 40) (z : fOK N f) : fOK M f := fun p hp => by
  rcases z p hp with x | ⟨v, hv, e0, e1⟩
  · exact .inl x
  · have v40 : v < 40 := by unfold vc at hv; omega
    exact .inr ⟨v, by rw [VF_c E]; exact hv, by rw [VF_v E v40 (by decide)]; exact e0, by rw [VF_v E v40 (by decide)]; exact e1⟩
set_option maxHeartbeats 1000000 in
theorem c_X12_isSound {h : XH} {N : Nat → Int} {nd : Nat → ND} {m : Nat} (T : HT h) (C : CS h 8 N nd) (W : WF N m) (dk : DK nd m) (CC : CaC h N nd) {K : Int → XH → Prop} (k : ∀ g x, HT g → CSt h g N nd → bq x (SND N nd) → K x g) : w_X12_isSound K h := by
  unfold w_X12_isSound
  refine c_X12_knowMet T C W dk CC ?_
  intro h1 s1 cc1 k1 m1
  intro t1 u1
  have C1 := CSt_CS T C W s1
  refine ⟨fun x => 0 ≤ x ∧ x ≤ 3 ∧ ∀ r : Nat, (r : Int) < x → sndP N nd (inst N r), fun x => (3 - x).toNat, ?_, ?_⟩
  · exact ⟨by omega, by omega, fun r hr => by omega⟩
  · intro x2 rx2 z3
    obtain ⟨z0, z1, zm⟩ := z3
    refine ⟨fun c9 => ?_, fun c9 => ?_⟩
    · exact k _ _ t1 s1 (bqT (fun r hr => zm r (by omega)))
    · refine c_X11_rootOf (by omega) ?_
      refine ⟨(rc_k t1 (by omega)), ?_⟩
      refine c_X3_isSoundSet t1 C1 W dk m1 ?_
      intro x6 qx6
      replace qx6 := bq_iff qx6 (snd_F W.1 dk (CS_i C1 (r := x2.toNat) (by omega)))
      intro rx6 vx6
      refine ⟨fun c8 => ?_, fun c8 => ?_⟩
      · intro x7 ex7 rx7
        rw [wr_of (by omega) (by omega)] at ex7
        refine ⟨⟨by omega, by omega, fun r hr => ?_⟩, by dsimp only; omega⟩
        by_cases c : r = x2.toNat
        · rw [c]; exact (bq1 qx6).2.2.1.mp c8
        · exact zm r (by omega)
      · exact k _ _ t1 s1 (bqF (fun z => (bq1 qx6).2.1.mp (Decidable.not_not.mp c8) (z x2.toNat (by omega))))
set_option maxHeartbeats 1000000 in
theorem c_X14_isSound {nd : Nat → ND} {h : XH} {N : Nat → Int} {m : Nat} (T : HT h) (eN : N = nw h) (W : WF N m) (Z : NTm h nd m) (I : ∀ r : Nat, r < 3 → fOK N (inst N r)) {K : Int → XH → Prop} (k : ∀ h1 g x, HT h1 → h1 = sI h 437 5 0 → RSt h1 g nd 3 (3 * n12) → bq x (SND N nd) → K x g) : w_X14_isSound K h := by
  unfold w_X14_isSound
  intro h1 eh1 t1 u1
  have eN1 : N = nw h1 := eN.trans (nw_fr (by rw [eh1]; exact sameC_sV (by decide))).symm
  have Z1 := NTm_5 T eh1 Z
  have L1 := HT_len t1
  refine ⟨fun a x g => 0 ≤ x ∧ x ≤ 3 ∧ Fr (fun _ => False) h1 g ∧ h1.length ≤ g.length ∧ Gr x.toNat (x.toNat * n12) h1 g ∧ bq a (∀ r : Nat, (r : Int) < x → sndP N nd (inst N r)), fun _ x _ => (3 - x).toNat, ?_, ?_⟩
  · exact ⟨by omega, by omega, Fr_rf _ _, Nat.le_refl _, ⟨by simp, by simp⟩, bqT (fun r hr => by omega)⟩
  · intro x2 x3 h4 t4 s4 rx2 rx3 z5
    obtain ⟨z0, z1, zf, zl, zg, zb⟩ := z5
    refine ⟨fun c18 => ?_, fun c18 => ?_⟩
    · refine ⟨vOr zb, ?_⟩
      exact k _ _ _ t1 eh1 (RSt_a t1 zf (Gr_mono zg (by omega) (Nat.mul_le_mul_right _ (by omega))) zl) (bq_iff zb ⟨fun z r hr => z r (by omega), fun z r hr => z r (by omega)⟩)
    · refine ⟨fun y g => Fr (fun _ => False) h1 g ∧ h1.length ≤ g.length ∧ Gr (x3.toNat + 1) ((x3.toNat + 1) * n12) h1 g ∧ bq y (∀ r : Nat, (r : Int) < x3 + 1 → sndP N nd (inst N r)), ?_, ?_⟩
      · intro x7 h8 t8 s8 rx7 z9
        intro x10 ex10 rx10
        obtain ⟨y1, y2, y3, y4⟩ := z9
        rw [wr_of (by omega) (by omega)] at ex10
        exact ⟨⟨by omega, by omega, y1, y2, by rw [show x10.toNat = x3.toNat + 1 by omega]; exact y3, by rw [ex10]; exact y4⟩, by dsimp only; omega⟩
      · refine ⟨fun g => Fr (fun _ => False) h1 g ∧ h1.length ≤ g.length ∧ Gr (x3.toNat + 1) ((x3.toNat + 1) * n12) h1 g ∧ ¬ ∀ r : Nat, (r : Int) < x3 + 1 → sndP N nd (inst N r), ?_, ?_⟩
        · intro h11 t11 s11 z12
          exact ⟨z12.1, z12.2.1, z12.2.2.1, bqF z12.2.2.2⟩
        · refine ⟨fun c17 => ?_, fun c17 => ?_⟩
          · exact ⟨zf, zl, Gr_mono zg (by omega) (Nat.mul_le_mul_right _ (by omega)), fun z => (bq1 zb).2.1.mp c17 (fun r hr => z r (by omega))⟩
          · have eN4 : N = nw h4 := eN1.trans (nw_F t1 zf).symm
            have Z4 : NTm h4 nd m := NTm_fr t1 (fun b x _ => zf b x id) (fun j _ => sameC_el (zf 437 (by omega) id) j) Z1
            rw [wr_of (x := x3 * 291) (by omega) (by omega), wr_of (x := 805 + x3 * 291) (by omega) (by omega), wr_of (by omega) (by omega)]
            refine c_setA (f := inst N x3.toNat) t4 eN4 (by omega) (fun i hi => by unfold inst nR; congr 1; omega) ?_
            intro a13 h14 f14 g14 l14 A14
            intro t14 u14
            have f1 : Fr (fun _ => False) h1 h14 := Fr_tr zf zl f14
            have g1 : Gr (x3.toNat + 1) ((x3.toNat + 1) * n12) h1 h14 := by have := Gr_tr zg g14; rw [Nat.add_mul, Nat.one_mul]; exact this
            have l1 : h1.length ≤ h14.length := by have := u14.1; omega
            have L4 := HT_len t4
            refine c_X14_isSoundSet t14 (eN4.trans (nw_F t4 f14).symm) W (NTm_fr t4 (fun b x _ => f14 b x id) (fun j _ => sameC_el (f14 437 (by omega) id) j) Z4) A14 (I x3.toNat (by omega)) ?_
            intro x15 qx15
            intro rx15 vx15
            refine ⟨fun c16 => ?_, fun c16 => ?_⟩
            · exact ⟨f1, l1, g1, fun z => (bq1 qx15).2.1.mp c16 (z x3.toNat (by omega))⟩
            · refine ⟨f1, l1, g1, bqT (fun r hr => ?_)⟩
              by_cases c : r = x3.toNat
              · rw [c]; exact (bq1 qx15).2.2.1.mp c16
              · exact (bq1 zb).2.2.1.mp c17 r (by omega)
theorem d_isSound {h : XH} {nd : Nat → ND} {o u : Int} {c : Nat} (T : HT h) (R : Inv h nd o u c) {K : Int → XH → Prop} {J : XH → Prop} (k : ∀ h' o' u', HT h' → Inv h' nd o' u' (c + 1) → Gr (0 + 3) (0 + 3 * n12) h h' → J h') : w_X12_isSound (LDqB h (fun g Q => w_X14_isSound Q g) K J) h := by
  classical
  exact dasqB (x := if SND (nw h) nd then 1 else 0) (wL := fun Q => w_X12_isSound Q h) (wR := fun g Q => w_X14_isSound Q g) (mkAq T R (fun Q q => c_X12_isSound T R.1.1 R.1.2.1 (DK_of (NTm_of R.1)) R.2.2.1 (fun g x t s b => by rw [bq_is b]; exact q g t s))) (fun g Tg Rg eg => mkBq Tg Rg (fun Q q => c_X14_isSound (m := (hI g 437 7).toNat) Tg eg.symm (by rw [← eg]; exact Rg.1.2.1) (NTm_of Rg.1) (fun r hr => (CS_i R.1.1 hr).2.2.2) (fun h1 g x t e r b => by rw [bq_is b]; exact q h1 g t e r))) k
set_option maxHeartbeats 1000000 in
theorem c_X12_takeGoal {p0 : BitVec 64} {f : Nat → Int} {h : XH} {N : Nat → Int} {nd : Nat → ND} {m : Nat} (T : HT h) (C : CS h 8 N nd) (W : WF N m) (dk : DK nd m) (S : SetR N p0 f) (CC : CaC h (goalN N f) nd) {K : Int → XH → Prop} (k : ∀ g x, HT g → Fr (SGo (rh N)) h g → g.length = h.length → xhs g = xhs h → (∀ j, j = 9 ∨ j = 10 → el g 2 j = el h 2 j) → CS g 8 (goalN N f) nd → CaC g (goalN N f) nd → bq x (fitP (goalN N f) nd (rh N) f) → K x g) : w_X12_takeGoal p0 K h := by
  unfold w_X12_takeGoal
  have hr := rh_lt W
  have rb := rc_lt hr
  have L := HT_len T
  refine c_atH C W ?_
  refine ⟨(rc_k T hr), ?_⟩
  intro h3 eh3 t3 u3
  obtain ⟨C3, W3⟩ := CS_goal (g := h3) T C W hr S eh3
  have s3 : ∀ b, ¬ b = rc (rh N) → sameC h h3 b := fun b n => by rw [eh3]; exact sameC_sV (fun z => n z.symm)
  have CC3 : CaC h3 (goalN N f) nd := CaC_fr (fun b x y => s3 b (by omega)) (sameC_el (s3 2 (by omega)) 11) CC
  have er : rh (goalN N f) = rh N := rh_goal
  refine c_X12_knowMet t3 C3 W3 dk CC3 ?_
  intro h4 s4 cc4 k4 m4
  intro t4 u4
  have C4 := CSt_CS t3 C3 W3 s4
  refine c_X3_isFitting t4 C4 W3 dk m4 ?_
  intro x5 qx5
  rw [er] at qx5
  replace qx5 := bq_iff qx5 (fit_F W3 dk hr (SetR_vf goal_VF W.1.2.2.2.1 (fun _ _ => rfl) (WV_hp W.1) S) (CS_i C4 hr))
  intro rx5 vx5
  refine ⟨fun x => x = x5, ?_, ?_⟩
  · intro x6 rx6 z7
    rw [z7]
    refine k _ _ t4 (fun b hb n => ?_) (by rw [s4.2.2.2.1, eh3, len_sV]) (by rw [s4.2.2.2.2, eh3, xhs_sV]) (fun j hj => ?_) C4 cc4 qx5
    · unfold SGo at n
      exact sameC_tr (s3 b (by omega)) (s4.2.1 b (by rw [eh3, len_sV]; exact hb) (by omega))
    · rw [s4.2.2.1 j hj]
      exact sameC_el (s3 2 (by omega)) j
  · refine ⟨fun c8 => ?_, fun c8 => ?_⟩
    · exact c8.symm
    · rcases vOr qx5 with y | y
      · exact absurd y c8
      · exact y.symm
set_option maxHeartbeats 1000000 in
theorem c_X12_takeLock {p0 : Int} {h : XH} {N : Nat → Int} {nd : Nat → ND} {m : Nat} {o u : Int} (T : HT h) (C : CS h 8 N nd) (W : WF N m) (B0 : 0 ≤ o ∧ o < 10 ∧ 0 ≤ u ∧ u ≤ 10) (Bo : hI h 2 9 = o) (Bu : hI h 2 10 = u) (Bs : hI h 43 2 = 10) (dk : DK nd m) (CC : CaC h N nd) {K : Int → XH → Prop} {E : Nat → XH → Prop} (k0 : ¬ (0 ≤ p0 ∧ p0 < 3) → E 1 (nT h)) (k : (0 ≤ p0 ∧ p0 < 3) → ∀ h2 g x, Rmb o u h h2 → HT h2 → Fr (SGo (rh N)) h2 g → g.length = h2.length → xhs g = xhs h2 → (∀ j, j = 9 ∨ j = 10 → el g 2 j = el h2 2 j) → HT g → CS g 8 (goalN N (lockF N p0.toNat)) nd → CaC g (goalN N (lockF N p0.toNat)) nd → bq x (fitP (goalN N (lockF N p0.toNat)) nd (rh N) (lockF N p0.toNat)) → K x g) : w_X12_takeLock p0 K E h := by
  unfold w_X12_takeLock
  refine c_X12_checkLock (fun q => k0 q) (fun q1 => ?_)
  refine c_X12_remember B0 T Bo Bu Bs ?_
  intro h1 qh1
  intro t1 u1
  have C1 := Rmb_CS T qh1 B0 W C
  have L := HT_len T
  have bb := bs_lt (k := ((o + u) % 10).toNat) (by omega)
  refine ⟨q1, ?_⟩
  refine c_X12_takeGoal t1 C1 W dk (CS_l C1 (l := p0.toNat) (by omega)) (CaC_0 CC qh1.2.2.2.1 (qh1.1 58 (by omega) (by omega))) ?_
  intro h4 x3 t4 f4 l4 y4 e4 c4 cc4 q4
  intro _ _ _
  exact k q1 _ _ _ qh1 t1 f4 l4 y4 e4 t4 c4 cc4 q4
set_option maxHeartbeats 1000000 in
theorem c_L_takeLock {p1 : Int} {h : XH} {N : Nat → Int} {nd : Nat → ND} {m : Nat} {o u : Int} (T : HT h) (C : CS h 8 N nd) (W : WF N m) (B0 : 0 ≤ o ∧ o < 10 ∧ 0 ≤ u ∧ u ≤ 10) (Bo : hI h 2 9 = o) (Bu : hI h 2 10 = u) (Bs : hI h 43 2 = 10) (dk : DK nd m) (CC : CaC h N nd) {K : Int → XH → Prop} (k0 : ¬ (0 ≤ p1 ∧ p1 < 3) → K 1 (nT h)) (k : (0 ≤ p1 ∧ p1 < 3) → ∀ h2 g x h5, Rmb o u h h2 → HT h2 → Fr (SGo (rh N)) h2 g → g.length = h2.length → xhs g = xhs h2 → (∀ j, j = 9 ∨ j = 10 → el g 2 j = el h2 2 j) → HT g → CS g 8 (goalN N (lockF N p1.toNat)) nd → CaC g (goalN N (lockF N p1.toNat)) nd → bq x (fitP (goalN N (lockF N p1.toNat)) nd (rh N) (lockF N p1.toNat)) → h5 = sL g 467 0 (i2l x) → K 0 h5) : w_L_takeLock p1 K h := by
  unfold w_L_takeLock
  refine c_X12_takeLock T C W B0 Bo Bu Bs dk CC (fun q => ⟨rfl, k0 q⟩) (fun q g2 g x r t f l y e tg c cc qx => ?_)
  intro tx ux _
  intro h5 eh5 t5 u5
  exact k q _ _ _ _ r t f l y e tg c cc qx eh5
set_option maxHeartbeats 1000000 in
theorem c_X14_takeLock {p0 : Int} {h : XH} {N : Nat → Int} {m : Nat} {q u : Int} (T : HT h) (eN : N = nw h) (W : WF N m) (B1 : 0 ≤ q ∧ q < 10 ∧ 0 ≤ u ∧ u ≤ 10) (Rq : hI h 437 3 = q) (Ru : hI h 437 2 = u) {nd : Nat → ND} (Z : NTm h nd m) (S : ∀ l : Nat, l < 3 → fOK N (lockF N l)) {K : Int → XH → Prop} (k0 : ¬ (0 ≤ p0 ∧ p0 < 3) → ∀ h1 h2, HT h1 → h1 = sI h 437 5 0 → h2 = sI h1 437 5 1 → K 0 h2) (k : (0 ≤ p0 ∧ p0 < 3) → ∀ h1 h5 h7 x, HT h1 → h1 = sI h 437 5 0 → Rrec q u h1 h5 → HT h5 → Fr (fun b => b = 438) h5 h7 → Gr 1 (n12) h5 h7 → nw h7 = goalN N (lockF N p0.toNat) → bq x (fitP (goalN N (lockF N p0.toNat)) nd (rh N) (lockF N p0.toNat)) → K x h7) : w_X14_takeLock p0 K h := by
  unfold w_X14_takeLock
  intro h1 eh1 t1 u1
  have eN1 : N = nw h1 := eN.trans (nw_fr (by rw [eh1]; exact sameC_sV (by decide))).symm
  have Rq1 : hI h1 437 3 = q := by rw [eh1, hI_ni (by decide)]; exact Rq
  have Ru1 : hI h1 437 2 = u := by rw [eh1, hI_ni (by decide)]; exact Ru
  have Z1 := NTm_5 T eh1 Z
  refine c_X14_isLock ?_
  intro x2 qx2
  intro rx2 vx2
  refine c_X14_refused qx2 ?_
  intro x3 h4 qx3
  intro t4 u4
  intro rx3 vx3
  refine ⟨fun c13 => ?_, fun c13 => ?_⟩
  · obtain ⟨b_, e_⟩ : (0 ≤ p0 ∧ p0 < 3) ∧ h4 = h1 := by
      rcases qx3 with ⟨_, y, z⟩ | ⟨y, _⟩
      · exact ⟨y, z⟩
      · omega
    subst e_
    refine c_X14_record B1 t4 Rq1 Ru1 ?_
    intro h5 qh5
    have eN5 : N = nw h5 := eN1.trans (nw_fr (qh5.1 438 (by have := HT_len t4; omega) (by decide))).symm
    have Z5 := NTm_rec t4 qh5 Z1
    intro t5 u5
    rw [wr_of (x := 12 * p0) (by omega) (by omega), wr_of (by omega) (by omega)]
    refine c_setA (f := lockF N p0.toNat) t5 eN5 (by omega) (fun i hi => by unfold lockF; congr 1; omega) ?_
    intro a6 h7 f7 g7 l7 A7
    have L5 := HT_len t5
    intro t7 u7
    have eN7 : N = nw h7 := eN5.trans (nw_F t5 f7).symm
    refine c_X14_putGoal t7 eN7 W A7 (by omega) ?_
    intro h8 f8 l8 x8 e8
    have W8 := WF_goal (f := lockF N p0.toNat) W (rh_lt W)
    have Z8 := NTm_8 t7 f8 (NTm_fr t5 (fun b x _ => f7 b x id) (fun j _ => sameC_el (f7 437 (by omega) id) j) Z5)
    intro t8 u8
    refine c_X14_fitsHere t8 e8.symm W8 Z8 (AR_fr (f8 a6 (hk_lt A7.1 (by decide)) (by omega)) A7) (fOK_vf goal_VF W.1.2.2.2.1 (S p0.toNat (by omega))) ?_
    rw [show rh (goalN N (lockF N p0.toNat)) = rh N from rh_goal]
    intro x9 qx9
    intro rx9 vx9
    refine ⟨fun x => x = x9, ?_, ?_⟩
    · intro x10 rx10 z11
      rw [z11]
      exact k b_ _ _ _ _ t4 eh1 qh5 t5 (Fr_tr (Fr_mono f7 (fun _ z => z.elim)) u7.1 f8) ⟨by have := g7.1; omega, by have := g7.2; omega⟩ e8 qx9
    · refine ⟨fun c12 => ?_, fun c12 => ?_⟩
      · exact c12.symm
      · rcases vOr qx9 with y | y
        · exact absurd y c12
        · exact y.symm
  · have q_ : ¬ (0 ≤ p0 ∧ p0 < 3) ∧ h4 = sI h1 437 5 1 := by
      rcases qx3 with ⟨y, _⟩ | ⟨_, y, z⟩
      · omega
      · exact ⟨y, z⟩
    exact k0 q_.1 _ _ t1 eh1 q_.2
theorem d_takeLock {h : XH} {nd : Nat → ND} {o u p0 : Int} {c : Nat} (T : HT h) (R : Inv h nd o u c) (hc : c < 1000) {K : Int → XH → Prop} {J : XH → Prop} (k : ∀ h' o' u', HT h' → Inv h' nd o' u' (c + 1) → Gr (1 + 0 + 1) (xcs none + 0 + n12) h h' → J h') : w_L_takeLock p0 (LDw h (fun g Q => w_X14_takeLock p0 Q g) K J) h := by
  classical
  have W := R.1.2.1
  have C := R.1.1
  have hr := rh_lt W
  have rb := rc_lt hr
  obtain ⟨b0, p1', p2', p3', p4', p5'⟩ := id R.1.2.2.2.1
  refine dset2 (S := SGo (rh (nw h))) (N' := goalN (nw h) (lockF (nw h) p0.toNat)) (e := if 0 ≤ p0 ∧ p0 < 3 then 0 else 1) (x := if fitP (goalN (nw h) (lockF (nw h) p0.toNat)) nd (rh (nw h)) (lockF (nw h) p0.toNat) then 1 else 0) (n0 := 0) (s0 := 0) (wL := fun Q => w_L_takeLock p0 Q h) (wR := fun g Q => w_X14_takeLock p0 Q g) T R hc (by split <;> exact rgk rfl) (fun b y => by unfold SGo at y; omega) (fun ez => WF_goal W hr) (fun ez b => BdN_goal (WF_b W).2.2.2 hr b) (fun Q q0 q1 => ?_) (fun g Tg Z CRg g3 g2 eg Q q0 q1 => ?_) k
  · refine c_L_takeLock T C W b0 p1' p2' R.1.2.2.2.2.1 (DK_of (NTm_of R.1)) R.2.2.1 (fun y => ?_) (fun y h2 g x h5 r t2 f l xx e2 tg c cc qx e5 => ?_)
    · have := q0 (by rw [if_neg y]; decide) h T (CSt_rf _ _ _)
      rw [if_neg y] at this
      exact this
    · rw [bq_is qx] at e5
      exact q1 (if_pos y) h2 g h5 r t2 f l xx e2 tg c cc e5
  · refine c_X14_takeLock Tg eg.symm W (by omega) g3 g2 Z (fun l hl => (CS_l C hl).2.2.2) (fun y h1 h2 t1 e1 e2 => ?_) (fun y h1 h5 h7 x t1 e1 r t5 F7 G7 en qx => ?_)
    · refine q0 (by rw [if_neg y]; decide) h1 h1 h2 t1 e1 (RSt_rf _ _) t1 ?_
      rw [if_neg y]
      exact e2
    · rw [bq_is qx]
      exact q1 (if_pos y) h1 h1 h5 h7 t1 e1 (RSt_rf _ _) t1 r t5 (Fr_mono F7 (fun b y => .inr (.inl y))) (fun j _ => sameC_el (F7 437 (by have := HT_len t5; omega) (by decide)) j) G7 en
/-! two sets merged -/
def mx (f g : Nat → Int) (p : Nat) : Int := if cIn f p < cIn g p then cIn g p else cIn f p
def mrgF (f g : Nat → Int) (p : Nat) : Int := if mx f g p = -1 then -1 else mx f g p + (if f p = mx f g p + 1000000 ∨ g p = mx f g p + 1000000 then 1000000 else 0)
def nwr (N : Nat → Int) (a b : Int) : Int := if a = -1 then b else if b = -1 then a else if nV N a.toNat 1 < nV N b.toNat 1 then b else a
/-- the bits of a package in a set -/
def mbit (N : Nat → Int) (f : Nat → Int) (p j : Nat) : Prop := ¬ f p = -1 ∧ (j = (slF N f p).toNat ∨ j = 40 + p ∧ 1000000 ≤ f p)
theorem cIn_0 {f : Nat → Int} {p : Nat} (e : f p = -1) : cIn f p = -1 := if_pos e
theorem slF_0 {N : Nat → Int} {f : Nat → Int} {p : Nat} (e : f p = -1) : slF N f p = -1 := if_pos e
theorem mrg_at {N : Nat → Int} {m : Nat} (W : WV N m) {f g : Nat → Int} (S : fOK N f) (S2 : fOK N g) {p : Nat} (hp : p < 12) :
    (nwr N (slF N f p) (slF N g p) = -1 ∧ mrgF f g p = -1) ∨ ∃ r : Nat, nwr N (slF N f p) (slF N g p) = r ∧ r < vc N ∧ nV N r 0 = p ∧ (mrgF f g p = nV N r 1 ∨ mrgF f g p = nV N r 1 + 1000000) ∧ (1000000 ≤ mrgF f g p ↔ (slF N f p = r ∧ 1000000 ≤ f p) ∨ (slF N g p = r ∧ 1000000 ≤ g p)) := by
  unfold nwr mrgF mx
  by_cases a : f p = -1
  · rw [slF_0 a, cIn_0 a, if_pos rfl]
    by_cases b : g p = -1
    · rw [slF_0 b, cIn_0 b]
      exact .inl ⟨rfl, by simp⟩
    · obtain ⟨v, hv, es, e0, e1⟩ := fOK_v W S2 hp b
      have w := W.2.2.2.2.1 v hv
      rw [es, cIn_v W hv e1, if_pos (show (-1 : Int) < nV N v 1 by omega), if_neg (by omega)]
      refine .inr ⟨v, rfl, hv, e0, ?_, ?_⟩
      · by_cases c : f p = nV N v 1 + 1000000 ∨ g p = nV N v 1 + 1000000
        · rw [if_pos c]; exact .inr rfl
        · rw [if_neg c]; exact .inl (by omega)
      · by_cases c : f p = nV N v 1 + 1000000 ∨ g p = nV N v 1 + 1000000
        · rw [if_pos c]; omega
        · rw [if_neg c]; omega
  · obtain ⟨v, hv, es, e0, e1⟩ := fOK_v W S hp a
    have w := W.2.2.2.2.1 v hv
    rw [es, cIn_v W hv e1, if_neg (show ¬ (v : Int) = -1 by omega)]
    by_cases b : g p = -1
    · rw [slF_0 b, cIn_0 b, if_pos rfl, if_neg (by omega), if_neg (by omega)]
      refine .inr ⟨v, rfl, hv, e0, ?_, ?_⟩
      · by_cases c : f p = nV N v 1 + 1000000 ∨ g p = nV N v 1 + 1000000
        · rw [if_pos c]; exact .inr rfl
        · rw [if_neg c]; exact .inl (by omega)
      · by_cases c : f p = nV N v 1 + 1000000 ∨ g p = nV N v 1 + 1000000
        · rw [if_pos c]; omega
        · rw [if_neg c]; omega
    · obtain ⟨u, hu, us, u0, u1⟩ := fOK_v W S2 hp b
      have w2 := W.2.2.2.2.1 u hu
      rw [us, cIn_v W hu u1, if_neg (show ¬ (u : Int) = -1 by omega), Int.toNat_natCast, Int.toNat_natCast]
      by_cases d : nV N v 1 < nV N u 1
      · rw [if_pos d, if_pos d, if_neg (by omega)]
        have nvu : ¬ v = u := fun z => by subst z; omega
        refine .inr ⟨u, rfl, hu, u0, ?_, ?_⟩
        · by_cases c : f p = nV N u 1 + 1000000 ∨ g p = nV N u 1 + 1000000
          · rw [if_pos c]; exact .inr rfl
          · rw [if_neg c]; exact .inl (by omega)
        · by_cases c : f p = nV N u 1 + 1000000 ∨ g p = nV N u 1 + 1000000
          · rw [if_pos c]; omega
          · rw [if_neg c]; omega
      · rw [if_neg d, if_neg d, if_neg (by omega)]
        have evu : nV N v 1 = nV N u 1 → v = u := fun z => W.2.2.2.2.2.2 v u hv hu (by omega) z
        have nvu : ¬ nV N v 1 = nV N u 1 → ¬ v = u := fun z y => z (by rw [y])
        refine .inr ⟨v, rfl, hv, e0, ?_, ?_⟩
        · by_cases c : f p = nV N v 1 + 1000000 ∨ g p = nV N v 1 + 1000000
          · rw [if_pos c]; exact .inr rfl
          · rw [if_neg c]; exact .inl (by omega)
        · by_cases q : nV N v 1 = nV N u 1
          · have := evu q
            subst this
            by_cases c : f p = nV N v 1 + 1000000 ∨ g p = nV N v 1 + 1000000
            · rw [if_pos c]; omega
            · rw [if_neg c]; omega
          · have := nvu q
            by_cases c : f p = nV N v 1 + 1000000 ∨ g p = nV N v 1 + 1000000
            · rw [if_pos c]; omega
            · rw [if_neg c]; omega
theorem SetR_mk {N : Nat → Int} {m : Nat} (W : WV N m) {b : BitVec 64} {f : Nat → Int} (S : fOK N f) (e : ∀ j, b.getLsbD j = true ↔ ∃ p, p < pc N ∧ mbit N f p j) : SetR N b f := by
  have v40 := vc64 W
  have b12 := W.2.1
  have pcN : pc N = (N 0).toNat := rfl
  refine ⟨fun v hv => ?_, fun p hp => ?_, fun j hj => ?_, S⟩
  · rw [e]
    constructor
    · rintro ⟨p, hp, nf, x⟩
      obtain ⟨w, hw, es, e0, e1⟩ := fOK_v W S (p := p) (by omega) nf
      have : v = w := by
        rcases x with x | ⟨x, -⟩
        · rw [es, Int.toNat_natCast] at x; exact x
        · omega
      subst this
      rw [e0, Int.toNat_natCast]
      exact ⟨hw, e1⟩
    · rintro ⟨hw, x⟩
      have w := W.2.2.2.2.1 v hw
      exact ⟨(nV N v 0).toNat, by omega, by omega, .inl (by rw [slF_r W hw (by omega) x, Int.toNat_natCast])⟩
  · rw [e]
    constructor
    · rintro ⟨q, hq, nf, x⟩
      obtain ⟨w, hw, es, e0, e1⟩ := fOK_v W S (p := q) (by omega) nf
      rcases x with x | ⟨x, y⟩
      · rw [es, Int.toNat_natCast] at x; omega
      · rw [show p = q by omega]; exact y
    · intro x
      obtain ⟨w, hw, es, e0, e1⟩ := fOK_v W S hp (by omega)
      have w2 := W.2.2.2.2.1 w hw
      exact ⟨p, by omega, by omega, .inr ⟨rfl, x⟩⟩
  · cases c : b.getLsbD j with
    | false => rfl
    | true =>
      obtain ⟨q, hq, nf, x⟩ := (e j).mp c
      obtain ⟨w, hw, es, e0, e1⟩ := fOK_v W S (p := q) (by omega) nf
      rcases x with x | ⟨x, y⟩
      · rw [es, Int.toNat_natCast] at x; omega
      · omega
theorem mrg_OK {N : Nat → Int} {m : Nat} (W : WV N m) {f g : Nat → Int} (S : fOK N f) (S2 : fOK N g) : fOK N (mrgF f g) := fun p hp => by
  rcases mrg_at W S S2 hp with ⟨-, x⟩ | ⟨r, -, hr, r0, r1, -⟩
  · exact .inl x
  · exact .inr ⟨r, hr, r0, r1⟩
set_option maxHeartbeats 1000000 in
theorem c_X8_newerOf {p0 p1 : Int} {h : XH} {N : Nat → Int} {nd : Nat → ND} {m : Nat} (T : HT h) (C : CS h 8 N nd) (W : WF N m) (h0 : -1 ≤ p0 ∧ p0 < N 4) (h1 : -1 ≤ p1 ∧ p1 < N 4) {K : Int → Prop} (k : K (nwr N p0 p1)) : w_X8_newerOf p0 p1 K h := by
  unfold w_X8_newerOf
  have w40 := W.1.2.2.2.1
  have vcN : vc N = (N 4).toNat := rfl
  unfold nwr at k
  refine ⟨p0 = -1 ∨ p1 = -1, ?_, ?_⟩
  · intro z1
    refine ⟨fun x => x = (if p0 = -1 then p1 else p0), ?_, ?_⟩
    · intro x2 rx2 z3
      rw [z3]
      by_cases c : p0 = -1
      · rw [if_pos c] at k ⊢; exact k
      · rw [if_neg c, if_pos (z1.resolve_left c)] at k
        rw [if_neg c]; exact k
    · refine ⟨fun c4 => ?_, fun c4 => ?_⟩
      · rw [if_neg c4]
      · rw [if_pos (Decidable.not_not.mp c4)]
  · refine ⟨fun c11 => ?_, fun c11 => ?_⟩
    · exact .inl c11
    · refine ⟨fun c10 => ?_, fun c10 => ?_⟩
      · refine ⟨(by omega), ?_⟩
        refine ⟨(by omega), ?_⟩
        refine ⟨fun x => x = (if nV N p0.toNat 1 < nV N p1.toNat 1 then p1 else p0), ?_, ?_⟩
        · intro x7 rx7 z8
          rw [z8]
          rw [if_neg c11, if_neg c10] at k
          exact k
        · refine ⟨fun c9 => ?_, fun c9 => ?_⟩
          · rw [(V8 C.1 (show p0.toNat < vc N by omega)).2.1, (V8 C.1 (show p1.toNat < vc N by omega)).2.1] at c9
            rw [if_pos c9]
          · rw [(V8 C.1 (show p0.toNat < vc N by omega)).2.1, (V8 C.1 (show p1.toNat < vc N by omega)).2.1] at c9
            rw [if_neg c9]
      · exact .inr (Decidable.not_not.mp c10)
set_option maxHeartbeats 1000000 in
theorem c_X12_merged {p0 p1 : BitVec 64} {f g : Nat → Int} {h : XH} {N : Nat → Int} {nd : Nat → ND} {m : Nat} (T : HT h) (C : CS h 8 N nd) (W : WF N m) (S : SetR N p0 f) (S2 : SetR N p1 g) {K : BitVec 64 → Prop} (k : ∀ b, SetR N b (mrgF f g) → K b) : w_X12_merged p0 p1 K h := by
  unfold w_X12_merged
  have w0 := W.1.1
  have b12 := W.1.2.1
  have w4 := W.1.2.2.1
  have v40 := vc64 W.1
  have vcN : vc N = (N 4).toNat := rfl
  have pcN : pc N = (N 0).toNat := rfl
  have P1 := (V80 C.1).1
  refine ⟨fun b x => 0 ≤ x ∧ x ≤ N 0 ∧ ∀ j, b.getLsbD j = true ↔ ∃ p : Nat, (p : Int) < x ∧ mbit N (mrgF f g) p j, fun _ x => (N 0 - x).toNat, ?_, ?_⟩
  · exact ⟨by omega, w0, fun j => ⟨fun z => (by rw [BitVec.getLsbD_zero] at z; cases z), fun ⟨p, y, _⟩ => by omega⟩⟩
  · intro b1 x2 rx2 z6
    obtain ⟨z0, z1, zb⟩ := z6
    refine ⟨fun c25 => ?_, fun c25 => ?_⟩
    · refine k _ (SetR_mk W.1 (mrg_OK W.1 S.2.2.2 S2.2.2.2) (fun j => (zb j).trans ⟨fun ⟨p, a, b⟩ => ⟨p, by omega, b⟩, fun ⟨p, a, b⟩ => ⟨p, by omega, b⟩⟩))
    · obtain ⟨p, rfl⟩ : ∃ p : Nat, x2 = p := ⟨x2.toNat, by omega⟩
      have p12 : p < 12 := by omega
      refine c_X8_idIn C.1 ⟨W.1.2.2.1, W.1.2.2.2.1⟩ ?_
      rw [idF_F W.1 S p12]
      intro _
      refine c_X8_idIn C.1 ⟨W.1.2.2.1, W.1.2.2.2.1⟩ ?_
      rw [idF_F W.1 S2 p12]
      intro _
      have r1 := idF_r (N := N) (s := p0) (p := p) w4
      have r2 := idF_r (N := N) (s := p1) (p := p) w4
      rw [idF_F W.1 S p12] at r1
      rw [idF_F W.1 S2 p12] at r2
      have ma := mrg_at W.1 S.2.2.2 S2.2.2.2 p12
      have bp := S.2.1 p p12
      have bq_ := S2.2.1 p p12
      refine c_X8_newerOf T C W ⟨r1.1, r1.2.1⟩ ⟨r2.1, r2.2.1⟩ ?_
      intro _
      refine ⟨fun b => ∀ j, b.getLsbD j = true ↔ b1.getLsbD j = true ∨ mbit N (mrgF f g) p j, ?_, ?_⟩
      · intro b10 z11
        intro x12 ex12 rx12
        rw [wr_of (by omega) (by omega)] at ex12
        refine ⟨⟨by omega, by omega, fun j => ?_⟩, by dsimp only; omega⟩
        rw [z11 j, zb j]
        constructor
        · rintro (⟨q, a, b⟩ | b)
          · exact ⟨q, by omega, b⟩
          · exact ⟨p, by omega, b⟩
        · rintro ⟨q, a, b⟩
          by_cases c : q = p
          · rw [c] at b; exact .inr b
          · exact .inl ⟨q, by omega, b⟩
      · refine ⟨fun c24 => ?_, fun c24 => ?_⟩
        · rcases ma with ⟨-, x⟩ | ⟨r, x, -⟩
          · exact fun j => ⟨.inl, fun z => z.elim id (fun y => absurd x y.1)⟩
          · omega
        · obtain ⟨r, er, hr, r0, r1_, ro⟩ := ma.resolve_left (fun z => c24 z.1)
          have wr_ := W.1.2.2.2.2.1 r hr
          have esl := slF_r W.1 hr r0 r1_
          have nm : ¬ mrgF f g p = -1 := by omega
          intro b13 eb13
          rw [er, lshl1 (by omega)] at eb13
          refine ⟨fun b => ∀ j, b.getLsbD j = (decide (j = 40 + p) && decide (slF N f p = r ∧ 1000000 ≤ f p)), ?_, ?_⟩
          · intro b14 z15
            intro b16 eb16
            refine ⟨fun b => ∀ j, b.getLsbD j = (decide (j = 40 + p) && decide (slF N g p = r ∧ 1000000 ≤ g p)), ?_, ?_⟩
            · intro b17 z18
              intro b19 eb19
              intro j
              have m : mbit N (mrgF f g) p j ↔ j = r ∨ j = 40 + p ∧ ((slF N f p = r ∧ 1000000 ≤ f p) ∨ (slF N g p = r ∧ 1000000 ≤ g p)) := by
                unfold mbit
                rw [esl, Int.toNat_natCast, ro]
                exact ⟨fun z => z.2, fun z => ⟨nm, z⟩⟩
              rw [m, eb19, eb16, eb13, BitVec.getLsbD_or, BitVec.getLsbD_or, BitVec.getLsbD_or, z15 j, z18 j, bit1_at (by omega)]
              simp only [Bool.or_eq_true, Bool.and_eq_true, decide_eq_true_eq]
              constructor
              · rintro (((a | a) | ⟨a, b⟩) | ⟨a, b⟩)
                · exact .inl a
                · exact .inr (.inl a)
                · exact .inr (.inr ⟨a, .inl b⟩)
                · exact .inr (.inr ⟨a, .inr b⟩)
              · rintro (a | a | ⟨a, b | b⟩)
                · exact .inl (.inl (.inl a))
                · exact .inl (.inl (.inr a))
                · exact .inl (.inr ⟨a, b⟩)
                · exact .inr ⟨a, b⟩
            · refine ⟨fun c21 => ?_, fun c21 => ?_⟩
              · intro j
                rw [BitVec.getLsbD_zero, df (show ¬ (slF N g p = r ∧ 1000000 ≤ g p) by omega), Bool.and_false]
              · refine c_X12_switchOf (by omega) ?_
                rw [Int.toNat_natCast]
                intro j
                rw [BitVec.getLsbD_and, bit1_at (by omega)]
                by_cases c : j = 40 + p
                · subst c
                  by_cases d : 1000000 ≤ g p
                  · rw [bq_.mpr d, dt (show slF N g p = r ∧ 1000000 ≤ g p by omega)]; simp
                  · rw [bt (fun z => d (bq_.mp z)), df (show ¬ (slF N g p = r ∧ 1000000 ≤ g p) by omega)]; simp
                · rw [df c]; simp
          · refine ⟨fun c23 => ?_, fun c23 => ?_⟩
            · intro j
              rw [BitVec.getLsbD_zero, df (show ¬ (slF N f p = r ∧ 1000000 ≤ f p) by omega), Bool.and_false]
            · refine c_X12_switchOf (by omega) ?_
              rw [Int.toNat_natCast]
              intro j
              rw [BitVec.getLsbD_and, bit1_at (by omega)]
              by_cases c : j = 40 + p
              · subst c
                by_cases d : 1000000 ≤ f p
                · rw [bp.mpr d, dt (show slF N f p = r ∧ 1000000 ≤ f p by omega)]; simp
                · rw [bt (fun z => d (bp.mp z)), df (show ¬ (slF N f p = r ∧ 1000000 ≤ f p) by omega)]; simp
              · rw [df c]; simp
set_option maxHeartbeats 1000000 in
theorem c_X12_mergeLocks {p0 p1 : Int} {h : XH} {N : Nat → Int} {nd : Nat → ND} {m : Nat} {o u : Int} (T : HT h) (C : CS h 8 N nd) (W : WF N m) (B0 : 0 ≤ o ∧ o < 10 ∧ 0 ≤ u ∧ u ≤ 10) (Bo : hI h 2 9 = o) (Bu : hI h 2 10 = u) (Bs : hI h 43 2 = 10) (dk : DK nd m) (CC : CaC h N nd) {K : Int → XH → Prop} {E : Nat → XH → Prop} (k0 : ¬ ((0 ≤ p0 ∧ p0 < 3) ∧ (0 ≤ p1 ∧ p1 < 3)) → E 1 (nT h)) (k : ((0 ≤ p0 ∧ p0 < 3) ∧ (0 ≤ p1 ∧ p1 < 3)) → ∀ h2 g x, Rmb o u h h2 → HT h2 → Fr (SGo (rh N)) h2 g → g.length = h2.length → xhs g = xhs h2 → (∀ j, j = 9 ∨ j = 10 → el g 2 j = el h2 2 j) → HT g → CS g 8 (goalN N (mrgF (lockF N p0.toNat) (lockF N p1.toNat))) nd → CaC g (goalN N (mrgF (lockF N p0.toNat) (lockF N p1.toNat))) nd → bq x (fitP (goalN N (mrgF (lockF N p0.toNat) (lockF N p1.toNat))) nd (rh N) (mrgF (lockF N p0.toNat) (lockF N p1.toNat))) → K x g) : w_X12_mergeLocks p0 p1 K E h := by
  unfold w_X12_mergeLocks
  refine c_X12_checkLock (fun q => k0 (fun z => q z.1)) (fun q1 => ?_)
  refine c_X12_checkLock (fun q => k0 (fun z => q z.2)) (fun q2 => ?_)
  refine c_X12_remember B0 T Bo Bu Bs ?_
  intro h1 qh1
  intro t1 u1
  have C1 := Rmb_CS T qh1 B0 W C
  have L := HT_len T
  have bb := bs_lt (k := ((o + u) % 10).toNat) (by omega)
  refine ⟨q1, ?_⟩
  refine ⟨q2, ?_⟩
  refine c_X12_merged t1 C1 W (CS_l C1 (l := p0.toNat) (by omega)) (CS_l C1 (l := p1.toNat) (by omega)) ?_
  intro b4 S4
  refine c_X12_takeGoal t1 C1 W dk S4 (CaC_0 CC qh1.2.2.2.1 (qh1.1 58 (by omega) (by omega))) ?_
  intro h6 x5 t6 f6 l6 y6 e6 c6 cc6 q6
  intro _ _ _
  exact k ⟨q1, q2⟩ _ _ _ qh1 t1 f6 l6 y6 e6 t6 c6 cc6 q6
set_option maxHeartbeats 1000000 in
theorem c_L_mergeLocks {p1 p2 : Int} {h : XH} {N : Nat → Int} {nd : Nat → ND} {m : Nat} {o u : Int} (T : HT h) (C : CS h 8 N nd) (W : WF N m) (B0 : 0 ≤ o ∧ o < 10 ∧ 0 ≤ u ∧ u ≤ 10) (Bo : hI h 2 9 = o) (Bu : hI h 2 10 = u) (Bs : hI h 43 2 = 10) (dk : DK nd m) (CC : CaC h N nd) {K : Int → XH → Prop} (k0 : ¬ ((0 ≤ p1 ∧ p1 < 3) ∧ (0 ≤ p2 ∧ p2 < 3)) → K 1 (nT h)) (k : ((0 ≤ p1 ∧ p1 < 3) ∧ (0 ≤ p2 ∧ p2 < 3)) → ∀ h2 g x h5, Rmb o u h h2 → HT h2 → Fr (SGo (rh N)) h2 g → g.length = h2.length → xhs g = xhs h2 → (∀ j, j = 9 ∨ j = 10 → el g 2 j = el h2 2 j) → HT g → CS g 8 (goalN N (mrgF (lockF N p1.toNat) (lockF N p2.toNat))) nd → CaC g (goalN N (mrgF (lockF N p1.toNat) (lockF N p2.toNat))) nd → bq x (fitP (goalN N (mrgF (lockF N p1.toNat) (lockF N p2.toNat))) nd (rh N) (mrgF (lockF N p1.toNat) (lockF N p2.toNat))) → h5 = sL g 467 0 (i2l x) → K 0 h5) : w_L_mergeLocks p1 p2 K h := by
  unfold w_L_mergeLocks
  refine c_X12_mergeLocks T C W B0 Bo Bu Bs dk CC (fun q => ⟨rfl, k0 q⟩) (fun q g2 g x r t f l y e tg c cc qx => ?_)
  intro tx ux _
  intro h5 eh5 t5 u5
  exact k q _ _ _ _ r t f l y e tg c cc qx eh5
set_option maxHeartbeats 1000000 in
theorem c_X14_mergeLocks {p0 p1 : Int} {h : XH} {N : Nat → Int} {m : Nat} {q u : Int} (T : HT h) (eN : N = nw h) (W : WF N m) (B1 : 0 ≤ q ∧ q < 10 ∧ 0 ≤ u ∧ u ≤ 10) (Rq : hI h 437 3 = q) (Ru : hI h 437 2 = u) {nd : Nat → ND} (Z : NTm h nd m) (S : ∀ l : Nat, l < 3 → fOK N (lockF N l)) {K : Int → XH → Prop} (k0 : ¬ ((0 ≤ p0 ∧ p0 < 3) ∧ (0 ≤ p1 ∧ p1 < 3)) → ∀ h1 h2, HT h1 → h1 = sI h 437 5 0 → h2 = sI h1 437 5 1 → K 0 h2) (k : ((0 ≤ p0 ∧ p0 < 3) ∧ (0 ≤ p1 ∧ p1 < 3)) → ∀ h1 h5 h7 x, HT h1 → h1 = sI h 437 5 0 → Rrec q u h1 h5 → HT h5 → Fr (fun b => b = 438) h5 h7 → Gr 3 (3 * n12) h5 h7 → nw h7 = goalN N (mrgF (lockF N p0.toNat) (lockF N p1.toNat)) → bq x (fitP (goalN N (mrgF (lockF N p0.toNat) (lockF N p1.toNat))) nd (rh N) (mrgF (lockF N p0.toNat) (lockF N p1.toNat))) → K x h7) : w_X14_mergeLocks p0 p1 K h := by
  unfold w_X14_mergeLocks
  intro h1 eh1 t1 u1
  have eN1 : N = nw h1 := eN.trans (nw_fr (by rw [eh1]; exact sameC_sV (by decide))).symm
  have Rq1 : hI h1 437 3 = q := by rw [eh1, hI_ni (by decide)]; exact Rq
  have Ru1 : hI h1 437 2 = u := by rw [eh1, hI_ni (by decide)]; exact Ru
  have Z1 := NTm_5 T eh1 Z
  refine c_X14_isLock ?_
  intro x2 qx2
  intro rx2 vx2
  refine ⟨fun x => bq x ((0 ≤ p0 ∧ p0 < 3) ∧ (0 ≤ p1 ∧ p1 < 3)), ?_, ?_⟩
  · intro x3 rx3 z4
    refine c_X14_refused z4 ?_
    intro x5 h6 qx5
    intro t6 u6
    intro rx5 vx5
    refine ⟨fun c46 => ?_, fun c46 => ?_⟩
    · obtain ⟨b_, e_⟩ : ((0 ≤ p0 ∧ p0 < 3) ∧ (0 ≤ p1 ∧ p1 < 3)) ∧ h6 = h1 := by
        rcases qx5 with ⟨_, y, z⟩ | ⟨y, _⟩
        · exact ⟨y, z⟩
        · omega
      subst e_
      refine c_X14_record B1 t6 Rq1 Ru1 ?_
      intro h7 qh7
      have eN7 : N = nw h7 := eN1.trans (nw_fr (qh7.1 438 (by have := HT_len t6; omega) (by decide))).symm
      have Z7 := NTm_rec t6 qh7 Z1
      intro t7 u7
      rw [wr_of (x := 12 * p0) (by omega) (by omega), wr_of (x := 1678 + 12 * p0) (by omega) (by omega)]
      refine c_setA (f := lockF N p0.toNat) t7 eN7 (by omega) (fun i hi => by unfold lockF; congr 1; omega) ?_
      intro a8 h9 f9 g9 l9 A9
      have L7 := HT_len t7
      intro t9 u9
      have eN9 : N = nw h9 := eN7.trans (nw_F t7 f9).symm
      have L9 := HT_len t9
      rw [wr_of (x := 12 * p1) (by omega) (by omega), wr_of (x := 1678 + 12 * p1) (by omega) (by omega)]
      refine c_setA (f := lockF N p1.toNat) t9 eN9 (by omega) (fun i hi => by unfold lockF; congr 1; omega) ?_
      intro a10 h11 f11 g11 l11 A11
      intro t11 u11
      have k9 := hk_lt A9.1 (by decide)
      have k11 := hk_lt A11.1 (by decide)
      have L11 := HT_len t11
      intro a12 h13 ea12 eh13 t13 u13 ca12 la12
      have f13 : Fr (fun _ => False) h11 h13 := by rw [eh13]; exact Fr_app
      have l13 : h13.length = h11.length + 1 := by rw [eh13]; unfold nA; exact len_app _ _
      have f713 : Fr (fun _ => False) h7 h13 := Fr_tr (Fr_tr f9 u9.1 f11) (by have := u9.1; have := u11.1; omega) f13
      have A8 : AR h13 a8 (lockF N p0.toNat) := AR_fr (f13 _ (by have := u11.1; omega) id) (AR_fr (f11 _ k9 id) A9)
      have A10 : AR h13 a10 (lockF N p1.toNat) := AR_fr (f13 _ k11 id) A11
      have g713 : Gr 3 (3 * n12) h7 h13 := by
        have g13 : Gr 1 n12 h11 h13 := by rw [eh13]; exact Gr_n12 _
        have := Gr_tr (Gr_tr g9 g11) g13
        exact Gr_mono this (by omega) (by omega)
      refine ⟨fun x g => 0 ≤ x ∧ x ≤ 12 ∧ Fr (fun b => b = a12) h13 g ∧ g.length = h13.length ∧ xhs g = xhs h13 ∧ hk g a12 = 100 ∧ hn g a12 = 12 ∧ ∀ p : Nat, (p : Int) < x → hI g a12 p = mrgF (lockF N p0.toNat) (lockF N p1.toNat) p, fun x _ => (12 - x).toNat, ?_, ?_⟩
      · exact ⟨by omega, by omega, Fr_rf _ _, rfl, rfl, ca12, la12, fun p hp => by omega⟩
      · intro x14 h17 t17 s17 rx14 z18
        obtain ⟨z0, z1, zf, zl, zx, zk, zn, zv⟩ := z18
        have ka : 468 ≤ a12 ∧ h7.length ≤ a12 := by have := u9.1; have := u11.1; omega
        have A8b : AR h17 a8 (lockF N p0.toNat) := AR_fr (zf _ (by have := u11.1; omega) (by omega)) A8
        have A10b : AR h17 a10 (lockF N p1.toNat) := AR_fr (zf _ (by omega) (by omega)) A10
        refine ⟨fun c45 => ?_, fun c45 => ?_⟩
        · have f717 : Fr (fun b => False) h7 h17 := fun b hb _ => sameC_tr (f713 b hb id) (zf b (by have := u9.1; have := u11.1; omega) (by omega))
          have A12 : AR h17 a12 (mrgF (lockF N p0.toNat) (lockF N p1.toNat)) := ⟨zk, zn, fun i hi => zv i (by omega)⟩
          refine c_X14_putGoal t17 (eN7.trans (nw_F t7 f717).symm) W A12 (by omega) ?_
          intro h19 f19 l19 x19 e19
          have W19 := WF_goal (f := mrgF (lockF N p0.toNat) (lockF N p1.toNat)) W (rh_lt W)
          have Z19 := NTm_8 t17 f19 (NTm_fr t7 (fun b x _ => f717 b x id) (fun j _ => sameC_el (f717 437 (by omega) id) j) Z7)
          intro t19 u19
          refine c_X14_fitsHere t19 e19.symm W19 Z19 (AR_fr (f19 a12 (by omega) (by omega)) A12) (fOK_vf goal_VF W.1.2.2.2.1 (mrg_OK W.1 (S p0.toNat (by omega)) (S p1.toNat (by omega)))) ?_
          rw [show rh (goalN N (mrgF (lockF N p0.toNat) (lockF N p1.toNat))) = rh N from rh_goal]
          intro x20 qx20
          intro rx20 vx20
          refine ⟨fun x => x = x20, ?_, ?_⟩
          · intro x21 rx21 z22
            rw [z22]
            exact k b_ _ _ _ _ t6 eh1 qh7 t7 (Fr_tr (Fr_mono f717 (fun _ z => z.elim)) (by have := u9.1; have := u11.1; omega) f19) ⟨by have := g713.1; omega, by have := g713.2; omega⟩ e19 qx20
          · refine ⟨fun c23 => ?_, fun c23 => ?_⟩
            · exact c23.symm
            · rcases vOr qx20 with y | y
              · exact absurd y c23
              · exact y.symm
        · have fr1 : ∀ l : Nat, l < 3 → lockF N l x14.toNat = -1 ∨ (0 ≤ lockF N l x14.toNat ∧ lockF N l x14.toNat < 2000000) := fun l hl => by
            rcases S l hl x14.toNat (by omega) with y | ⟨v, hv, _, e1⟩
            · exact .inl y
            · have := W.1.2.2.2.2.1 v hv; omega
          have i1 := fr1 p0.toNat (by omega)
          have i2 := fr1 p1.toNat (by omega)
          refine c_X14_codeIn A8b (by omega) i1 ?_
          intro _
          refine c_X14_codeIn A10b (by omega) i2 ?_
          intro _
          refine c_J9_max_7cf53 ?_
          intro x26 qx26
          have em : x26 = mx (lockF N p0.toNat) (lockF N p1.toNat) x14.toNat := by
            unfold mx
            split <;> omega
          have c1b : -1 ≤ cIn (lockF N p0.toNat) x14.toNat ∧ cIn (lockF N p0.toNat) x14.toNat < 1000000 := by unfold cIn; split <;> omega
          have c2b : -1 ≤ cIn (lockF N p1.toNat) x14.toNat ∧ cIn (lockF N p1.toNat) x14.toNat < 1000000 := by unfold cIn; split <;> omega
          have ev1 := A8b.2.2 x14.toNat (by omega)
          have ev2 := A10b.2.2 x14.toNat (by omega)
          intro rx26
          refine ⟨fun x => bq x (¬ x26 = -1 ∧ (lockF N p0.toNat x14.toNat = x26 + 1000000 ∨ lockF N p1.toNat x14.toNat = x26 + 1000000)), ?_, ?_⟩
          · intro x27 rx27 z28
            refine ⟨fun x => x26 + x = mrgF (lockF N p0.toNat) (lockF N p1.toNat) x14.toNat, ?_, ?_⟩
            · intro x29 rx29 z30
              refine ⟨zk, ?_⟩
              refine ⟨(by omega), ?_⟩
              intro h33 eh33 t33 u33
              intro x34 ex34 rx34
              have rb : -1 ≤ x26 + x29 ∧ x26 + x29 < 2000000 := by
                rw [z30]
                unfold mrgF
                rw [← em]
                split
                · omega
                · split <;> omega
              rw [wr_of (x := x26 + x29) (by omega) (by omega)] at eh33
              rw [wr_of (by omega) (by omega)] at ex34
              have s33 : ∀ b, ¬ b = a12 → sameC h17 h33 b := fun b n => by rw [eh33]; exact sameC_sV (fun z => n z.symm)
              refine ⟨⟨by omega, by omega, fun b hb n => sameC_tr (zf b hb n) (s33 b n), by rw [eh33, len_sV]; exact zl, by rw [eh33, xhs_sV]; exact zx, by rw [eh33, hk_sV]; exact zk, by rw [eh33, hn_sV]; exact zn, fun p hp => ?_⟩, by dsimp only; omega⟩
              by_cases c : p = x14.toNat
              · rw [c, eh33, hI_eq (by omega) (by unfold rg; omega)]; exact z30
              · rw [eh33, hI_ni (fun z => c z.symm)]; exact zv p (by omega)
            · refine ⟨fun c35 => ?_, fun c35 => ?_⟩
              · have y := (bq1 z28).2.1.mp c35
                unfold mrgF
                rw [← em]
                by_cases c : x26 = -1
                · rw [if_pos c]; omega
                · rw [if_neg c, if_neg (fun z => y ⟨c, z⟩)]
              · have y := (bq1 z28).2.2.1.mp c35
                unfold mrgF
                rw [← em, if_neg y.1, if_pos y.2]
          · refine ⟨¬ (¬ x26 = -1 ∧ (lockF N p0.toNat x14.toNat = x26 + 1000000 ∨ lockF N p1.toNat x14.toNat = x26 + 1000000)), ?_, ?_⟩
            · intro z36
              exact bqF z36
            · refine ⟨fun c44 => ?_, fun c44 => ?_⟩
              · exact fun z => z.1 c44
              · rw [wr_of (x := x26 + 1000000) (by omega) (by omega)]
                refine ⟨A8b.1, ?_⟩
                refine ⟨(by rw [A8b.2.1]; omega), ?_⟩
                refine ⟨¬ x26 = -1 ∧ (lockF N p0.toNat x14.toNat = x26 + 1000000 ∨ lockF N p1.toNat x14.toNat = x26 + 1000000), ?_, ?_⟩
                · intro z39
                  exact bqT z39
                · refine ⟨fun c43 => ?_, fun c43 => ?_⟩
                  · exact ⟨c44, .inl (ev1.symm.trans c43)⟩
                  · refine ⟨A10b.1, ?_⟩
                    refine ⟨(by rw [A10b.2.1]; omega), ?_⟩
                    refine ⟨fun c42 => ?_, fun c42 => ?_⟩
                    · exact fun z => z.2.elim (fun y => c43 (ev1.trans y)) (fun y => c42 (ev2.trans y))
                    · exact ⟨c44, .inr (ev2.symm.trans (Decidable.not_not.mp c42))⟩
    · have q_ : ¬ ((0 ≤ p0 ∧ p0 < 3) ∧ (0 ≤ p1 ∧ p1 < 3)) ∧ h6 = sI h1 437 5 1 := by
        rcases qx5 with ⟨y, _⟩ | ⟨_, y, z⟩
        · omega
        · exact ⟨y, z⟩
      exact k0 q_.1 _ _ t1 eh1 q_.2
  · refine ⟨¬ ((0 ≤ p0 ∧ p0 < 3) ∧ (0 ≤ p1 ∧ p1 < 3)), ?_, ?_⟩
    · intro z47
      exact bqF z47
    · refine ⟨fun c50 => ?_, fun c50 => ?_⟩
      · exact fun z => (bq1 qx2).2.1.mp c50 z.1
      · refine c_X14_isLock ?_
        intro x48 qx48
        intro rx48 vx48
        refine ⟨fun c49 => ?_, fun c49 => ?_⟩
        · exact fun z => (bq1 qx48).2.1.mp c49 z.2
        · exact bqT ⟨(bq1 qx2).2.2.1.mp c50, (bq1 qx48).2.2.1.mp c49⟩
theorem d_mergeLocks {h : XH} {nd : Nat → ND} {o u p0 p1 : Int} {c : Nat} (T : HT h) (R : Inv h nd o u c) (hc : c < 1000) {K : Int → XH → Prop} {J : XH → Prop} (k : ∀ h' o' u', HT h' → Inv h' nd o' u' (c + 1) → Gr (1 + 0 + 3) (xcs none + 0 + 3 * n12) h h' → J h') : w_L_mergeLocks p0 p1 (LDw h (fun g Q => w_X14_mergeLocks p0 p1 Q g) K J) h := by
  classical
  have W := R.1.2.1
  have C := R.1.1
  have hr := rh_lt W
  have rb := rc_lt hr
  obtain ⟨b0, p1', p2', p3', p4', p5'⟩ := id R.1.2.2.2.1
  refine dset2 (S := SGo (rh (nw h))) (N' := goalN (nw h) (mrgF (lockF (nw h) p0.toNat) (lockF (nw h) p1.toNat))) (e := if (0 ≤ p0 ∧ p0 < 3) ∧ (0 ≤ p1 ∧ p1 < 3) then 0 else 1) (x := if fitP (goalN (nw h) (mrgF (lockF (nw h) p0.toNat) (lockF (nw h) p1.toNat))) nd (rh (nw h)) (mrgF (lockF (nw h) p0.toNat) (lockF (nw h) p1.toNat)) then 1 else 0) (n0 := 0) (s0 := 0) (wL := fun Q => w_L_mergeLocks p0 p1 Q h) (wR := fun g Q => w_X14_mergeLocks p0 p1 Q g) T R hc (by split <;> exact rgk rfl) (fun b y => by unfold SGo at y; omega) (fun ez => WF_goal W hr) (fun ez b => BdN_goal (WF_b W).2.2.2 hr b) (fun Q q0 q1 => ?_) (fun g Tg Z CRg g3 g2 eg Q q0 q1 => ?_) k
  · refine c_L_mergeLocks T C W b0 p1' p2' R.1.2.2.2.2.1 (DK_of (NTm_of R.1)) R.2.2.1 (fun y => ?_) (fun y h2 g x h5 r t2 f l xx e2 tg c cc qx e5 => ?_)
    · have := q0 (by rw [if_neg y]; decide) h T (CSt_rf _ _ _)
      rw [if_neg y] at this
      exact this
    · rw [bq_is qx] at e5
      exact q1 (if_pos y) h2 g h5 r t2 f l xx e2 tg c cc e5
  · refine c_X14_mergeLocks Tg eg.symm W (by omega) g3 g2 Z (fun l hl => (CS_l C hl).2.2.2) (fun y h1 h2 t1 e1 e2 => ?_) (fun y h1 h5 h7 x t1 e1 r t5 F7 G7 en qx => ?_)
    · refine q0 (by rw [if_neg y]; decide) h1 h1 h2 t1 e1 (RSt_rf _ _) t1 ?_
      rw [if_neg y]
      exact e2
    · rw [bq_is qx]
      exact q1 (if_pos y) h1 h1 h5 h7 t1 e1 (RSt_rf _ _) t1 r t5 (Fr_mono F7 (fun b y => .inr (.inl y))) (fun j _ => sameC_el (F7 437 (by have := HT_len t5; omega) (by decide)) j) G7 en
