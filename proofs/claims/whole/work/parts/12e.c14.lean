/-! QUESTIONS: two ways to be refused; sumWrong, failure, then, size, checksum, owner, clashes -/
def e2 (P1 P2 : Prop) [Decidable P1] [Decidable P2] (n1 n2 : Int) : Int := if P1 then (if P2 then 0 else n2) else n1
theorem mkA2 {P1 P2 : Prop} [Decidable P1] [Decidable P2] {h : XH} {nd : Nat → ND} {o u n1 n2 x : Int} {c : Nat} {wL : (Int → XH → Prop) → Prop} (T : HT h) (R : Inv h nd o u c) (h1 : ¬ n1 = 0) (h2 : ¬ n2 = 0) (a : ∀ Q : Int → XH → Prop, (¬ P1 → Q n1 (nT h)) → (P1 → ¬ P2 → Q n2 (nT h)) → (P1 → P2 → ∀ h6, h6 = sL h 467 0 (i2l x) → Q 0 h6) → wL Q) :
    ∀ Q : Int → XH → Prop, (∀ g, Ask h g nd o u c 1 (xcs none) → (e2 P1 P2 n1 n2 = 0 → hL g 467 0 = i2l x) → Q (e2 P1 P2 n1 n2) g) → wL Q := by
  intro Q q
  unfold e2 at q
  refine a Q (fun y => ?_) (fun y1 y2 => ?_) (fun y1 y2 h6 e6 => ?_)
  · have := q (nT h) (Ask_nT T R)
    rw [if_neg y] at this
    exact this (fun z => (h1 z).elim)
  · have := q (nT h) (Ask_nT T R)
    rw [if_pos y1, if_neg y2] at this
    exact this (fun z => (h2 z).elim)
  · obtain ⟨z1, z2⟩ := Ask_6 T R e6
    have := q h6 ⟨z1.1, z1.2.1, Gr_mono z1.2.2 (by omega) (by omega)⟩
    rw [if_pos y1, if_pos y2] at this
    exact this (fun _ => z2)
theorem mkB2 {P1 P2 : Prop} [Decidable P1] [Decidable P2] {g : XH} {nd : Nat → ND} {o u n1 n2 x : Int} {c k2 s2 : Nat} {wR : (Int → XH → Prop) → Prop} (T : HT g) (R : Inv g nd o u c) (r1 : rg n1) (r2 : rg n2) (h1 : ¬ n1 = 0) (h2 : ¬ n2 = 0) (b : ∀ Q : Int → XH → Prop, (¬ P1 → ∀ h1 h2, HT h1 → h1 = sI g 437 5 0 → h2 = sI h1 437 5 n1 → Q 0 h2) → (P1 → ¬ P2 → ∀ h1 h2, HT h1 → h1 = sI g 437 5 0 → h2 = sI h1 437 5 n2 → Q 0 h2) → (P1 → P2 → ∀ h1 h2, HT h1 → h1 = sI g 437 5 0 → Fr (fun _ => False) h1 h2 → Gr k2 s2 h1 h2 → Q x h2) → wR Q) :
    ∀ Q : Int → XH → Prop, (∀ g2 y, Ask g g2 nd o u c k2 s2 → hI g2 437 5 = e2 P1 P2 n1 n2 → (e2 P1 P2 n1 n2 = 0 → y = x ∧ hL g2 467 0 = hL g 467 0) → Q y g2) → wR Q := by
  intro Q q
  unfold e2 at q
  refine b Q (fun y k1 k2 t1 e1 e2 => ?_) (fun y1 y2 k1 k2 t1 e1 e2 => ?_) (fun y1 y2 k1 k2 t1 e1 f g => ?_)
  · obtain ⟨z1, z2⟩ := Ask_5 T R t1 r1 e1 e2
    have := q k2 0 ⟨z1.1, z1.2.1, Gr_mono z1.2.2 (by omega) (by omega)⟩
    rw [if_neg y] at this
    exact this z2 (fun z => (h1 z).elim)
  · obtain ⟨z1, z2⟩ := Ask_5 T R t1 r2 e1 e2
    have := q k2 0 ⟨z1.1, z1.2.1, Gr_mono z1.2.2 (by omega) (by omega)⟩
    rw [if_pos y1, if_neg y2] at this
    exact this z2 (fun z => (h2 z).elim)
  · obtain ⟨z1, z2, z3⟩ := Ask_a T R t1 e1 f g
    have := q k2 x z1
    rw [if_pos y1, if_pos y2] at this
    exact this z2 (fun _ => ⟨rfl, z3⟩)
set_option maxHeartbeats 1000000 in
theorem c_X12_checkMirror {p0 : Int} {K : Prop} {E : Nat → XH → Prop} {h : XH} (k0 : ¬ (0 ≤ p0 ∧ p0 < hI h 8 6) → E 2 (nT h)) (k : 0 ≤ p0 ∧ p0 < hI h 8 6 → K) : w_X12_checkMirror p0 K E h := by
  unfold w_X12_checkMirror
  refine ⟨_, fun z1 => z1, ?_⟩
  refine ⟨fun c3 => ?_, fun c3 => ?_⟩
  · first
      | exact k0 (by omega)
      | exact k ⟨by omega, by omega⟩
  · refine ⟨fun c2 => ?_, fun c2 => ?_⟩
    · first
        | exact k0 (by omega)
        | exact k ⟨by omega, by omega⟩
    · first
        | exact k0 (by omega)
        | exact k ⟨by omega, by omega⟩
set_option maxHeartbeats 1000000 in
theorem c_X12_sumWrong {p0 : Int} {h : XH} {N : Nat → Int} {nd : Nat → ND} {m : Nat} (T : HT h) (C : CS h 8 N nd) (W : WF N m) {K : Int → Prop} {E : Nat → XH → Prop} (k0 : ¬ (0 ≤ p0 ∧ p0 < N 3) → E 2 (nT h)) (k : 0 ≤ p0 ∧ p0 < N 3 → K (N (1714 + 81 * p0.toNat))) : w_X12_sumWrong p0 K E h := by
  unfold w_X12_sumWrong
  refine c_X12_checkMirror (fun q => k0 (by rw [C.2.2.2.2.1] at q; exact q)) (fun q => ?_)
  rw [C.2.2.2.2.1] at q
  have w3 := W.2.2.2.2.2.2.2.1
  refine ⟨(by first | decide | omega | ((try simp (disch := omega) only [wr_of] at *); omega)), ?_⟩
  rw [(C.2.2.2.2.2.2.2 p0.toNat (by omega)).1]
  exact k q
set_option maxHeartbeats 1000000 in
theorem c_L_sumWrong {p0 : Int} {h : XH} {N : Nat → Int} {nd : Nat → ND} {m : Nat} (T : HT h) (C : CS h 8 N nd) (W : WF N m)  {K : Int → XH → Prop} (k0 : ¬ (0 ≤ p0 ∧ p0 < N 3) → K 1 (nT h)) (k : 0 ≤ p0 ∧ p0 < N 3 → ∀ h6, h6 = sL h 467 0 (i2l (N (1714 + 81 * p0.toNat))) → K 0 h6) : w_L_sumWrong p0 K h := by
  unfold w_L_sumWrong
  refine c_X12_sumWrong T C W  (fun q => ⟨rfl, k0 q⟩) (fun q => ?_)
  intro _
  intro h4 eh4 t4 u4
  exact k q _ eh4
set_option maxHeartbeats 1000000 in
theorem c_X14_isMirror {p0 : Int} {h : XH} {N : Nat → Int} {m : Nat} (T : HT h) (eN : N = nw h) (W : WF N m) {K : Int → Prop} (k : ∀ x, bq x (0 ≤ p0 ∧ p0 < N 3) → K x) : w_X14_isMirror p0 K h := by
  unfold w_X14_isMirror
  have e3 : hI h 438 3 = N 3 := by rw [eN]; rfl
  have w3 := W.2.2.2.2.2.2.2.1
  have w4 := W.2.2.2.2.2.2.1
  refine c_X14_within ?_
  intro x1 qx1
  intro rx1 vx1
  rw [e3, wr_of (by omega) (by omega)] at qx1
  exact k _ (bq_iff qx1 (by omega))
set_option maxHeartbeats 1000000 in
theorem c_X14_sumWrong {p0 : Int} {h : XH} {N : Nat → Int} {m : Nat} (T : HT h) (eN : N = nw h) (W : WF N m) {K : Int → XH → Prop} (k0 : ¬ (0 ≤ p0 ∧ p0 < N 3) → ∀ h1 h2, HT h1 → h1 = sI h 437 5 0 → h2 = sI h1 437 5 1 → K 0 h2) (k : 0 ≤ p0 ∧ p0 < N 3 → ∀ h1 h2, HT h1 → h1 = sI h 437 5 0 → Fr (fun _ => False) h1 h2 → Gr 0 (0) h1 h2 → K (N (1714 + 81 * p0.toNat)) h2) : w_X14_sumWrong p0 K h := by
  unfold w_X14_sumWrong
  intro h1 eh1 t1 u1
  have eN1 : N = nw h1 := eN.trans (nw_fr (by rw [eh1]; exact sameC_sV (by decide))).symm
  have w3 := W.2.2.2.2.2.2.2.1
  refine c_X14_isMirror t1 eN1 W ?_
  intro x2 qx2
  intro rx2 vx2
  refine c_X14_refused qx2 ?_
  intro x3 h4 qx3
  intro t4 u4
  intro rx3 vx3
  refine ⟨_, fun x5 rx5 z6 => z6, ?_⟩
  refine ⟨fun c9 => ?_, fun c9 => ?_⟩
  · obtain ⟨b_, e_⟩ : (0 ≤ p0 ∧ p0 < N 3) ∧ h4 = h1 := by
      rcases qx3 with ⟨_, y, z⟩ | ⟨y, _⟩
      · exact ⟨y, z⟩
      · omega
    subst e_
    intro x7 ex7 rx7
    rw [wr_of (x := 81 * p0) (by omega) (by omega), wr_of (by omega) (by omega)] at ex7
    refine ⟨(by first | decide | omega | ((try simp (disch := omega) only [wr_of] at *); omega)), ?_⟩
    rw [show hI h4 438 x7.toNat = N (1714 + 81 * p0.toNat) by rw [eN1, show x7.toNat = 1714 + 81 * p0.toNat by omega]; rfl]
    exact k b_ _ _ t4 eh1 (Fr_rf _ _) (Gr_rf _)
  · have q_ : ¬ (0 ≤ p0 ∧ p0 < N 3) ∧ h4 = sI h1 437 5 1 := by
      rcases qx3 with ⟨y, _⟩ | ⟨_, y, z⟩
      · omega
      · exact ⟨y, z⟩
    exact k0 q_.1 _ _ t1 eh1 q_.2
theorem d_sumWrong {h : XH} {nd : Nat → ND} {o u p0 : Int} {c : Nat} (T : HT h) (R : Inv h nd o u c) {K : Int → XH → Prop} {J : XH → Prop} (k : ∀ h' o' u', HT h' → Inv h' nd o' u' (c + 1) → Gr (1 + 0) (xcs none + (0)) h h' → J h') : w_L_sumWrong p0 (LDw h (fun g Q => w_X14_sumWrong p0 Q g) K J) h :=
  dask (wL := fun Q => w_L_sumWrong p0 Q h) (wR := fun g Q => w_X14_sumWrong p0 Q g) (mkA T R (by decide) (fun Q k0 k => c_L_sumWrong T R.1.1 R.1.2.1  k0 k)) (fun g Tg Rg eg => mkB Tg Rg (rgk rfl) (by decide) (fun Q k0 k => c_X14_sumWrong Tg eg.symm R.1.2.1  k0 k)) k
set_option maxHeartbeats 1000000 in
theorem c_X12_failure {p0 : Int} {h : XH} {N : Nat → Int} {nd : Nat → ND} {m : Nat} (T : HT h) (C : CS h 8 N nd) (W : WF N m) {K : Int → Prop} {E : Nat → XH → Prop} (k0 : ¬ (0 ≤ p0 ∧ p0 ≤ 2) → E 1 (nT h)) (k : 0 ≤ p0 ∧ p0 ≤ 2 → K (nR N (rh N) (288 + p0.toNat))) : w_X12_failure p0 K E h := by
  unfold w_X12_failure
  have a := R8 (C.2.2.1 (rh N) (rh_lt W))
  refine ⟨fun c1 => ?_, fun c1 => ?_, fun c1 => ?_, fun c1 => ?_⟩
  · exact k0 (by omega)
  · refine c_atH C W ?_
    refine ⟨(rc_k T (rh_lt W)), ?_⟩
    rw [a.2.2.2.2.2.2.2.2.2.1]
    obtain rfl : p0 = 0 := by omega
    exact k (by omega)
  · refine c_atH C W ?_
    refine ⟨(rc_k T (rh_lt W)), ?_⟩
    rw [a.2.2.2.2.2.2.2.2.2.2.1]
    obtain rfl : p0 = 1 := by omega
    exact k (by omega)
  · refine c_atH C W ?_
    refine ⟨(rc_k T (rh_lt W)), ?_⟩
    rw [a.2.2.2.2.2.2.2.2.2.2.2]
    obtain rfl : p0 = 2 := by omega
    exact k (by omega)
set_option maxHeartbeats 1000000 in
theorem c_L_failure {p0 : Int} {h : XH} {N : Nat → Int} {nd : Nat → ND} {m : Nat} (T : HT h) (C : CS h 8 N nd) (W : WF N m)  {K : Int → XH → Prop} (k0 : ¬ (0 ≤ p0 ∧ p0 ≤ 2) → K 1 (nT h)) (k : 0 ≤ p0 ∧ p0 ≤ 2 → ∀ h6, h6 = sL h 467 0 (i2l (nR N (rh N) (288 + p0.toNat))) → K 0 h6) : w_L_failure p0 K h := by
  unfold w_L_failure
  refine c_X12_failure T C W  (fun q => ⟨rfl, k0 q⟩) (fun q => ?_)
  intro _
  intro h4 eh4 t4 u4
  exact k q _ eh4
set_option maxHeartbeats 1000000 in
theorem c_X14_failure {p0 : Int} {h : XH} {N : Nat → Int} {m : Nat} (T : HT h) (eN : N = nw h) (W : WF N m) {K : Int → XH → Prop} (k0 : ¬ (0 ≤ p0 ∧ p0 ≤ 2) → ∀ h1 h2, HT h1 → h1 = sI h 437 5 0 → h2 = sI h1 437 5 1 → K 0 h2) (k : 0 ≤ p0 ∧ p0 ≤ 2 → ∀ h1 h2, HT h1 → h1 = sI h 437 5 0 → Fr (fun _ => False) h1 h2 → Gr 0 (0) h1 h2 → K (nR N (rh N) (288 + p0.toNat)) h2) : w_X14_failure p0 K h := by
  unfold w_X14_failure
  intro h1 eh1 t1 u1
  have eN1 : N = nw h1 := eN.trans (nw_fr (by rw [eh1]; exact sameC_sV (by decide))).symm
  refine c_X14_within ?_
  intro x2 qx2
  intro rx2 vx2
  refine c_X14_refused qx2 ?_
  intro x3 h4 qx3
  intro t4 u4
  intro rx3 vx3
  refine ⟨_, fun x5 rx5 z6 => z6, ?_⟩
  refine ⟨fun c8 => ?_, fun c8 => ?_⟩
  · obtain ⟨b_, e_⟩ : (0 ≤ p0 ∧ p0 ≤ 2) ∧ h4 = h1 := by
      rcases qx3 with ⟨_, y, z⟩ | ⟨y, _⟩
      · exact ⟨y, z⟩
      · omega
    subst e_
    rw [wr_of (by omega) (by omega)]
    refine c_X14_rootAt (by omega) (hr_ eN1 W) (rh_lt W) ?_
    intro x7 qx7
    rw [← eN1, show (288 + p0).toNat = 288 + p0.toNat by omega] at qx7
    intro rx7
    rw [qx7]
    exact k b_ _ _ t4 eh1 (Fr_rf _ _) (Gr_rf _)
  · have q_ : ¬ (0 ≤ p0 ∧ p0 ≤ 2) ∧ h4 = sI h1 437 5 1 := by
      rcases qx3 with ⟨y, _⟩ | ⟨_, y, z⟩
      · omega
      · exact ⟨y, z⟩
    exact k0 q_.1 _ _ t1 eh1 q_.2
theorem d_failure {h : XH} {nd : Nat → ND} {o u p0 : Int} {c : Nat} (T : HT h) (R : Inv h nd o u c) {K : Int → XH → Prop} {J : XH → Prop} (k : ∀ h' o' u', HT h' → Inv h' nd o' u' (c + 1) → Gr (1 + 0) (xcs none + (0)) h h' → J h') : w_L_failure p0 (LDw h (fun g Q => w_X14_failure p0 Q g) K J) h :=
  dask (wL := fun Q => w_L_failure p0 Q h) (wR := fun g Q => w_X14_failure p0 Q g) (mkA T R (by decide) (fun Q k0 k => c_L_failure T R.1.1 R.1.2.1  k0 k)) (fun g Tg Rg eg => mkB Tg Rg (rgk rfl) (by decide) (fun Q k0 k => c_X14_failure Tg eg.symm R.1.2.1  k0 k)) k
set_option maxHeartbeats 1000000 in
theorem c_X6_isKept {p0 : Int} {h : XH} {N : Nat → Int} {nd : Nat → ND} {m : Nat} (T : HT h) (C : CS h 8 N nd) (W : WF N m) {K : Int → Prop} (k : ∀ x, bq x (0 ≤ p0 ∧ p0 < nR N (rh N) 47 ∧ nR N (rh N) 47 - 20 ≤ p0) → K x) : w_X6_isKept (rc (rh N)) p0 K h := by
  unfold w_X6_isKept
  have e7 := (R8 (C.2.2.1 (rh N) (rh_lt W))).2.2.2.2.2.2.2.1
  have w7 := (W.2.1 (rh N) (rh_lt W)).2.2.2.2.2.2.2.2.2
  have ew : wr (hI h (rc (rh N)) 7 - 20) = nR N (rh N) 47 - 20 := by rw [e7, wr_of (by omega) (by omega)]
  rw [ew, e7]
  refine ⟨_, fun x1 rx1 z2 => z2, ?_⟩
  refine ⟨_, fun z4 => z4, ?_⟩
  refine ⟨fun c7 => ?_, fun c7 => ?_⟩
  · refine ⟨(by first | decide | omega | ((try simp (disch := omega) only [wr_of] at *); omega)), ?_⟩
    first
      | exact k _ (bqT (by omega))
      | exact k _ (bqF (by omega))
  · refine ⟨fun c6 => ?_, fun c6 => ?_⟩
    · refine ⟨(by first | decide | omega | ((try simp (disch := omega) only [wr_of] at *); omega)), ?_⟩
      first
        | exact k _ (bqT (by omega))
        | exact k _ (bqF (by omega))
    · refine ⟨fun c5 => ?_, fun c5 => ?_⟩
      · refine ⟨(by first | decide | omega | ((try simp (disch := omega) only [wr_of] at *); omega)), ?_⟩
        first
          | exact k _ (bqT (by omega))
          | exact k _ (bqF (by omega))
      · refine ⟨(by first | decide | omega | ((try simp (disch := omega) only [wr_of] at *); omega)), ?_⟩
        first
          | exact k _ (bqT (by omega))
          | exact k _ (bqF (by omega))
set_option maxHeartbeats 1000000 in
theorem c_J9_floorMod_7cf53 {p0 p1 : Int} {K : Int → Prop} {h : XH} (b : 0 ≤ p0 ∧ p0 < 2147483648 ∧ 0 < p1 ∧ p1 < 2147483648) (k : K (p0 % p1)) : w_J9_floorMod_7cf53 p0 p1 K h := by
  unfold w_J9_floorMod_7cf53
  have e : irem p0 p1 = p0 % p1 := irem_pos ⟨by omega, by omega⟩ ⟨by omega, by omega⟩ (by omega) (by omega)
  have p := ixor_nat (a := p0.toNat) (b := p1.toNat) (by omega) (by omega)
  rw [show ((p0.toNat : Nat) : Int) = p0 by omega, show ((p1.toNat : Nat) : Int) = p1 by omega] at p
  rw [e]
  refine ⟨(by first | decide | omega | ((try simp (disch := omega) only [wr_of] at *); omega)), ?_⟩
  intro x2 ex2 rx2
  refine ⟨_, fun z3 => z3, ?_⟩
  refine ⟨fun c5 => ?_, fun c5 => ?_⟩
  · first
      | (subst ex2; exact k)
      | omega
  · refine ⟨fun c4 => ?_, fun c4 => ?_⟩
    · first
        | (subst ex2; exact k)
        | omega
    · first
        | (subst ex2; exact k)
        | omega
set_option maxHeartbeats 1000000 in
theorem c_X6_entryAt {p0 : Int} {t : Nat} {K : BitVec 64 → Prop} {h : XH} (b : 0 ≤ p0 ∧ p0 < 2147483648) (k : K (hL h (t + 3) (p0 % 20).toNat)) : w_X6_entryAt t p0 K h := by
  unfold w_X6_entryAt
  refine c_J9_floorMod_7cf53 (by omega) ?_
  intro _
  refine ⟨(by first | decide | omega | ((try simp (disch := omega) only [wr_of] at *); omega)), ?_⟩
  exact k
set_option maxHeartbeats 1000000 in
theorem c_X12_then {p0 p1 : Int} {h : XH} {N : Nat → Int} {nd : Nat → ND} {m : Nat} (T : HT h) (C : CS h 8 N nd) (W : WF N m) {K : Int → Prop} {E : Nat → XH → Prop} (k0 : ¬ (0 ≤ p0 ∧ p0 < nR N (rh N) 47 ∧ nR N (rh N) 47 - 20 ≤ p0) → E 3 (nT h)) (k1 : 0 ≤ p0 ∧ p0 < nR N (rh N) 47 ∧ nR N (rh N) 47 - 20 ≤ p0 → ¬ (0 ≤ p1 ∧ p1 < N 0) → E 2 (nT h)) (k : 0 ≤ p0 ∧ p0 < nR N (rh N) 47 ∧ nR N (rh N) 47 - 20 ≤ p0 → 0 ≤ p1 ∧ p1 < N 0 → K (cIn (keptF N (rh N) (p0 % 20).toNat) p1.toNat)) : w_X12_then p0 p1 K E h := by
  unfold w_X12_then
  have w7 := (W.2.1 (rh N) (rh_lt W)).2.2.2.2.2.2.2.2.2
  refine c_atH C W ?_
  refine ⟨(rc_k T (rh_lt W)), ?_⟩
  refine c_X6_isKept T C W ?_
  intro x3 qx3
  intro rx3 vx3
  refine ⟨fun c8 => ?_, fun c8 => ?_⟩
  · have q0 := (bq1 qx3).2.2.1.mp c8
    refine c_X12_checkPack (fun q => k1 q0 (by rw [(V80 C.1).1] at q; exact q)) (fun q1 q2 => ?_)
    rw [(V80 C.1).1] at q2
    have b12 := W.1.2.1
    refine c_atH C W ?_
    refine ⟨(rc_k T (rh_lt W)), ?_⟩
    refine c_X6_entryAt (by omega) ?_
    refine c_X8_codeIn C.1 ⟨W.1.2.2.1, W.1.2.2.2.1⟩ ?_
    have F := cIdF_F W.1 (CS_e C (rh_lt W) (i := (p0 % 20).toNat) (by omega) (by omega)) (p := p1.toNat) (by omega)
    rw [show ((p1.toNat : Nat) : Int) = p1 by omega] at F
    rw [F]
    intro _
    exact k q0 ⟨q1, q2⟩
  · exact k0 ((bq1 qx3).2.1.mp (by omega))
set_option maxHeartbeats 1000000 in
theorem c_L_then {p1 p2 : Int} {h : XH} {N : Nat → Int} {nd : Nat → ND} {m : Nat} (T : HT h) (C : CS h 8 N nd) (W : WF N m) {K : Int → XH → Prop} (k0 : ¬ (0 ≤ p1 ∧ p1 < nR N (rh N) 47 ∧ nR N (rh N) 47 - 20 ≤ p1) → K 1 (nT h)) (k1 : 0 ≤ p1 ∧ p1 < nR N (rh N) 47 ∧ nR N (rh N) 47 - 20 ≤ p1 → ¬ (0 ≤ p2 ∧ p2 < N 0) → K 2 (nT h)) (k : 0 ≤ p1 ∧ p1 < nR N (rh N) 47 ∧ nR N (rh N) 47 - 20 ≤ p1 → 0 ≤ p2 ∧ p2 < N 0 → ∀ h6, h6 = sL h 467 0 (i2l (cIn (keptF N (rh N) (p1 % 20).toNat) p2.toNat)) → K 0 h6) : w_L_then p1 p2 K h := by
  unfold w_L_then
  refine c_X12_then T C W (fun q => .inl ⟨rfl, k0 q⟩) (fun q r => .inr ⟨rfl, k1 q r⟩) (fun q r => ?_)
  intro _
  intro h4 eh4 t4 u4
  exact k q r _ eh4
set_option maxHeartbeats 1000000 in
theorem c_X14_isKept {p0 : Int} {h : XH} {N : Nat → Int} {m : Nat} (T : HT h) (eN : N = nw h) (W : WF N m) {K : Int → Prop} (k : ∀ x, bq x (0 ≤ p0 ∧ p0 < nR N (rh N) 47 ∧ nR N (rh N) 47 - 20 ≤ p0) → K x) : w_X14_isKept p0 K h := by
  unfold w_X14_isKept
  have w7 := (W.2.1 (rh N) (rh_lt W)).2.2.2.2.2.2.2.2.2
  refine c_X14_rootAt (by decide) (hr_ eN W) (rh_lt W) ?_
  intro x1 qx1
  rw [← eN] at qx1
  intro rx1
  refine c_J9_max_7cf53 ?_
  intro x2 qx2
  intro rx2
  refine c_X14_rootAt (by decide) (hr_ eN W) (rh_lt W) ?_
  intro x3 qx3
  rw [← eN] at qx3
  intro rx3
  refine c_X14_within ?_
  intro x4 qx4
  intro rx4 vx4
  have e47 : (47 : Int).toNat = 47 := rfl
  rw [e47] at qx1 qx3
  rw [wr_of (by omega) (by omega)] at qx4
  rw [wr_of (x := x1 - 20) (by omega) (by omega)] at qx2
  exact k _ (bq_iff qx4 (by omega))
set_option maxHeartbeats 1000000 in
theorem c_X14_entrySet {p0 : Int} {h : XH} {N : Nat → Int} {m : Nat} (T : HT h) (eN : N = nw h) (W : WF N m) {K : Nat → XH → Prop} (b : 0 ≤ p0 ∧ p0 < 2147483648) (k : ∀ a h1, Fr (fun _ => False) h h1 → Gr 1 n12 h h1 → h.length ≤ a → AR h1 a (keptF N (rh N) (p0 % 20).toNat) → K a h1) : w_X14_entrySet p0 K h := by
  unfold w_X14_entrySet
  have r3 := rh_lt W
  have E : wr (wr (wr (805 + wr (hI h 438 1 * 291)) + 48) + wr (irem p0 20 * 12)) = 805 + 291 * (rh N : Int) + 48 + 12 * (p0 % 20) := by
    rw [hr_ eN W, irem_pos ⟨by omega, by omega⟩ (rgk rfl) (by omega) (by decide)]
    simp (disch := omega) only [wr_of]
    omega
  rw [E]
  refine c_setA T eN (f := keptF N (rh N) (p0 % 20).toNat) (by omega) (fun i hi => by unfold keptF nR; congr 1; omega) ?_
  intro a1 h2 f2 g2 l2 A2
  intro t2 u2
  exact k _ _ f2 g2 l2 A2
set_option maxHeartbeats 1000000 in
theorem c_X14_then {p0 p1 : Int} {h : XH} {N : Nat → Int} {m : Nat} (T : HT h) (eN : N = nw h) (W : WF N m) (fk : ∀ i : Nat, i < 20 → (i : Int) < nR N (rh N) 47 → fOK N (keptF N (rh N) i)) {K : Int → XH → Prop} (k0 : ¬ (0 ≤ p0 ∧ p0 < nR N (rh N) 47 ∧ nR N (rh N) 47 - 20 ≤ p0) → ∀ h1 h2, HT h1 → h1 = sI h 437 5 0 → h2 = sI h1 437 5 1 → K 0 h2) (k1 : 0 ≤ p0 ∧ p0 < nR N (rh N) 47 ∧ nR N (rh N) 47 - 20 ≤ p0 → ¬ (0 ≤ p1 ∧ p1 < N 0) → ∀ h1 h2, HT h1 → h1 = sI h 437 5 0 → h2 = sI h1 437 5 2 → K 0 h2) (k : (0 ≤ p0 ∧ p0 < nR N (rh N) 47 ∧ nR N (rh N) 47 - 20 ≤ p0) → 0 ≤ p1 ∧ p1 < N 0 → ∀ h1 h2, HT h1 → h1 = sI h 437 5 0 → Fr (fun _ => False) h1 h2 → Gr 1 (n12) h1 h2 → K (cIn (keptF N (rh N) (p0 % 20).toNat) p1.toNat) h2) : w_X14_then p0 p1 K h := by
  unfold w_X14_then
  intro h1 eh1 t1 u1
  have eN1 : N = nw h1 := eN.trans (nw_fr (by rw [eh1]; exact sameC_sV (by decide))).symm
  have w7 := (W.2.1 (rh N) (rh_lt W)).2.2.2.2.2.2.2.2.2
  refine c_X14_isKept t1 eN1 W ?_
  intro x2 qx2
  intro rx2 vx2
  refine c_X14_refused qx2 ?_
  intro x3 h4 qx3
  intro t4 u4
  intro rx3 vx3
  refine ⟨_, fun h5 t5 s5 z6 => z6, ?_⟩
  refine ⟨fun c14 => ?_, fun c14 => ?_⟩
  · have q_ : ¬ (0 ≤ p0 ∧ p0 < nR N (rh N) 47 ∧ nR N (rh N) 47 - 20 ≤ p0) ∧ h4 = sI h1 437 5 1 := by
      rcases qx3 with ⟨y, _⟩ | ⟨_, y, z⟩
      · omega
      · exact ⟨y, z⟩
    exact k0 q_.1 _ _ t1 eh1 q_.2
  · obtain ⟨b_, e_⟩ : (0 ≤ p0 ∧ p0 < nR N (rh N) 47 ∧ nR N (rh N) 47 - 20 ≤ p0) ∧ h4 = h1 := by
      rcases qx3 with ⟨_, y, z⟩ | ⟨y, _⟩
      · exact ⟨y, z⟩
      · omega
    subst e_
    refine c_X14_isPack ?_ (by rw [show hI h4 438 0 = N 0 by rw [eN1]; rfl]; exact W.1.1)
    intro x7 qx7
    rw [show hI h4 438 0 = N 0 by rw [eN1]; rfl] at qx7
    have b12 := W.1.2.1
    intro rx7 vx7
    refine c_X14_refused qx7 ?_
    intro x8 h9 qx8
    intro t9 u9
    intro rx8 vx8
    refine ⟨fun c13 => ?_, fun c13 => ?_⟩
    · obtain ⟨b_1, e_1⟩ : (0 ≤ p1 ∧ p1 < N 0) ∧ h9 = h4 := by
        rcases qx8 with ⟨_, y, z⟩ | ⟨y, _⟩
        · exact ⟨y, z⟩
        · omega
      subst e_1
      refine c_X14_entrySet t9 eN1 W (by omega) ?_
      intro a10 h11 f11 g11 l11 A11
      intro t11 u11
      refine c_X14_codeIn A11 (by omega) (fOK_r W.1 (fk _ (by omega) (by omega)) (by omega)) ?_
      intro _
      exact k b_ b_1 _ _ t9 eh1 f11 g11
    · have q_1 : ¬ (0 ≤ p1 ∧ p1 < N 0) ∧ h9 = sI h4 437 5 2 := by
        rcases qx8 with ⟨y, _⟩ | ⟨_, y, z⟩
        · omega
        · exact ⟨y, z⟩
      exact k1 b_ q_1.1 _ _ t4 eh1 q_1.2
theorem d_then {h : XH} {nd : Nat → ND} {o u p0 p1 : Int} {c : Nat} (T : HT h) (R : Inv h nd o u c) {K : Int → XH → Prop} {J : XH → Prop} (k : ∀ h' o' u', HT h' → Inv h' nd o' u' (c + 1) → Gr (1 + 1) (xcs none + n12) h h' → J h') : w_L_then p0 p1 (LDw h (fun g Q => w_X14_then p0 p1 Q g) K J) h :=
  dask (wL := fun Q => w_L_then p0 p1 Q h) (wR := fun g Q => w_X14_then p0 p1 Q g) (mkA2 T R (by decide) (by decide) (fun Q k0 k1 k => c_L_then T R.1.1 R.1.2.1 k0 k1 k)) (fun g Tg Rg eg => mkB2 Tg Rg (rgk rfl) (rgk rfl) (by decide) (by decide) (fun Q k0 k1 k => c_X14_then Tg eg.symm R.1.2.1 (fun i hi hk => fOK_of (CS_e R.1.1 (rh_lt R.1.2.1) hi hk)) k0 k1 k)) k
set_option maxHeartbeats 1000000 in
theorem c_X12_size {h : XH} {N : Nat → Int} {nd : Nat → ND} {m : Nat} (T : HT h) (C : CS h 8 N nd) (W : WF N m) {K : Int → Prop} (k : K (sumN 12 (fun p => if inst N (rh N) p = -1 then 0 else nV N (slF N (inst N (rh N)) p).toNat 3))) : w_X12_size K h := by
  unfold w_X12_size
  refine c_atH C W ?_
  refine ⟨(rc_k T (rh_lt W)), ?_⟩
  refine c_X8_sizeOf C.1 W.1 ?_
  rw [size_F W.1 (CS_i C (rh_lt W)) (fun v => nV N v 3)]
  intro _
  exact k
set_option maxHeartbeats 1000000 in
theorem c_X14_size {h : XH} {N : Nat → Int} {m : Nat} (T : HT h) (eN : N = nw h) (W : WF N m) (fi : fOK N (inst N (rh N))) {K : Int → XH → Prop} (k : ∀ h1 h2, HT h1 → h1 = sI h 437 5 0 → Fr (fun _ => False) h1 h2 → Gr 1 (n12) h1 h2 → K (sumN 12 (fun p => if inst N (rh N) p = -1 then 0 else nV N (slF N (inst N (rh N)) p).toNat 3)) h2) : w_X14_size K h := by
  unfold w_X14_size
  intro h1 eh1 t1 u1
  have eN1 : N = nw h1 := eN.trans (nw_fr (by rw [eh1]; exact sameC_sV (by decide))).symm
  refine c_iS t1 eN1 W ?_
  intro a2 h3 f3 g3 l3 A3
  intro t3 u3
  refine c_X14_sizeOf (eN1.trans (nw_F t1 f3).symm) W.1 A3 fi ?_
  intro _
  exact k _ _ t1 eh1 f3 g3
theorem d_size {h : XH} {nd : Nat → ND} {o u : Int} {c : Nat} (T : HT h) (R : Inv h nd o u c) {K : Int → XH → Prop} {J : XH → Prop} (k : ∀ h' o' u', HT h' → Inv h' nd o' u' (c + 1) → Gr 1 (n12) h h' → J h') : w_X12_size (LDp h (fun g Q => w_X14_size Q g) K J) h :=
  dasp (wL := fun Q => w_X12_size Q h) (wR := fun g Q => w_X14_size Q g) T R (fun Q k => c_X12_size T R.1.1 R.1.2.1  k) (fun g Tg Rg eg => mkP Tg Rg (fun Q k => c_X14_size Tg eg.symm R.1.2.1 (CS_fi R.1.1 R.1.2.1) k)) k
def ckS (N : Nat → Int) (r : Nat) : Nat → Int
  | 0 => 17
  | p + 1 => wr (wr (31 * wr (wr (31 * ckS N r p) + goal N r p)) + inst N r p)
theorem ckS_st {N : Nat → Int} {r : Nat} {v : Int} (h : 0 ≤ v) : ckS N r (v + 1).toNat = wr (wr (31 * wr (wr (31 * ckS N r v.toNat) + goal N r v.toNat)) + inst N r v.toNat) := by rw [show (v + 1).toNat = v.toNat + 1 by omega]; rfl
set_option maxHeartbeats 1000000 in
theorem c_X12_checksum {h : XH} {N : Nat → Int} {nd : Nat → ND} {m : Nat} (T : HT h) (C : CS h 8 N nd) (W : WF N m) {K : Int → Prop} (k : K (ckS N (rh N) (pc N))) : w_X12_checksum K h := by
  unfold w_X12_checksum
  have V0 := (V80 C.1).1
  have w0 := W.1.1
  have w1 := W.1.2.1
  refine ⟨fun a v => 0 ≤ v ∧ v ≤ N 0 ∧ a = ckS N (rh N) v.toNat, fun _ v => (N 0 - v).toNat, ?_, ?_⟩
  · exact ⟨by decide, w0, rfl⟩
  · intro x1 x2 rx1 rx2 z3
    refine ⟨fun c13 => ?_, fun c13 => ?_⟩
    · rw [z3.2.2, show x2.toNat = pc N by unfold pc; omega]
      exact k
    · obtain ⟨z0, z1, z2⟩ := z3
      have st := ckS_st (N := N) (r := rh N) (v := x2) (by omega)
      refine c_atH C W ?_
      refine ⟨(rc_k T (rh_lt W)), ?_⟩
      refine c_X12_valueIn C.1 W.1 (CS_g C (rh_lt W)) (by omega) ?_
      intro _
      intro x7 ex7 rx7
      refine c_atH C W ?_
      refine ⟨(rc_k T (rh_lt W)), ?_⟩
      refine c_X12_valueIn C.1 W.1 (CS_i C (rh_lt W)) (by omega) ?_
      intro _
      intro x11 ex11 rx11
      intro x12 ex12 rx12
      rw [wr_of (by omega) (by omega)] at ex12
      exact ⟨⟨by omega, by omega, by rw [ex12, st, ex11, ex7, z2]⟩, by dsimp only; omega⟩
set_option maxHeartbeats 1000000 in
theorem c_X14_checksum {h : XH} {N : Nat → Int} {m : Nat} (T : HT h) (eN : N = nw h) (W : WF N m) {K : Int → XH → Prop} (k : ∀ h1 h2, HT h1 → h1 = sI h 437 5 0 → Fr (fun _ => False) h1 h2 → Gr (1 + 1) (n12 + n12) h1 h2 → K (ckS N (rh N) (pc N)) h2) : w_X14_checksum K h := by
  unfold w_X14_checksum
  intro h1 eh1 t1 u1
  have eN1 : N = nw h1 := eN.trans (nw_fr (by rw [eh1]; exact sameC_sV (by decide))).symm
  have w0 := W.1.1
  have w1 := W.1.2.1
  refine c_gS t1 eN1 W ?_
  intro a2 h3 f3 g3 l3 A3
  intro t3 u3
  refine c_iS t3 (eN1.trans (nw_F t1 f3).symm) W ?_
  intro a4 h5 f5 g5 l5 A5
  have A2 := AR_fr (f5 a2 (hk_lt A3.1 (by decide)) id) A3
  have V0 : hI h5 438 0 = N 0 := by rw [eN1, ← nw_F t1 f3, ← nw_F t3 f5]; rfl
  intro t5 u5
  refine ⟨fun a v => 0 ≤ v ∧ v ≤ N 0 ∧ a = ckS N (rh N) v.toNat, fun _ v => (N 0 - v).toNat, ?_, ?_⟩
  · exact ⟨by decide, w0, rfl⟩
  · intro x6 x7 rx6 rx7 z8
    refine ⟨fun c16 => ?_, fun c16 => ?_⟩
    · rw [z8.2.2, show x7.toNat = pc N by unfold pc; omega]
      exact k _ _ t1 eh1 (Fr_tr f3 u3.1 f5) (Gr_tr g3 g5)
    · obtain ⟨z0, z1, z2⟩ := z8
      have st := ckS_st (N := N) (r := rh N) (v := x7) (by omega)
      refine ⟨A2.1, ?_⟩
      refine ⟨(by rw [A2.2.1]; omega), ?_⟩
      intro x11 ex11 rx11
      refine ⟨A5.1, ?_⟩
      refine ⟨(by rw [A5.2.1]; omega), ?_⟩
      intro x14 ex14 rx14
      intro x15 ex15 rx15
      rw [wr_of (by omega) (by omega)] at ex15
      rw [A5.2.2 _ (by omega)] at ex14
      rw [A2.2.2 _ (by omega)] at ex11
      exact ⟨⟨by omega, by omega, by rw [ex15, st, ex14, ex11, z2]⟩, by dsimp only; omega⟩
theorem d_checksum {h : XH} {nd : Nat → ND} {o u : Int} {c : Nat} (T : HT h) (R : Inv h nd o u c) {K : Int → XH → Prop} {J : XH → Prop} (k : ∀ h' o' u', HT h' → Inv h' nd o' u' (c + 1) → Gr (1 + 1) (n12 + n12) h h' → J h') : w_X12_checksum (LDp h (fun g Q => w_X14_checksum Q g) K J) h :=
  dasp (wL := fun Q => w_X12_checksum Q h) (wR := fun g Q => w_X14_checksum Q g) T R (fun Q k => c_X12_checksum T R.1.1 R.1.2.1  k) (fun g Tg Rg eg => mkP Tg Rg (fun Q k => c_X14_checksum Tg eg.symm R.1.2.1  k)) k
