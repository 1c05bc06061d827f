/-! LOCK, BACKTO -/
theorem nw_cA {h : XH} {a b : Nat} {f : Nat → Int} (T : HT h) (A : AR h a f) (hb : b + 12 ≤ 1957) : nw (cA h a 0 438 b 12) = putF (nw h) b f := by
  funext j
  have e := el_cA (h := h) (a := a) (sp := 0) (b := 438) (dp := b) (n := 12) (t := T) (u := 0) A.1 (lstn T).2.2.2.2.2.2.2.1 (by decide) (by rw [A.2.1]; omega) (by rw [(lstn T).2.2.2.2.2.1]; omega) j
  unfold nw putF
  show gvI (el (cA h a 0 438 b 12) 438 j) = _
  rw [e]
  by_cases c : b ≤ j ∧ j < b + 12
  · rw [if_pos c, if_pos c, Nat.zero_add]
    exact A.2.2 (j - b) (by omega)
  · rw [if_neg c, if_neg c]
    rfl
theorem xhs_cA8 {h : XH} {a b : Nat} {f : Nat → Int} (T : HT h) (A : AR h a f) (hb : b + 12 ≤ 1957) : xhs (cA h a 0 438 b 12) = xhs h :=
  xhs_cA (t := T) (u := 0) A.1 (lstn T).2.2.2.2.2.2.2.1 (by decide) (by rw [A.2.1]; omega) (by rw [(lstn T).2.2.2.2.2.1]; omega)
theorem WF_goal {N : Nat → Int} {m r : Nat} {f : Nat → Int} (W : WF N m) (hr : r < 3) : WF (putF N (805 + 291 * r + 35) f) m := by
  have en : ∀ j, ¬ (805 + 291 * r + 35 ≤ j ∧ j < 805 + 291 * r + 35 + 12) → putF N (805 + 291 * r + 35) f j = N j := fun j n => putF_out n
  have E : VE N (putF N (805 + 291 * r + 35) f) := fun i _ _ => en i (by omega)
  refine ⟨WV_ve E W.1, fun q hq => ?_, WT_ve E (fun i hi => en i (by omega)) W.2.2⟩
  obtain ⟨d1, d2, d3, d4, d5, d6, d7, d8, d9, d10, d11⟩ := W.2.1 q hq
  have er : ∀ k, k < 291 → ¬ (35 ≤ k ∧ k < 47) → nR (putF N (805 + 291 * r + 35) f) q k = nR N q k := fun k hk n => en _ (by omega)
  unfold WRt
  rw [er 0 (by omega) (by omega), er 9 (by omega) (by omega), er 47 (by omega) (by omega), er 22 (by omega) (by omega), E 0 (by omega) (by omega)]
  exact ⟨d1, d2, fun w h8 hw => by rw [er (1 + w) (by omega) (by omega)]; exact d3 w h8 hw, d4, d5, d6, fun p hp => by rw [er (10 + p) (by omega) (by omega)]; exact d7 p hp, d8, d9, d10, d11⟩
theorem rh_goal {N : Nat → Int} {r : Nat} {f : Nat → Int} : rh (putF N (805 + 291 * r + 35) f) = rh N := by unfold rh; rw [putF_out (by omega)]
theorem goal_in {N : Nat → Int} {r p : Nat} {f : Nat → Int} (hp : p < 12) : goal (putF N (805 + 291 * r + 35) f) r p = f p := by
  unfold goal nR
  rw [← Nat.add_assoc]
  exact putF_in hp
theorem inst_goal {N : Nat → Int} {r p : Nat} {f : Nat → Int} (hp : p < 12) : inst (putF N (805 + 291 * r + 35) f) r p = inst N r p := putF_out (by omega)
theorem BdN_goal {N : Nat → Int} {r c : Nat} {f : Nat → Int} (W : N 4 ≤ 40) (hr : r < 3) (b : BdN N c) : BdN (putF N (805 + 291 * r + 35) f) (c + 1) :=
  BdN_cg (fun i hi => putF_out (by omega)) (fun q hq => ⟨putF_out (by omega), fun p hp => putF_out (by omega)⟩) (fun m hm => putF_out (by omega)) W b
set_option maxHeartbeats 1000000 in
theorem c_X12_lock {p0 : Int} {h : XH} {N : Nat → Int} {nd : Nat → ND} {m : Nat} {o u : Int} (T : HT h) (C : CS h 8 N nd) (W : WF N m) (B0 : 0 ≤ o ∧ o < 10 ∧ 0 ≤ u ∧ u ≤ 10) (Bo : hI h 2 9 = o) (Bu : hI h 2 10 = u) (Bs : hI h 43 2 = 10) {K : Int → XH → Prop} {E : Nat → XH → Prop} (k0 : ¬ (0 ≤ p0 ∧ p0 < 3) → E 1 (nT h)) (k : 0 ≤ p0 ∧ p0 < 3 → ∀ h2 h4, Rmb o u h h2 → HT h2 → Fr (fun b => b = 39) h2 h4 → h4.length = h2.length → xhs h4 = xhs h2 → CS h4 8 (putF N (1678 + 12 * p0.toNat) (goal N (rh N))) nd → K ((cntN 12 (fun p => !decide (goal N (rh N) p = -1)) : Nat)) h4) : w_X12_lock p0 K E h := by
  unfold w_X12_lock
  refine c_X12_checkLock k0 (fun q1 => ?_)
  refine c_X12_remember B0 T Bo Bu Bs ?_
  intro h1 qh1
  intro t1 u1
  have C1' := Rmb_CS T qh1 B0 W C
  refine c_atH C1' W ?_
  refine ⟨(rc_k t1 (rh_lt W)), ?_⟩
  refine ⟨(by first | decide | omega | ((try simp (disch := omega) only [wr_of] at *); omega)), ?_⟩
  intro h5 eh5 t5 u5
  obtain ⟨c1, c2⟩ := CS_lock (g := h5) t1 C1' W (l := p0.toNat) (by omega) (CS_g C1' (rh_lt W)) eh5
  refine c_X12_packsIn ?_
  rw [many_F c2.1 (CS_l c1 (l := p0.toNat) (by omega))]
  rw [show cntN 12 (fun p => !decide (lockF (putF N (1678 + 12 * p0.toNat) (goal N (rh N))) p0.toNat p = -1)) = cntN 12 (fun p => !decide (goal N (rh N) p = -1)) from cntN_cg _ (fun p hp => by rw [show lockF (putF N (1678 + 12 * p0.toNat) (goal N (rh N))) p0.toNat p = goal N (rh N) p from putF_in hp])]
  intro _
  exact k q1 _ _ qh1 t1 (by rw [eh5]; exact Fr_sV rfl) (by rw [eh5, len_sV]) (by rw [eh5, xhs_sV]) c1
set_option maxHeartbeats 1000000 in
theorem c_L_lock {p0 : Int} {h : XH} {N : Nat → Int} {nd : Nat → ND} {m : Nat} {o u : Int} (T : HT h) (C : CS h 8 N nd) (W : WF N m) (B0 : 0 ≤ o ∧ o < 10 ∧ 0 ≤ u ∧ u ≤ 10) (Bo : hI h 2 9 = o) (Bu : hI h 2 10 = u) (Bs : hI h 43 2 = 10) {K : Int → XH → Prop} (k0 : ¬ (0 ≤ p0 ∧ p0 < 3) → K 1 (nT h)) (k : 0 ≤ p0 ∧ p0 < 3 → ∀ h2 h4 h5, Rmb o u h h2 → HT h2 → Fr (fun b => b = 39) h2 h4 → h4.length = h2.length → xhs h4 = xhs h2 → HT h4 → CS h4 8 (putF N (1678 + 12 * p0.toNat) (goal N (rh N))) nd → h5 = sL h4 467 0 (i2l ((cntN 12 (fun p => !decide (goal N (rh N) p = -1)) : Nat))) → K 0 h5) : w_L_lock p0 K h := by
  unfold w_L_lock
  refine c_X12_lock T C W B0 Bo Bu Bs (fun q => ⟨rfl, k0 q⟩) (fun q g2 g4 r t f l x c => ?_)
  intro tx ux _
  intro h5 eh5 t5 u5
  exact k q _ _ _ r t f l x tx c eh5
set_option maxHeartbeats 1000000 in
theorem c_X14_lock {p0 : Int} {h : XH} {N : Nat → Int} {m : Nat} {q u : Int} (T : HT h) (eN : N = nw h) (W : WF N m) (B1 : 0 ≤ q ∧ q < 10 ∧ 0 ≤ u ∧ u ≤ 10) (Rq : hI h 437 3 = q) (Ru : hI h 437 2 = u) {K : Int → XH → Prop} (k0 : ¬ (0 ≤ p0 ∧ p0 < 3) → ∀ h1 h2, HT h1 → h1 = sI h 437 5 0 → h2 = sI h1 437 5 1 → K 0 h2) (k : 0 ≤ p0 ∧ p0 < 3 → ∀ h1 h5 h7, HT h1 → h1 = sI h 437 5 0 → Rrec q u h1 h5 → HT h5 → Fr (fun b => b = 438) h5 h7 → Gr 1 (n12) h5 h7 → nw h7 = putF N (1678 + 12 * p0.toNat) (goal N (rh N)) → K ((cntN 12 (fun p => !decide (goal N (rh N) p = -1)) : Nat)) h7) : w_X14_lock p0 K h := by
  unfold w_X14_lock
  intro h1 eh1 t1 u1
  have eN1 : N = nw h1 := eN.trans (nw_fr (by rw [eh1]; exact sameC_sV (by decide))).symm
  have Rq1 : hI h1 437 3 = q := by rw [eh1, hI_ni (by decide)]; exact Rq
  have Ru1 : hI h1 437 2 = u := by rw [eh1, hI_ni (by decide)]; exact Ru
  refine c_X14_isLock ?_
  intro x2 qx2
  intro rx2 vx2
  refine c_X14_refused qx2 ?_
  intro x3 h4 qx3
  intro t4 u4
  intro rx3 vx3
  refine ⟨fun c12 => ?_, fun c12 => ?_⟩
  · obtain ⟨b_, e_⟩ : (0 ≤ p0 ∧ p0 < 3) ∧ h4 = h1 := by
      rcases qx3 with ⟨_, y, z⟩ | ⟨y, _⟩
      · exact ⟨y, z⟩
      · omega
    subst e_
    refine c_X14_record B1 t4 Rq1 Ru1 ?_
    intro h5 qh5
    have eN5 : N = nw h5 := eN1.trans (nw_fr (qh5.1 438 (by have := HT_len t4; omega) (by decide))).symm
    intro t5 u5
    refine c_gS t5 eN5 W ?_
    intro a6 h7 f7 g7 l7 A7
    have L5 := HT_len t5
    have eb : wr (1678 + wr (12 * p0)) = 1678 + 12 * p0 := by rw [wr_of (x := 12 * p0) (by omega) (by omega), wr_of (by omega) (by omega)]
    rw [eb]
    intro t7 u7
    refine ⟨A7.1, ?_⟩
    refine ⟨(by have := A7.2.1; omega), ?_⟩
    intro h10 eh10 t10 u10
    rw [show (1678 + 12 * p0).toNat = 1678 + 12 * p0.toNat by omega] at eh10
    have s10 : sameC h7 h10 a6 := by rw [eh10]; exact sameC_cA (by omega)
    refine c_X14_manyIn (AR_fr s10 A7) ?_
    intro _
    have en7 : nw h7 = N := (nw_F t5 f7).trans eN5.symm
    refine k b_ _ _ _ t4 eh1 qh5 t5 (Fr_tr (Fr_mono f7 (fun _ z => z.elim)) u7.1 (by rw [eh10]; exact Fr_cA rfl)) ⟨?_, ?_⟩ (by rw [eh10, nw_cA t7 A7 (by omega), en7])
    · rw [eh10, len_cA]; exact g7.1
    · rw [eh10, xhs_cA8 t7 A7 (by omega)]; exact g7.2
  · have q_ : ¬ (0 ≤ p0 ∧ p0 < 3) ∧ h4 = sI h1 437 5 1 := by
      rcases qx3 with ⟨y, _⟩ | ⟨_, y, z⟩
      · omega
      · exact ⟨y, z⟩
    exact k0 q_.1 _ _ t1 eh1 q_.2
theorem d_lock {h : XH} {nd : Nat → ND} {o u p0 : Int} {c : Nat} (T : HT h) (R : Inv h nd o u c) (hc : c < 1000) {K : Int → XH → Prop} {J : XH → Prop} (k : ∀ h' o' u', HT h' → Inv h' nd o' u' (c + 1) → Gr (1 + 1) (xcs none + (n12)) h h' → J h') : w_L_lock p0 (LDw h (fun g Q => w_X14_lock p0 Q g) K J) h := by
  have W := R.1.2.1
  have C := R.1.1
  have hr := rh_lt W
  obtain ⟨b0, p1', p2', p3', p4', p5'⟩ := id R.1.2.2.2.1
  refine dset (S := fun b => b = 39) (N' := putF (nw h) (1678 + 12 * p0.toNat) (goal (nw h) (rh (nw h)))) (e := if 0 ≤ p0 ∧ p0 < 3 then 0 else 1) (x := (cntN 12 (fun p => !decide (goal (nw h) (rh (nw h)) p = -1)) : Nat)) (wL := fun Q => w_L_lock p0 Q h) (wR := fun g Q => w_X14_lock p0 Q g) T R hc (fun b y => by have := rc_lt hr; omega) (fun ez => ?_) (fun ez b => ?_) (fun Q q0 q1 => ?_) (fun g Tg gF g3 g2 eg Q q0 q1 => ?_) k
  · have z := e1_0 (by decide) ez
    exact (CS_lock T C W (by omega) (CS_g C hr) rfl).2
  · have z := e1_0 (by decide) ez
    exact BdN_cg (fun i hi => putF_out (by omega)) (fun r hr => ⟨putF_out (by omega), fun p hp => putF_out (by omega)⟩) (fun m hm => putF_out (by omega)) (WF_b W).2.2.2 b
  · exact c_L_lock T C W b0 p1' p2' R.1.2.2.2.2.1  (fun y => kA q0 (by decide) y) (fun y => kZ q1 y)
  · exact c_X14_lock Tg eg.symm W (by omega) g3 g2  (fun y => kA q0 (by decide) y) (fun y => kZ q1 y)
def bkF (N : Nat → Int) (e : Int) : Nat → Int := fun p => if e = -1 then -1 else keptF N (rh N) (e % 20).toNat p
set_option maxHeartbeats 1000000 in
theorem c_X12_backTo {p0 : Int} {h : XH} {N : Nat → Int} {nd : Nat → ND} {m : Nat} {o u : Int} (T : HT h) (C : CS h 8 N nd) (W : WF N m) (B0 : 0 ≤ o ∧ o < 10 ∧ 0 ≤ u ∧ u ≤ 10) (Bo : hI h 2 9 = o) (Bu : hI h 2 10 = u) (Bs : hI h 43 2 = 10) {K : Int → XH → Prop} {E : Nat → XH → Prop} (k0 : ¬ (p0 = -1 ∨ (0 ≤ p0 ∧ p0 < nR N (rh N) 47 ∧ nR N (rh N) 47 - 20 ≤ p0)) → E 3 (nT h)) (k : (p0 = -1 ∨ (0 ≤ p0 ∧ p0 < nR N (rh N) 47 ∧ nR N (rh N) 47 - 20 ≤ p0)) → ∀ h2 h4, Rmb o u h h2 → HT h2 → Fr (fun b => b = rc (rh N)) h2 h4 → h4.length = h2.length → xhs h4 = xhs h2 → CS h4 8 (putF N (805 + 291 * rh N + 35) (bkF N p0)) nd → K ((cntN 12 (fun p => !decide (inst N (rh N) p = bkF N p0 p)) : Nat)) h4) : w_X12_backTo p0 K E h := by
  unfold w_X12_backTo
  have w7 := (W.2.1 (rh N) (rh_lt W)).2.2.2.2.2.2.2.2.2
  refine c_atH C W ?_
  refine ⟨p0 = -1 ∨ (0 ≤ p0 ∧ p0 < nR N (rh N) 47 ∧ nR N (rh N) 47 - 20 ≤ p0), ?_, ?_⟩
  · intro z2
    refine c_X12_remember B0 T Bo Bu Bs ?_
    intro h3 qh3
    intro t3 u3
    have C3' := Rmb_CS T qh3 B0 W C
    refine ⟨_, fun b4 z5 => z5, ?_⟩
    refine ⟨fun c11 => ?_, fun c11 => ?_⟩
    · refine ⟨(rc_k t3 (rh_lt W)), ?_⟩
      refine c_X6_entryAt (by omega) ?_
      refine ⟨(rc_k t3 (rh_lt W)), ?_⟩
      intro h7 eh7 t7 u7
      have SS : SetR N (hL h3 (rc (rh N) + 3) (p0 % 20).toNat) (bkF N p0) := by
        have e : bkF N p0 = keptF N (rh N) (p0 % 20).toNat := funext fun p => if_neg c11
        rw [e]
        exact CS_e C3' (rh_lt W) (by omega) (by omega)
      obtain ⟨c1, c2⟩ := CS_goal (g := h7) t3 C3' W (rh_lt W) SS eh7
      refine c_X12_changesBetween c1.1 c1.2.1 c2.1 ?_
      rw [diff_F c2.1 (CS_i c1 (rh_lt W)) (CS_g c1 (rh_lt W))]
      rw [show cntN 12 (fun p => !decide (inst (putF N (805 + 291 * rh N + 35) (bkF N p0)) (rh N) p = goal (putF N (805 + 291 * rh N + 35) (bkF N p0)) (rh N) p)) = cntN 12 (fun p => !decide (inst N (rh N) p = bkF N p0 p)) from cntN_cg _ (fun p hp => by rw [inst_goal hp, goal_in hp])]
      intro _
      exact k z2 _ _ qh3 t3 (by rw [eh7]; exact Fr_sV rfl) (by rw [eh7, len_sV]) (by rw [eh7, xhs_sV]) c1
    · refine ⟨(rc_k t3 (rh_lt W)), ?_⟩
      intro h7 eh7 t7 u7
      have SS : SetR N (0#64) (bkF N p0) := by
        have e : bkF N p0 = fun _ => -1 := funext fun p => if_pos (by omega)
        rw [e]
        exact SetR_0 W.1
      obtain ⟨c1, c2⟩ := CS_goal (g := h7) t3 C3' W (rh_lt W) SS eh7
      refine c_X12_changesBetween c1.1 c1.2.1 c2.1 ?_
      rw [diff_F c2.1 (CS_i c1 (rh_lt W)) (CS_g c1 (rh_lt W))]
      rw [show cntN 12 (fun p => !decide (inst (putF N (805 + 291 * rh N + 35) (bkF N p0)) (rh N) p = goal (putF N (805 + 291 * rh N + 35) (bkF N p0)) (rh N) p)) = cntN 12 (fun p => !decide (inst N (rh N) p = bkF N p0 p)) from cntN_cg _ (fun p hp => by rw [inst_goal hp, goal_in hp])]
      intro _
      exact k z2 _ _ qh3 t3 (by rw [eh7]; exact Fr_sV rfl) (by rw [eh7, len_sV]) (by rw [eh7, xhs_sV]) c1
  · refine ⟨fun c15 => ?_, fun c15 => ?_⟩
    · first
        | exact .inl c15
        | exact .inr ((bq1 qx13).2.2.1.mp c14)
    · refine ⟨(rc_k T (rh_lt W)), ?_⟩
      refine c_X6_isKept T C W ?_
      intro x13 qx13
      intro rx13 vx13
      refine ⟨fun c14 => ?_, fun c14 => ?_⟩
      · first
          | exact .inl c15
          | exact .inr ((bq1 qx13).2.2.1.mp c14)
      · exact k0 (fun z => by
          have := (bq1 qx13).2.1.mp (by omega)
          omega)
set_option maxHeartbeats 1000000 in
theorem c_L_backTo {p0 : Int} {h : XH} {N : Nat → Int} {nd : Nat → ND} {m : Nat} {o u : Int} (T : HT h) (C : CS h 8 N nd) (W : WF N m) (B0 : 0 ≤ o ∧ o < 10 ∧ 0 ≤ u ∧ u ≤ 10) (Bo : hI h 2 9 = o) (Bu : hI h 2 10 = u) (Bs : hI h 43 2 = 10) {K : Int → XH → Prop} (k0 : ¬ (p0 = -1 ∨ (0 ≤ p0 ∧ p0 < nR N (rh N) 47 ∧ nR N (rh N) 47 - 20 ≤ p0)) → K 1 (nT h)) (k : (p0 = -1 ∨ (0 ≤ p0 ∧ p0 < nR N (rh N) 47 ∧ nR N (rh N) 47 - 20 ≤ p0)) → ∀ h2 h4 h5, Rmb o u h h2 → HT h2 → Fr (fun b => b = rc (rh N)) h2 h4 → h4.length = h2.length → xhs h4 = xhs h2 → HT h4 → CS h4 8 (putF N (805 + 291 * rh N + 35) (bkF N p0)) nd → h5 = sL h4 467 0 (i2l ((cntN 12 (fun p => !decide (inst N (rh N) p = bkF N p0 p)) : Nat))) → K 0 h5) : w_L_backTo p0 K h := by
  unfold w_L_backTo
  refine c_X12_backTo T C W B0 Bo Bu Bs (fun q => ⟨rfl, k0 q⟩) (fun q g2 g4 r t f l x c => ?_)
  intro tx ux _
  intro h5 eh5 t5 u5
  exact k q _ _ _ r t f l x tx c eh5
set_option maxHeartbeats 1000000 in
theorem c_X14_putGoal {p0 : Nat} {h : XH} {N : Nat → Int} {m : Nat} (T : HT h) (eN : N = nw h) (W : WF N m) {f : Nat → Int} (A : AR h p0 f) (n8 : 468 ≤ p0) {K : XH → Prop} (k : ∀ h1, Fr (fun b => b = 438) h h1 → h1.length = h.length → xhs h1 = xhs h → nw h1 = putF N (805 + 291 * rh N + 35) f → K h1) : w_X14_putGoal p0 K h := by
  unfold w_X14_putGoal
  have r3 := rh_lt W
  have E : wr (wr (805 + wr (hI h 438 1 * 291)) + 35) = 805 + 291 * (rh N : Int) + 35 := by
    rw [hr_ eN W]
    simp (disch := omega) only [wr_of]
    omega
  rw [E]
  refine ⟨A.1, ?_⟩
  refine ⟨(by have := A.2.1; omega), ?_⟩
  intro h3 eh3 t3 u3
  rw [show (805 + 291 * (rh N : Int) + 35).toNat = 805 + 291 * rh N + 35 by omega] at eh3
  exact k _ (by rw [eh3]; exact Fr_cA rfl) (by rw [eh3, len_cA]) (by rw [eh3, xhs_cA8 T A (by omega)]) (by rw [eh3, nw_cA T A (by omega), eN])
set_option maxHeartbeats 1000000 in
theorem c_X14_backTo {p0 : Int} {h : XH} {N : Nat → Int} {m : Nat} {q u : Int} (T : HT h) (eN : N = nw h) (W : WF N m) (B1 : 0 ≤ q ∧ q < 10 ∧ 0 ≤ u ∧ u ≤ 10) (Rq : hI h 437 3 = q) (Ru : hI h 437 2 = u) {K : Int → XH → Prop} (k0 : ¬ (p0 = -1 ∨ (0 ≤ p0 ∧ p0 < nR N (rh N) 47 ∧ nR N (rh N) 47 - 20 ≤ p0)) → ∀ h1 h2, HT h1 → h1 = sI h 437 5 0 → h2 = sI h1 437 5 1 → K 0 h2) (k : (p0 = -1 ∨ (0 ≤ p0 ∧ p0 < nR N (rh N) 47 ∧ nR N (rh N) 47 - 20 ≤ p0)) → ∀ h1 h5 h7, HT h1 → h1 = sI h 437 5 0 → Rrec q u h1 h5 → HT h5 → Fr (fun b => b = 438) h5 h7 → Gr 3 (n12 + n12 + n12) h5 h7 → nw h7 = putF N (805 + 291 * rh N + 35) (bkF N p0) → K ((cntN 12 (fun p => !decide (inst N (rh N) p = bkF N p0 p)) : Nat)) h7) : w_X14_backTo p0 K h := by
  unfold w_X14_backTo
  intro h1 eh1 t1 u1
  have eN1 : N = nw h1 := eN.trans (nw_fr (by rw [eh1]; exact sameC_sV (by decide))).symm
  have Rq1 : hI h1 437 3 = q := by rw [eh1, hI_ni (by decide)]; exact Rq
  have Ru1 : hI h1 437 2 = u := by rw [eh1, hI_ni (by decide)]; exact Ru
  have w7 := (W.2.1 (rh N) (rh_lt W)).2.2.2.2.2.2.2.2.2
  refine ⟨fun x => bq x (p0 = -1 ∨ (0 ≤ p0 ∧ p0 < nR N (rh N) 47 ∧ nR N (rh N) 47 - 20 ≤ p0)), ?_, ?_⟩
  · intro x2 rx2 z3
    refine c_X14_refused z3 ?_
    intro x4 h5 qx4
    intro t5 u5
    intro rx4 vx4
    refine ⟨fun c28 => ?_, fun c28 => ?_⟩
    · obtain ⟨b_, e_⟩ : (p0 = -1 ∨ (0 ≤ p0 ∧ p0 < nR N (rh N) 47 ∧ nR N (rh N) 47 - 20 ≤ p0)) ∧ h5 = h1 := by
        rcases qx4 with ⟨_, y, z⟩ | ⟨y, _⟩
        · exact ⟨y, z⟩
        · omega
      subst e_
      refine c_X14_record B1 t5 Rq1 Ru1 ?_
      intro h6 qh6
      have eN6 : N = nw h6 := eN1.trans (nw_fr (qh6.1 438 (by have := HT_len t5; omega) (by decide))).symm
      intro t6 u6
      intro a7 h8 ea7 eh8 t8 u8 ca7 la7
      have L6 := HT_len t6
      have s8 : ∀ b, b < h6.length → sameC h6 h8 b := fun b hb => by rw [eh8]; exact sameC_app hb
      have l8 : h8.length = h6.length + 1 := by rw [eh8]; unfold nA; rw [len_app]
      have x8 : xhs h8 = xhs h6 + n12 := by rw [eh8, xhs_nA]; rfl
      refine ⟨fun v g => 0 ≤ v ∧ v ≤ 12 ∧ Fr (fun b => b = a7) h8 g ∧ g.length = h8.length ∧ xhs g = xhs h8 ∧ hk g a7 = 100 ∧ hn g a7 = 12 ∧ ∀ j : Nat, (j : Int) < v → hI g a7 j = -1, fun v _ => (12 - v).toNat, ?_, ?_⟩
      · exact ⟨by omega, by omega, Fr_rf _ _, rfl, rfl, ca7, la7, fun j hj => by omega⟩
      · intro x9 h10 t10 s10 rx9 z11
        refine ⟨fun c27 => ?_, fun c27 => ?_⟩
        · obtain ⟨z0, z1, zf, zl, zx, zk, zn, zv⟩ := z11
          have f10 : Fr (fun _ => False) h6 h10 := fun b hb n => sameC_tr (s8 b hb) (zf b (by omega) (by omega))
          have eN10 : N = nw h10 := eN6.trans (nw_F t6 f10).symm
          refine ⟨_, fun a13 h14 t14 s14 z15 => z15, ?_⟩
          refine ⟨fun c22 => ?_, fun c22 => ?_⟩
          · have A10 : AR h10 a7 (bkF N p0) := ⟨zk, zn, fun i hi => by rw [zv i (by omega)]; exact (if_pos c22).symm⟩
            refine c_X14_putGoal t10 eN10 W A10 (by omega) ?_
            intro h16 f16 l16 x16 en16
            have FF : Fr (fun b => b = 438) h6 h16 := Fr_tr (Fr_mono f10 (fun _ z => z.elim)) (by omega) f16
            have GG : Gr 1 n12 h6 h16 := ⟨by omega, by omega⟩
            intro t16 u16
            have en16' := en16
            refine c_iS t16 en16.symm (WF_goal W (rh_lt W)) ?_
            intro a17 h18 f18 g18 l18 A18
            rw [rh_goal] at A18
            intro t18 u18
            refine c_X14_differences (AR_fr (sameC_tr (f16 a7 (by omega) (by omega)) (f18 a7 (by omega) id)) A10) A18 ?_
            rw [show cntN 12 (fun p => !decide (bkF N p0 p = inst (putF N (805 + 291 * rh N + 35) (bkF N p0)) (rh N) p)) = cntN 12 (fun p => !decide (inst N (rh N) p = bkF N p0 p)) from cntN_cg _ (fun p hp => by rw [inst_goal hp, decide_eq_decide.mpr (show bkF N p0 p = inst N (rh N) p ↔ inst N (rh N) p = bkF N p0 p from eq_comm)])]
            intro _
            refine k b_ _ _ _ t5 eh1 qh6 t6 ?_ ?_ ?_
            · exact Fr_tr FF (by first | omega | (have := u21.1; omega)) (Fr_mono f18 (fun _ z => z.elim))
            · refine Gr_mono (Gr_tr GG g18) (by omega) (by omega)
            · rw [nw_F t16 f18]; exact en16
          · refine c_X14_entrySet t10 eN10 W (by omega) ?_
            intro a20 h21 f21 g21 l21 A21
            intro t21 u21
            have eb : bkF N p0 = keptF N (rh N) (p0 % 20).toNat := funext fun p => if_neg c22
            rw [← eb] at A21
            refine c_X14_putGoal t21 (eN10.trans (nw_F t10 f21).symm) W A21 (by omega) ?_
            intro h16 f16 l16 x16 en16
            have FF : Fr (fun b => b = 438) h6 h16 := Fr_tr (Fr_mono (Fr_tr f10 (by omega) f21) (fun _ z => z.elim)) (by have := u21.1; omega) f16
            have GG : Gr 2 (n12 + n12) h6 h16 := ⟨by have := g21.1; omega, by have := g21.2; omega⟩
            intro t16 u16
            have en16' := en16
            refine c_iS t16 en16.symm (WF_goal W (rh_lt W)) ?_
            intro a17 h18 f18 g18 l18 A18
            rw [rh_goal] at A18
            intro t18 u18
            refine c_X14_differences (AR_fr (sameC_tr (f16 a20 (hk_lt A21.1 (by decide)) (by omega)) (f18 a20 (by have := hk_lt A21.1 (by decide); omega) id)) A21) A18 ?_
            rw [show cntN 12 (fun p => !decide (bkF N p0 p = inst (putF N (805 + 291 * rh N + 35) (bkF N p0)) (rh N) p)) = cntN 12 (fun p => !decide (inst N (rh N) p = bkF N p0 p)) from cntN_cg _ (fun p hp => by rw [inst_goal hp, decide_eq_decide.mpr (show bkF N p0 p = inst N (rh N) p ↔ inst N (rh N) p = bkF N p0 p from eq_comm)])]
            intro _
            refine k b_ _ _ _ t5 eh1 qh6 t6 ?_ ?_ ?_
            · exact Fr_tr FF (by first | omega | (have := u21.1; omega)) (Fr_mono f18 (fun _ z => z.elim))
            · refine Gr_mono (Gr_tr GG g18) (by omega) (by omega)
            · rw [nw_F t16 f18]; exact en16
        · refine ⟨z11.2.2.2.2.2.1, ?_⟩
          refine ⟨(by have := z11.2.2.2.2.2.2.1; omega), ?_⟩
          intro h25 eh25 t25 u25
          intro x26 ex26 rx26
          obtain ⟨z0, z1, zf, zl, zx, zk, zn, zv⟩ := z11
          rw [wr_of (by omega) (by omega)] at ex26
          refine ⟨⟨by omega, by omega, Fr_tr zf (by omega) (by rw [eh25]; exact Fr_sV rfl), by rw [eh25, len_sV, zl], by rw [eh25, xhs_sV, zx], by rw [eh25, hk_sV]; exact zk, by rw [eh25, hn_sV]; exact zn, fun j hj => ?_⟩, by dsimp only; omega⟩
          by_cases c : j = x9.toNat
          · rw [c, eh25]
            exact hI_eq (by omega) (rgk rfl)
          · rw [eh25, hI_ni (fun z => c z.symm)]
            exact zv j (by omega)
    · have q_ : ¬ (p0 = -1 ∨ (0 ≤ p0 ∧ p0 < nR N (rh N) 47 ∧ nR N (rh N) 47 - 20 ≤ p0)) ∧ h5 = sI h1 437 5 1 := by
        rcases qx4 with ⟨y, _⟩ | ⟨_, y, z⟩
        · omega
        · exact ⟨y, z⟩
      exact k0 q_.1 _ _ t1 eh1 q_.2
  · refine ⟨_, fun z29 => z29, ?_⟩
    refine ⟨fun c32 => ?_, fun c32 => ?_⟩
    · first
        | exact bqT (.inl (by assumption))
        | exact bqF (fun z => (bq1 qx30).2.1.mp c31 (by omega))
        | exact bqT (.inr ((bq1 qx30).2.2.1.mp c31))
    · refine c_X14_isKept t1 eN1 W ?_
      intro x30 qx30
      intro rx30 vx30
      refine ⟨fun c31 => ?_, fun c31 => ?_⟩
      · first
          | exact bqT (.inl (by assumption))
          | exact bqF (fun z => (bq1 qx30).2.1.mp c31 (by omega))
          | exact bqT (.inr ((bq1 qx30).2.2.1.mp c31))
      · first
          | exact bqT (.inl (by assumption))
          | exact bqF (fun z => (bq1 qx30).2.1.mp c31 (by omega))
          | exact bqT (.inr ((bq1 qx30).2.2.1.mp c31))
theorem d_backTo {h : XH} {nd : Nat → ND} {o u p0 : Int} {c : Nat} (T : HT h) (R : Inv h nd o u c) (hc : c < 1000) {K : Int → XH → Prop} {J : XH → Prop} (k : ∀ h' o' u', HT h' → Inv h' nd o' u' (c + 1) → Gr (1 + 3) (xcs none + (n12 + n12 + n12)) h h' → J h') : w_L_backTo p0 (LDw h (fun g Q => w_X14_backTo p0 Q g) K J) h := by
  have W := R.1.2.1
  have C := R.1.1
  have hr := rh_lt W
  obtain ⟨b0, p1', p2', p3', p4', p5'⟩ := id R.1.2.2.2.1
  refine dset (S := fun b => b = rc (rh (nw h))) (N' := putF (nw h) (805 + 291 * rh (nw h) + 35) (bkF (nw h) p0)) (e := if p0 = -1 ∨ (0 ≤ p0 ∧ p0 < nR (nw h) (rh (nw h)) 47 ∧ nR (nw h) (rh (nw h)) 47 - 20 ≤ p0) then 0 else 1) (x := (cntN 12 (fun p => !decide (inst (nw h) (rh (nw h)) p = bkF (nw h) p0 p)) : Nat)) (wL := fun Q => w_L_backTo p0 Q h) (wR := fun g Q => w_X14_backTo p0 Q g) T R hc (fun b y => by have := rc_lt hr; omega) (fun ez => ?_) (fun ez b => ?_) (fun Q q0 q1 => ?_) (fun g Tg gF g3 g2 eg Q q0 q1 => ?_) k
  · have z := e1_0 (by decide) ez
    exact WF_goal W hr
  · have z := e1_0 (by decide) ez
    exact BdN_goal (WF_b W).2.2.2 hr b
  · exact c_L_backTo T C W b0 p1' p2' R.1.2.2.2.2.1  (fun y => kA q0 (by decide) y) (fun y => kZ q1 y)
  · exact c_X14_backTo Tg eg.symm W (by omega) g3 g2  (fun y => kA q0 (by decide) y) (fun y => kZ q1 y)
