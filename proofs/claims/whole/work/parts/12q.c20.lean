/-! OFFER, FAILS, PROVIDE: the reference; both -/
theorem c_X14_slotF {p0 p1 : Int} {K : Int → Prop} {h : XH} {N : Nat → Int} {m : Nat} (eN : N = nw h) (W : WV N m) (k : K (slotF N p0 p1)) : w_X14_slotOf p0 p1 K h :=
  c_X14_slotOf eN ⟨W.2.2.1, W.2.2.2.1⟩ (fun r q => by rw [slotF_is W q]; exact k)
set_option maxHeartbeats 1000000 in
theorem c_X14_offered {p0 p1 : Int} (b : 0 ≤ p0 ∧ p0 < 3 ∧ 0 ≤ p1 ∧ p1 < 40) {K : Int → Prop} {h : XH} (k : K (1715 + 81 * p0 + 2 * p1)) : w_X14_offered p0 p1 K h := by
  unfold w_X14_offered
  rw [show wr (wr (wr (1714 + wr (81 * p0)) + 1) + wr (2 * p1)) = 1715 + 81 * p0 + 2 * p1 by
    simp (disch := omega) only [wr_of]
    omega]
  exact k
set_option maxHeartbeats 1000000 in
theorem c_X14_offer {p0 p1 p2 p3 : Int} {h : XH} {N : Nat → Int} {m : Nat} {q u : Int} (T : HT h) (eN : N = nw h) (W : WF N m) (B1 : 0 ≤ q ∧ q < 10 ∧ 0 ≤ u ∧ u ≤ 10) (Rq : hI h 437 3 = q) (Ru : hI h 437 2 = u) (r3 : rg p3) {K : Int → XH → Prop} (k0 : ¬ ((0 ≤ p0 ∧ p0 < N 3) ∧ (0 ≤ p1 ∧ p1 < N 0) ∧ ¬ slotF N p1 p2 = -1) → ∀ h1 h2, HT h1 → h1 = sI h 437 5 0 → h2 = sI h1 437 5 1 → K 0 h2) (k : ((0 ≤ p0 ∧ p0 < N 3) ∧ (0 ≤ p1 ∧ p1 < N 0) ∧ ¬ slotF N p1 p2 = -1) → ∀ h1 h5 h7, HT h1 → h1 = sI h 437 5 0 → Rrec q u h1 h5 → HT h5 → Fr (fun b => b = 438) h5 h7 → Gr 0 (0) h5 h7 → nw h7 = updN (updN N (1715 + 81 * p0.toNat + 2 * (slotF N p1 p2).toNat) 1) (1716 + 81 * p0.toNat + 2 * (slotF N p1 p2).toNat) p3 → K ((cntN 40 (fun w => decide ((updN (updN N (1715 + 81 * p0.toNat + 2 * (slotF N p1 p2).toNat) 1) (1716 + 81 * p0.toNat + 2 * (slotF N p1 p2).toNat) p3) (1715 + 81 * p0.toNat + 2 * w) = 1)) : Nat)) h7) : w_X14_offer p0 p1 p2 p3 K h := by
  unfold w_X14_offer
  intro h1 eh1 t1 u1
  have eN1 : N = nw h1 := eN.trans (nw_fr (by rw [eh1]; exact sameC_sV (by decide))).symm
  have Rq1 : hI h1 437 3 = q := by rw [eh1, hI_ni (by decide)]; exact Rq
  have Ru1 : hI h1 437 2 = u := by rw [eh1, hI_ni (by decide)]; exact Ru
  have w3 := W.2.2.2.2.2.2.2.1
  have w4 := W.1.2.2.2.1
  refine c_X14_isMirror t1 eN1 W ?_
  intro x2 qx2
  intro rx2 vx2
  refine ⟨fun x => bq x ((0 ≤ p0 ∧ p0 < N 3) ∧ (0 ≤ p1 ∧ p1 < N 0) ∧ ¬ slotF N p1 p2 = -1), ?_, ?_⟩
  · intro x3 rx3 z4
    refine c_X14_refused z4 ?_
    intro x5 h6 qx5
    intro t6 u6
    intro rx5 vx5
    refine ⟨fun c24 => ?_, fun c24 => ?_⟩
    · obtain ⟨b_, e_⟩ : ((0 ≤ p0 ∧ p0 < N 3) ∧ (0 ≤ p1 ∧ p1 < N 0) ∧ ¬ slotF N p1 p2 = -1) ∧ h6 = h1 := by
        rcases qx5 with ⟨_, y, z⟩ | ⟨y, _⟩
        · exact ⟨y, z⟩
        · omega
      subst e_
      have sr := slotF_r (N := N) (p := p1) (c := p2) W.1.2.2.1
      refine c_X14_record B1 t6 Rq1 Ru1 ?_
      intro h7 qh7
      have eN7 : N = nw h7 := eN1.trans (nw_fr (qh7.1 438 (by have := HT_len t6; omega) (by decide))).symm
      intro t7 u7
      refine c_X14_slotF eN7 W.1 ?_
      intro _
      refine c_X14_offered (by omega) ?_
      intro _
      refine ⟨(by omega), ?_⟩
      intro h11 eh11 t11 u11
      refine c_X14_offered (by omega) ?_
      intro _
      rw [wr_of (by omega) (by omega)]
      refine ⟨(by omega), ?_⟩
      intro h14 eh14 t14 u14
      rw [show (1715 + 81 * p0 + 2 * slotF N p1 p2).toNat = 1715 + 81 * p0.toNat + 2 * (slotF N p1 p2).toNat by omega] at eh11
      rw [show (1715 + 81 * p0 + 2 * slotF N p1 p2 + 1).toNat = 1716 + 81 * p0.toNat + 2 * (slotF N p1 p2).toNat by omega] at eh14
      have en11 := W_nw t7 (by omega) (rgk rfl) eh11 eN7.symm
      have en14 := W_nw t11 (by omega) r3 eh14 en11
      have wt := WT_of (x := p3) W.2.2 (a := p0.toNat) (v := (slotF N p1 p2).toNat) (by omega) (by omega) (by unfold vc; omega)
      refine ⟨fun a v => 0 ≤ v ∧ v ≤ 40 ∧ a = (cntN v.toNat (fun w => decide ((updN (updN N (1715 + 81 * p0.toNat + 2 * (slotF N p1 p2).toNat) 1) (1716 + 81 * p0.toNat + 2 * (slotF N p1 p2).toNat) p3) (1715 + 81 * p0.toNat + 2 * w) = 1)) : Nat), fun _ v => (40 - v).toNat, ?_, ?_⟩
      · exact ⟨by omega, by omega, rfl⟩
      · intro x16 x17 rx16 rx17 z18
        refine ⟨fun c23 => ?_, fun c23 => ?_⟩
        · rw [z18.2.2, show x17.toNat = 40 by omega]
          exact k b_ _ _ _ t6 eh1 qh7 t7 (by rw [eh14, eh11]; exact Fr_tr (Fr_sV rfl) (by rw [len_sV]; omega) (Fr_sV rfl)) (by rw [eh14, eh11]; exact ⟨by rw [len_sV, len_sV]; omega, by rw [xhs_sV, xhs_sV]; omega⟩) en14
        · obtain ⟨z0, z1, z2⟩ := z18
          have st := cntN_st (g := fun w => decide ((updN (updN N (1715 + 81 * p0.toNat + 2 * (slotF N p1 p2).toNat) 1) (1716 + 81 * p0.toNat + 2 * (slotF N p1 p2).toNat) p3) (1715 + 81 * p0.toNat + 2 * w) = 1)) (v := x17) (by omega)
          have le := cntN_le (fun w => decide ((updN (updN N (1715 + 81 * p0.toNat + 2 * (slotF N p1 p2).toNat) 1) (1716 + 81 * p0.toNat + 2 * (slotF N p1 p2).toNat) p3) (1715 + 81 * p0.toNat + 2 * w) = 1)) x17.toNat
          have w01 := ((wt.2.2.2.2.2.2 p0.toNat (by omega)).2.2 x17.toNat (by omega)).1
          refine c_X14_offered (by omega) ?_
          intro _
          have ev : hI h14 438 (1715 + 81 * p0 + 2 * x17).toNat = (updN (updN N (1715 + 81 * p0.toNat + 2 * (slotF N p1 p2).toNat) 1) (1716 + 81 * p0.toNat + 2 * (slotF N p1 p2).toNat) p3) (1715 + 81 * p0.toNat + 2 * x17.toNat) := by
            rw [← en14, show (1715 + 81 * p0 + 2 * x17).toNat = 1715 + 81 * p0.toNat + 2 * x17.toNat by omega]
            rfl
          rw [ev]
          refine ⟨(by omega), ?_⟩
          intro x21 ex21 rx21
          intro x22 ex22 rx22
          rw [wr_of (by omega) (by omega)] at ex21 ex22
          refine ⟨⟨by omega, by omega, ?_⟩, by dsimp only; omega⟩
          rw [ex22, st, ex21, z2]
          rcases w01 with y | y
          · rw [y, if_neg (by decide)]; rfl
          · rw [y, if_pos (by decide)]; rfl
    · have q_ : ¬ ((0 ≤ p0 ∧ p0 < N 3) ∧ (0 ≤ p1 ∧ p1 < N 0) ∧ ¬ slotF N p1 p2 = -1) ∧ h6 = sI h1 437 5 1 := by
        rcases qx5 with ⟨y, _⟩ | ⟨_, y, z⟩
        · omega
        · exact ⟨y, z⟩
      exact k0 q_.1 _ _ t1 eh1 q_.2
  · refine ⟨_, fun z25 => z25, ?_⟩
    refine ⟨fun c28 => ?_, fun c28 => ?_⟩
    · first
        | exact bqF (fun z => (bq1 qx2).2.1.mp c28 z.1)
        | exact bqF (fun z => (bq1 qx26).2.1.mp c27 z.2)
        | exact bqT ⟨(bq1 qx2).2.2.1.mp c28, (bq1 qx26).2.2.1.mp c27⟩
    · refine c_X14_isVersion t1 eN1 W ?_
      intro x26 qx26
      intro rx26 vx26
      refine ⟨fun c27 => ?_, fun c27 => ?_⟩
      · first
          | exact bqF (fun z => (bq1 qx2).2.1.mp c28 z.1)
          | exact bqF (fun z => (bq1 qx26).2.1.mp c27 z.2)
          | exact bqT ⟨(bq1 qx2).2.2.1.mp c28, (bq1 qx26).2.2.1.mp c27⟩
      · first
          | exact bqF (fun z => (bq1 qx2).2.1.mp c28 z.1)
          | exact bqF (fun z => (bq1 qx26).2.1.mp c27 z.2)
          | exact bqT ⟨(bq1 qx2).2.2.1.mp c28, (bq1 qx26).2.2.1.mp c27⟩
theorem BdN_offer {N : Nat → Int} {a v c : Nat} {x : Int} (ha : a < 3) (hv : v < 40) (W : N 4 ≤ 40) (b : BdN N c) : BdN (updN (updN N (1715 + 81 * a + 2 * v) 1) (1716 + 81 * a + 2 * v) x) (c + 1) :=
  BdN_cg (fun i hi => by rw [updN_ne (by omega), updN_ne (by omega)]) (fun r hr => ⟨by unfold nR; rw [updN_ne (by omega), updN_ne (by omega)], fun p hp => by unfold inst nR; rw [updN_ne (by omega), updN_ne (by omega)]⟩) (fun m hm => by rw [updN_ne (by omega), updN_ne (by omega)]) W b
theorem WF_offer {N : Nat → Int} {m a v : Nat} {x : Int} (W : WF N m) (ha : a < 3) (hv : v < vc N) : WF (updN (updN N (1715 + 81 * a + 2 * v) 1) (1716 + 81 * a + 2 * v) x) m := by
  have v40 : v < 40 := by have := (WF_b W).2.2.2; unfold vc at hv; omega
  have en : ∀ j, ¬ j = 1715 + 81 * a + 2 * v → ¬ j = 1716 + 81 * a + 2 * v → updN (updN N (1715 + 81 * a + 2 * v) 1) (1716 + 81 * a + 2 * v) x j = N j := fun j n m => by rw [updN_ne m, updN_ne n]
  have E : VE N (updN (updN N (1715 + 81 * a + 2 * v) 1) (1716 + 81 * a + 2 * v) x) := fun i _ _ => en i (by omega) (by omega)
  exact ⟨WV_ve E W.1, fun r hr => WRt_ve E (fun k hk => en _ (by omega) (by omega)) (W.2.1 r hr), WT_of W.2.2 ha v40 hv⟩
theorem slot_v {N : Nat → Int} {m : Nat} (W : WV N m) {p c : Int} (n : ¬ slotF N p c = -1) : (slotF N p c).toNat < vc N ∧ (slotF N p c).toNat < 40 := by
  have := slotF_r (N := N) (p := p) (c := c) W.2.2.1
  have := W.2.2.2.1
  unfold vc
  omega
theorem d_offer {h : XH} {nd : Nat → ND} {o u p0 p1 p2 p3 : Int} {c : Nat} (T : HT h) (R : Inv h nd o u c) (hc : c < 1000) (r3 : rg p3) {K : Int → XH → Prop} {J : XH → Prop} (k : ∀ h' o' u', HT h' → Inv h' nd o' u' (c + 1) → Gr (1 + 0) (xcs none + (0)) h h' → J h') : w_L_offer p0 p1 p2 p3 (LDw h (fun g Q => w_X14_offer p0 p1 p2 p3 Q g) K J) h := by
  have W := R.1.2.1
  have C := R.1.1
  have hr := rh_lt W
  obtain ⟨b0, p1', p2', p3', p4', p5'⟩ := id R.1.2.2.2.1
  refine dset (S := fun b => b = 41 ∨ b = 42) (N' := updN (updN (nw h) (1715 + 81 * p0.toNat + 2 * (slotF (nw h) p1 p2).toNat) 1) (1716 + 81 * p0.toNat + 2 * (slotF (nw h) p1 p2).toNat) p3) (e := if (0 ≤ p0 ∧ p0 < (nw h) 3) ∧ (0 ≤ p1 ∧ p1 < (nw h) 0) ∧ ¬ slotF (nw h) p1 p2 = -1 then 0 else 1) (x := (cntN 40 (fun w => decide ((updN (updN (nw h) (1715 + 81 * p0.toNat + 2 * (slotF (nw h) p1 p2).toNat) 1) (1716 + 81 * p0.toNat + 2 * (slotF (nw h) p1 p2).toNat) p3) (1715 + 81 * p0.toNat + 2 * w) = 1)) : Nat)) (wL := fun Q => w_L_offer p0 p1 p2 p3 Q h) (wR := fun g Q => w_X14_offer p0 p1 p2 p3 Q g) T R hc (fun b y => by have := rc_lt hr; omega) (fun ez => ?_) (fun ez b => ?_) (fun Q q0 q1 => ?_) (fun g Tg gF g3 g2 eg Q q0 q1 => ?_) k
  · have z := e1_0 (by decide) ez
    have w3 := W.2.2.2.2.2.2.2.1
    exact WF_offer W (by omega) (slot_v W.1 z.2.2).1
  · have z := e1_0 (by decide) ez
    have w3 := W.2.2.2.2.2.2.2.1
    exact BdN_offer (by omega) (slot_v W.1 z.2.2).2 (WF_b W).2.2.2 b
  · exact c_L_offer T C W b0 p1' p2' R.1.2.2.2.2.1 r3 (fun y => kA q0 (by decide) y) (fun y => kZ q1 y)
  · exact c_X14_offer Tg eg.symm W (by omega) g3 g2 r3 (fun y => kA q0 (by decide) y) (fun y => kZ q1 y)
/-! what changes of a version's numbers do -/
def VQ (N M : Nat → Int) : Prop := M 0 = N 0 ∧ M 4 = N 4 ∧ (∀ v, v < vc N → nV M v 0 = nV N v 0 ∧ nV M v 1 = nV N v 1 ∧ nV M v 2 = nV N v 2) ∧ ∀ i, (1 ≤ i ∧ i ≤ 3 ∨ 805 ≤ i) → M i = N i
theorem VQ_c {N M : Nat → Int} (Q : VQ N M) : vc M = vc N := by unfold vc; rw [Q.2.1]
theorem VQ_p {N M : Nat → Int} (Q : VQ N M) : pc M = pc N := by unfold pc; rw [Q.1]
theorem SetR_vq {N M : Nat → Int} (Q : VQ N M) {s : BitVec 64} {f g : Nat → Int} (e : ∀ p, p < 12 → g p = f p) (hp : ∀ v, v < vc N → 0 ≤ nV N v 0 ∧ nV N v 0 < 12) (z : SetR N s f) : SetR M s g := by
  obtain ⟨z1, z2, z3, z4⟩ := z
  refine ⟨fun v hv => ?_, fun p hp => by rw [e p hp]; exact z2 p hp, z3, fun p hq => ?_⟩
  · rw [VQ_c Q, z1 v hv]
    constructor
    · intro ⟨a, b⟩
      have := hp v a
      have q := Q.2.2.1 v a
      rw [q.1, q.2.1, e _ (by omega)]
      exact ⟨a, b⟩
    · intro ⟨a, b⟩
      have := hp v a
      have q := Q.2.2.1 v a
      rw [q.1, q.2.1, e _ (by omega)] at b
      exact ⟨a, b⟩
  · rw [e p hq, VQ_c Q]
    refine (z4 p hq).imp_right fun ⟨v, a, b, d⟩ => ⟨v, a, ?_, ?_⟩
    · rw [(Q.2.2.1 v a).1]; exact b
    · rw [(Q.2.2.1 v a).2.1]; exact d
theorem CSP_vq {h : XH} {b : Nat} {N M : Nat → Int} (Q : VQ N M) (z : CSP h b N) : CSP h b M := by
  intro p hp
  rw [VQ_p Q] at hp
  obtain ⟨a1, a2, a3, a4, a5, a6⟩ := z p hp
  have q : ∀ v, v < vc N → nV M v 0 = nV N v 0 ∧ nV M v 1 = nV N v 1 := fun v hv => ⟨(Q.2.2.1 v hv).1, (Q.2.2.1 v hv).2.1⟩
  refine ⟨a1, a2, fun j => ?_, fun i hi => ?_, fun v hv e => ?_, fun i j hij hj => ?_⟩
  · rw [a3 j, VQ_c Q]
    constructor
    · intro y
      rcases y with ⟨y1, y2⟩ | y
      · exact .inl ⟨y1, by rw [(q j y1).1]; exact y2⟩
      · exact .inr y
    · intro y
      rcases y with ⟨y1, y2⟩ | y
      · exact .inl ⟨y1, by rw [← (q j y1).1]; exact y2⟩
      · exact .inr y
  · obtain ⟨v, v1, v2, v3⟩ := a4 i hi
    exact ⟨v, by rw [VQ_c Q]; exact v1, v2, by rw [(q v v1).1]; exact v3⟩
  · rw [VQ_c Q] at hv
    exact a5 v hv ((q v hv).1.symm.trans e)
  · obtain ⟨v, v1, v2, v3⟩ := a4 i (by omega)
    obtain ⟨w, w1, w2, w3⟩ := a4 j hj
    have := a6 i j hij hj
    rw [v2, w2, Int.toNat_natCast, Int.toNat_natCast] at this ⊢
    rw [(q v v1).2, (q w w1).2]
    exact this
theorem CSR_vq {h : XH} {b : Nat} {N M : Nat → Int} {nd : Nat → ND} {r : Nat} (Q : VQ N M) (hp : ∀ v, v < vc N → 0 ≤ nV N v 0 ∧ nV N v 0 < 12) (z : CSR h b N nd r) : CSR h b M nd r := by
  obtain ⟨a1, a2, a3, a4, a5, a6, a7, a8, a9, a10, a11, a12⟩ := z
  have e : ∀ k, nR M r k = nR N r k := fun k => Q.2.2.2 _ (by omega)
  unfold CSR
  simp only [e]
  exact ⟨a1, a2, a3, a4, a5, SetR_vq Q (fun _ _ => rfl) hp a6, SetR_vq Q (fun _ _ => rfl) hp a7, a8, fun i hi hq => SetR_vq Q (fun _ _ => rfl) hp (a9 i hi hq), a10, a11, a12⟩
theorem CST_vq {h : XH} {b : Nat} {N M : Nat → Int} (Q : VQ N M) (hp : ∀ v, v < vc N → 0 ≤ nV N v 0 ∧ nV N v 0 < 12) (z : CST h b N) : CST h b M := by
  obtain ⟨a1, a2, a3, a4, a5⟩ := z
  have e := Q.2.2.2
  refine ⟨by rw [e 1 (by omega)]; exact a1, by rw [e 3 (by omega)]; exact a2, by rw [e 2 (by omega)]; exact a3, fun l hl => SetR_vq Q (fun p hp => e _ (by omega)) hp (a4 l hl), fun m hm => ?_⟩
  obtain ⟨q1, q2, q3⟩ := a5 m hm
  refine ⟨by rw [e _ (by omega)]; exact q1, fun v hv => by rw [e _ (by omega)]; exact q2 v hv, fun v hv x => ?_⟩
  rw [e _ (by omega)] at x ⊢
  exact q3 v hv x
theorem WRt_vq {N M : Nat → Int} {m r : Nat} (Q : VQ N M) (z : WRt N m r) : WRt M m r := by
  have e : ∀ k, nR M r k = nR N r k := fun k => Q.2.2.2 _ (by omega)
  unfold WRt
  simp only [e, Q.1]
  exact z
theorem WT_vq {N M : Nat → Int} (Q : VQ N M) (z : WT N) : WT M := by
  obtain ⟨c1, c2, c3, c4, c5, c6, c7⟩ := z
  have e := Q.2.2.2
  unfold WT
  rw [e 1 (by omega), e 2 (by omega), e 3 (by omega), VQ_c Q]
  refine ⟨c1, c2, c3, c4, c5, c6, fun m hm => ?_⟩
  obtain ⟨q1, q2, q3⟩ := c7 m hm
  rw [e _ (by omega)]
  exact ⟨q1, q2, fun v hv => by rw [e _ (by omega)]; exact q3 v hv⟩
theorem slotF_vq {N M : Nat → Int} (Q : VQ N M) (p c : Int) : slotF M p c = slotF N p c := by
  unfold slotF
  rw [VQ_c Q]
  refine fnd_cg _ (fun v hv => ?_)
  rw [(Q.2.2.1 v hv).1, (Q.2.2.1 v hv).2.1]
theorem slF_vq {N M : Nat → Int} (Q : VQ N M) (f : Nat → Int) (p : Nat) : slF M f p = slF N f p := by
  unfold slF
  rw [slotF_vq Q]
theorem BdN_vq {N M : Nat → Int} {m c : Nat} (Q : VQ N M) (W : WV N m) (I : ∀ r : Nat, r < 3 → fOK N (inst N r)) (b : BdN N c) : BdN M (c + 1) := by
  have ei : ∀ r, inst M r = inst N r := fun r => funext fun p => Q.2.2.2 _ (by omega)
  have ef : ∀ r, r < 3 → ∀ p, p < 12 → filesP M (inst N r) p = filesP N (inst N r) p := fun r hr p hp => by
    by_cases n : inst N r p = -1
    · unfold filesP
      rw [if_pos n, if_pos n]
    · obtain ⟨v, hv, e, -⟩ := fOK_v W (I r hr) hp n
      rw [filesP_v n e, filesP_v n ((slF_vq Q _ _).trans e)]
      unfold fv
      rw [(Q.2.2.1 v hv).2.2]
  obtain ⟨a1, a2, a3, a4⟩ := b
  refine ⟨fun r hr => by rw [show nR M r 47 = nR N r 47 from Q.2.2.2 _ (by omega)]; have := a1 r hr; omega, by rw [Q.2.2.2 2 (by omega)]; omega, fun k hk => by rw [Q.2.2.2 _ (by omega)]; have := a3 k hk; omega, fun r hr p q hp hq n => ?_⟩
  rw [ei, ef r hr p hp, ef r hr q hq]
  exact a4 r hr p q hp hq n
/-- a version alone -/
def CSV1 (h : XH) (b : Nat) (N : Nat → Int) (nd : Nat → ND) (v : Nat) : Prop :=
    hI h (b + 5) v = nV N v 0 ∧ hI h (b + 6) v = nV N v 1 ∧ hI h (b + 7) v = nV N v 2 ∧ hI h (b + 8) v = nV N v 3 ∧ hI h (b + 9) v = nV N v 4 ∧
    ((hL h (b + 1) 10).getLsbD v = true ↔ nV N v 5 = 1) ∧
    (nV N v 6 = 0 ∧ hR h (b + 18) v = 0 ∨ 0 < nV N v 6 ∧ AtomR h (hR h (b + 18) v) (nd (nV N v 6 - 1).toNat)) ∧
    hI h (b + 10) v = nV N v 7 ∧ (∀ k : Nat, k < 3 → (k : Int) < nV N v 7 → AtomR h (hR h (b + 11) (3 * v + k)) (nd (nV N v (8 + k)).toNat) ∧ hI h (b + 12) (3 * v + k) = b2i ((nV N v 11).toNat.testBit k)) ∧
    hI h (b + 13) v = nV N v 12 ∧ (∀ k : Nat, k < 2 → (k : Int) < nV N v 12 → AtomR h (hR h (b + 14) (2 * v + k)) (nd (nV N v (13 + k)).toNat)) ∧
    hI h (b + 15) v = nV N v 15 ∧ (∀ k : Nat, k < 2 → (k : Int) < nV N v 15 → hI h (b + 16) (2 * v + k) = nV N v (16 + 2 * k) ∧ hI h (b + 17) (2 * v + k) = nV N v (17 + 2 * k))
theorem CSV_1 {h : XH} {b : Nat} {N : Nat → Int} {nd : Nat → ND} (z : CSV h b N nd) {v : Nat} (hv : v < vc N) : CSV1 h b N nd v := z.2.2 v hv
/-- the same version in another heap, of another row -/
theorem CSV1_cg {h g : XH} {N M : Nat → Int} {nd : Nat → ND} {v : Nat} (X : ∀ a, hk h a = 1 ∨ hk h a = 11 → sameC h g a) (e : ∀ k, k < 20 → nV M v k = nV N v k) (s : ∀ c, 13 ≤ c → c < 19 → hI g c v = hI h c v) (s26 : hR g 26 v = hR h 26 v) (sf : (hL g 9 10).getLsbD v = (hL h 9 10).getLsbD v) (s19 : ∀ k, k < 3 → hR g 19 (3 * v + k) = hR h 19 (3 * v + k) ∧ hI g 20 (3 * v + k) = hI h 20 (3 * v + k)) (s21 : hI g 21 v = hI h 21 v) (s22 : ∀ k, k < 2 → hR g 22 (2 * v + k) = hR h 22 (2 * v + k) ∧ hI g 24 (2 * v + k) = hI h 24 (2 * v + k) ∧ hI g 25 (2 * v + k) = hI h 25 (2 * v + k)) (s23 : hI g 23 v = hI h 23 v) (z : CSV1 h 8 N nd v) : CSV1 g 8 M nd v := by
  obtain ⟨a1, a2, a3, a4, a5, a6, a7, a8, a9, a10, a11, a12, a13⟩ := z
  unfold CSV1
  rw [e 0 (by decide), e 1 (by decide), e 2 (by decide), e 3 (by decide), e 4 (by decide), e 5 (by decide), e 6 (by decide), e 7 (by decide), e 11 (by decide), e 12 (by decide), e 15 (by decide)]
  refine ⟨(s 13 (by decide) (by decide)).trans a1, (s 14 (by decide) (by decide)).trans a2, (s 15 (by decide) (by decide)).trans a3, (s 16 (by decide) (by decide)).trans a4, (s 17 (by decide) (by decide)).trans a5, by rw [show (hL g (8 + 1) 10).getLsbD v = (hL h (8 + 1) 10).getLsbD v from sf]; exact a6, by rw [show hR g (8 + 18) v = hR h (8 + 18) v from s26]; exact a7.imp_right fun y => ⟨y.1, AtomR_fr X y.2⟩, (s 18 (by decide) (by decide)).trans a8, fun k h3 hk => ?_, s21.trans a10, fun k h2 hk => ?_, s23.trans a12, fun k h2 hk => ?_⟩
  · rw [e (8 + k) (by omega), show hR g (8 + 11) (3 * v + k) = hR h (8 + 11) (3 * v + k) from (s19 k h3).1, show hI g (8 + 12) (3 * v + k) = hI h (8 + 12) (3 * v + k) from (s19 k h3).2]
    exact ⟨AtomR_fr X (a9 k h3 hk).1, (a9 k h3 hk).2⟩
  · rw [e (13 + k) (by omega), show hR g (8 + 14) (2 * v + k) = hR h (8 + 14) (2 * v + k) from (s22 k h2).1]
    exact AtomR_fr X (a11 k h2 hk)
  · rw [e (16 + 2 * k) (by omega), e (17 + 2 * k) (by omega)]
    have := s22 k h2
    exact ⟨this.2.1.trans (a13 k h2 hk).1, this.2.2.trans (a13 k h2 hk).2⟩
/-- cells of the shelf's versions are changed, of one version -/
theorem CS_ver {h g : XH} {N M : Nat → Int} {nd : Nat → ND} {m v : Nat} (C : CS h 8 N nd) (W : WF N m) (Q : VQ N M) (G : ∀ c, 8 ≤ c → c < 43 → c = 8 ∨ (10 ≤ c ∧ c < 18) ∨ 27 ≤ c → sameC h g c) (X : ∀ a, hk h a = 1 ∨ hk h a = 11 → sameC h g a) (g9 : hI g 9 0 = hI h 9 0 ∧ hI g 9 1 = hI h 9 1) (o : ∀ w, w < vc N → ¬ w = v → CSV1 g 8 M nd w) (z : v < vc N → CSV1 g 8 M nd v) (w1 : WV M m) : CS g 8 M nd ∧ WF M m := by
  have hW := WF_b W
  have hp := WV_hp W.1
  refine ⟨⟨⟨by rw [Q.1]; exact g9.1.trans C.1.1, by rw [Q.2.1]; exact g9.2.trans C.1.2.1, fun w hw => ?_⟩, ?_, fun r hr => CSR_vq Q hp (CSR_cp (fun j i w _ => sameC_el (G _ (by omega) (by omega) (by omega)) i) X (C.2.2.1 r hr)), CST_vq Q hp (CST_cp (fun j i w _ => sameC_el (G (8 + j) (by omega) (by omega) (by omega)) i) C.2.2.2)⟩, w1, fun r hr => WRt_vq Q (W.2.1 r hr), WT_vq Q W.2.2⟩
  · rw [VQ_c Q] at hw
    by_cases c : w = v
    · subst c; exact z hw
    · exact o w hw c
  · refine CSP_vq Q ?_
    intro p hp
    have z := C.2.1 p hp
    have s10 := G 10 (by decide) (by decide) (by decide)
    have s11 := G 11 (by decide) (by decide) (by decide)
    have s12 := G 12 (by decide) (by decide) (by decide)
    show 0 ≤ hI g 10 p ∧ hI g 10 p ≤ 8 ∧ (∀ j : Nat, (hL g 11 p).getLsbD j = true ↔ _) ∧ (∀ i : Nat, (i : Int) < hI g 10 p → ∃ v : Nat, v < vc N ∧ hI g 12 (8 * p + i) = v ∧ nV N v 0 = p) ∧ (∀ v : Nat, v < vc N → nV N v 0 = p → ∃ i : Nat, (i : Int) < hI g 10 p ∧ hI g 12 (8 * p + i) = v) ∧ (∀ i j : Nat, i < j → (j : Int) < hI g 10 p → nV N (hI g 12 (8 * p + i)).toNat 1 < nV N (hI g 12 (8 * p + j)).toNat 1)
    simp only [sameC_I s10, sameC_L s11, sameC_I s12]
    exact z
