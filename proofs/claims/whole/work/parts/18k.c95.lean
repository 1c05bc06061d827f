/-! COUNT, and calls that tell -/
theorem TQ_CSt {h g k : XH} {N : Nat → Int} {nd : Nat → ND} (T : HT h) (q : TQ h g) (tk : TellOK g (told N nd)) (M : MetOK h N nd) (Tg : HT g) (ek : k = sI g 2 11 2) : CSt h k N nd ∧ (CaC h N nd → CaC k N nd) ∧ 2 ≤ hI k 2 11 ∧ MetOK k N nd ∧ TellOK k (told N nd) := by
  have L := HT_len T
  have sk : ∀ b, ¬ b = 2 → sameC g k b := fun b n => by rw [ek]; exact sameC_sV (fun z => n z.symm)
  have e11 : hI k 2 11 = 2 := by rw [ek]; exact hI_eq (lstn Tg).2.2.2.1 (rgk rfl)
  have m : MetOK k N nd := MetOK_fr (fun b x y => sk b (by omega)) (TQ_M T M q)
  have t : TellOK k (told N nd) := TellOK_fr (fun b x y => sk b (by omega)) tk
  have ca : CaC h N nd → CaC k N nd := fun z => by
    unfold CaC
    rw [e11]
    refine ⟨by decide, by decide, fun _ => m, fun _ => t, fun x => absurd x (by decide), fun x => absurd x (by decide), fun c hc => ?_⟩
    rw [sameC_I (sk 58 (by decide)), sameC_I (TQ_s T q (by decide) (by decide))]
    exact z.2.2.2.2.2.2 c hc
  refine ⟨⟨ca, fun b hb n => sameC_tr (q.1 b hb (by omega)) (sk b (by omega)), fun j hj => ?_, ?_, ?_⟩, ca, by omega, m, t⟩
  · rw [ek, el_ni (by omega)]; exact sameC_el (TQ_s T q (by decide) (by decide)) j
  · rw [ek, len_sV]; exact q.2.1
  · rw [ek, xhs_sV]; exact q.2.2.1
set_option maxHeartbeats 1000000 in
theorem c_know2 {h : XH} {N : Nat → Int} {nd : Nat → ND} {m : Nat} (T : HT h) (C : CS h 8 N nd) (W : WF N m) (dk : DK nd m) (CC : CaC h N nd) {K : XH → Prop} (k : ∀ g, HT g → CSt h g N nd → CaC g N nd → 2 ≤ hI g 2 11 → MetOK g N nd → TellOK g (told N nd) → K g) : w_X12_know 2 K h := by
  unfold w_X12_know
  refine c_X12_knowMet T C W dk CC ?_
  intro h1 s1 cc1 l1 m1
  intro t1 u1
  refine ⟨fun g => CSt h g N nd ∧ CaC g N nd ∧ 2 ≤ hI g 2 11 ∧ MetOK g N nd ∧ TellOK g (told N nd), ?_, ?_⟩
  · intro h2 t2 s2 z3
    refine ⟨fun g => CSt h g N nd ∧ CaC g N nd ∧ 2 ≤ hI g 2 11 ∧ MetOK g N nd ∧ TellOK g (told N nd), ?_, ?_⟩
    · intro h4 t4 s4 z5
      refine ⟨fun g => CSt h g N nd ∧ CaC g N nd ∧ 2 ≤ hI g 2 11 ∧ MetOK g N nd ∧ TellOK g (told N nd), ?_, ?_⟩
      · intro h6 t6 s6 z7
        exact k _ t6 z7.1 z7.2.1 z7.2.2.1 z7.2.2.2.1 z7.2.2.2.2
      · refine ⟨fun c11 => ?_, fun c11 => ?_⟩
        · first
            | exact z5
            | exact z3
            | exact ⟨s1, cc1, c19, m1, cc1.2.2.2.1 c19⟩
            | exact ⟨CSt_tr s1 y1, y2 cc1, y3, y4, y5⟩
            | omega
        · refine ⟨fun c10 => ?_, fun c10 => ?_⟩
          · first
              | exact z5
              | exact z3
              | exact ⟨s1, cc1, c19, m1, cc1.2.2.2.1 c19⟩
              | exact ⟨CSt_tr s1 y1, y2 cc1, y3, y4, y5⟩
              | omega
          · omega
    · refine ⟨fun c15 => ?_, fun c15 => ?_⟩
      · first
          | exact z5
          | exact z3
          | exact ⟨s1, cc1, c19, m1, cc1.2.2.2.1 c19⟩
          | exact ⟨CSt_tr s1 y1, y2 cc1, y3, y4, y5⟩
          | omega
      · refine ⟨fun c14 => ?_, fun c14 => ?_⟩
        · first
            | exact z5
            | exact z3
            | exact ⟨s1, cc1, c19, m1, cc1.2.2.2.1 c19⟩
            | exact ⟨CSt_tr s1 y1, y2 cc1, y3, y4, y5⟩
            | omega
        · omega
  · refine ⟨fun c19 => ?_, fun c19 => ?_⟩
    · first
        | exact z5
        | exact z3
        | exact ⟨s1, cc1, c19, m1, cc1.2.2.2.1 c19⟩
        | exact ⟨CSt_tr s1 y1, y2 cc1, y3, y4, y5⟩
        | omega
    · refine ⟨fun c18 => ?_, fun c18 => ?_⟩
      · first
          | exact z5
          | exact z3
          | exact ⟨s1, cc1, c19, m1, cc1.2.2.2.1 c19⟩
          | exact ⟨CSt_tr s1 y1, y2 cc1, y3, y4, y5⟩
          | omega
      · refine c_X1_tell t1 (CSt_CS T C W s1) W dk m1 ?_
        intro h16 th16 q16 k16
        intro t16 u16
        intro h17 eh17 t17 u17
        obtain ⟨y1, y2, y3, y4, y5⟩ := TQ_CSt t1 q16 k16 m1 th16 eh17
        first
          | exact z5
          | exact z3
          | exact ⟨s1, cc1, c19, m1, cc1.2.2.2.1 c19⟩
          | exact ⟨CSt_tr s1 y1, y2 cc1, y3, y4, y5⟩
          | omega
def cntV (N : Nat → Int) (nd : Nat → ND) (u p : Int) : Int := if p = 0 then N 0 else if p = 1 then N 4 else if p = 2 then N 3 else if p = 3 then (wl N (rh N) : Nat) else if p = 4 then ((told N nd).length : Int) else if p = 5 then nR N (rh N) 47 else if p = 6 then N 2 else u
set_option maxHeartbeats 1000000 in
theorem c_X12_count {p0 u : Int} {h : XH} {N : Nat → Int} {nd : Nat → ND} {m : Nat} (T : HT h) (C : CS h 8 N nd) (W : WF N m) (dk : DK nd m) (CC : CaC h N nd) (u0 : hI h 2 10 = u) {K : Int → XH → Prop} {E : Nat → XH → Prop} (k0 : ¬ (0 ≤ p0 ∧ p0 ≤ 7) → E 1 (nT h)) (k : 0 ≤ p0 ∧ p0 ≤ 7 → ∀ g, HT g → CSt h g N nd → K (cntV N nd u p0) g) : w_X12_count p0 K E h := by
  unfold w_X12_count
  have r3 := rh_lt W
  have a := R8 (C.2.2.1 (rh N) r3)
  have st := CSt_rf h N nd
  refine ⟨fun c1 => ?_, fun c1 => ?_, fun c1 => ?_, fun c1 => ?_, fun c1 => ?_, fun c1 => ?_, fun c1 => ?_, fun c1 => ?_, fun c1 => ?_⟩
  · exact k0 (by omega)
  · rw [(V80 C.1).1]
    have := k (by omega) h T st
    rw [show p0 = 0 by omega] at this
    exact this
  · rw [(V80 C.1).2]
    have := k (by omega) h T st
    rw [show p0 = 1 by omega] at this
    exact this
  · rw [C.2.2.2.2.1]
    have := k (by omega) h T st
    rw [show p0 = 2 by omega] at this
    exact this
  · refine c_atH C W ?_
    refine ⟨(rc_k T r3), ?_⟩
    refine c_X6_wishesLeft T C W dk r3 ?_
    intro _
    have := k (by omega) h T st
    rw [show p0 = 3 by omega] at this
    exact this
  · refine c_know2 T C W dk CC ?_
    intro h5 th5 s5 cc5 l5 m5 k5
    intro t5 u5
    rw [k5.1]
    have := k (by omega) h5 th5 s5
    rw [show p0 = 4 by omega] at this
    exact this
  · refine c_atH C W ?_
    refine ⟨(rc_k T r3), ?_⟩
    rw [a.2.2.2.2.2.2.2.1]
    have := k (by omega) h T st
    rw [show p0 = 5 by omega] at this
    exact this
  · rw [C.2.2.2.2.2.1]
    have := k (by omega) h T st
    rw [show p0 = 6 by omega] at this
    exact this
  · rw [u0]
    have := k (by omega) h T st
    rw [show p0 = 7 by omega] at this
    exact this
set_option maxHeartbeats 1000000 in
theorem c_L_count {p1 u : Int} {h : XH} {N : Nat → Int} {nd : Nat → ND} {m : Nat} (T : HT h) (C : CS h 8 N nd) (W : WF N m) (dk : DK nd m) (CC : CaC h N nd) (u0 : hI h 2 10 = u) {K : Int → XH → Prop} (k0 : ¬ (0 ≤ p1 ∧ p1 ≤ 7) → K 1 (nT h)) (k : 0 ≤ p1 ∧ p1 ≤ 7 → ∀ g g6, HT g → CSt h g N nd → g6 = sL g 467 0 (i2l (cntV N nd u p1)) → K 0 g6) : w_L_count p1 K h := by
  unfold w_L_count
  refine c_X12_count T C W dk CC u0 (fun q => ⟨rfl, k0 q⟩) (fun q g tg s => ?_)
  intro _ _ _
  intro h5 eh5 t5 u5
  exact k q g _ tg s eh5
set_option maxHeartbeats 1000000 in
theorem c_X14_count {p0 u : Int} {h : XH} {N : Nat → Int} {m : Nat} (T : HT h) (eN : N = nw h) (W : WF N m) {nd : Nat → ND} (P8 : P8N N) (CR : CaR h N nd) (Z : NTm h nd m) (fi : fOK N (inst N (rh N))) (TL : (told N nd).length ≤ 3712) (u0 : hI h 437 2 = u) {K : Int → XH → Prop} (k0 : ¬ (0 ≤ p0 ∧ p0 ≤ 7) → ∀ h1 h2, HT h1 → h1 = sI h 437 5 0 → h2 = sI h1 437 5 1 → K 0 h2) (k : 0 ≤ p0 ∧ p0 ≤ 7 → ∀ h1 h2, HT h1 → h1 = sI h 437 5 0 → RSP h1 h2 nd 25 (n12 + 12 * nA8) → K (cntV N nd u p0) h2) : w_X14_count p0 K h := by
  unfold w_X14_count
  intro h1 eh1 t1 u1
  have eN1 : N = nw h1 := eN.trans (nw_fr (by rw [eh1]; exact sameC_sV (by decide))).symm
  have CR1 : CaR h1 N nd := by rw [eh1]; exact CaR_fr (fun b x _ => sameC_sV (by omega)) (fun j hj => el_ni (by omega)) (HT_len T) CR
  have rf : RSP h1 h1 nd 25 (n12 + 12 * nA8) := RSP_mono (RSP_rf h1 nd) (by omega) (by omega)
  refine c_X14_within ?_
  intro x2 qx2
  intro rx2 vx2
  refine c_X14_refused qx2 ?_
  intro x3 h4 qx3
  intro t4 u4
  intro rx3 vx3
  refine ⟨fun c9 => ?_, fun c9 => ?_⟩
  · obtain ⟨b_, e_⟩ : (0 ≤ p0 ∧ p0 ≤ 7) ∧ h4 = h1 := by
      rcases qx3 with ⟨_, y, z⟩ | ⟨y, _⟩
      · exact ⟨y, z⟩
      · omega
    subst e_
    refine ⟨fun c5 => ?_, fun c5 => ?_, fun c5 => ?_, fun c5 => ?_, fun c5 => ?_, fun c5 => ?_, fun c5 => ?_, fun c5 => ?_⟩
    · rw [show hI h4 437 2 = u by rw [eh1, hI_ni (by decide)]; exact u0]
      have := k b_ _ _ t4 eh1 rf
      rw [show p0 = 7 by omega] at this
      exact this
    · rw [show hI h4 438 0 = N 0 by rw [eN1]; rfl]
      have := k b_ _ _ t4 eh1 rf
      rw [show p0 = 0 by omega] at this
      exact this
    · rw [show hI h4 438 4 = N 4 by rw [eN1]; rfl]
      have := k b_ _ _ t4 eh1 rf
      rw [show p0 = 1 by omega] at this
      exact this
    · rw [show hI h4 438 3 = N 3 by rw [eN1]; rfl]
      have := k b_ _ _ t4 eh1 rf
      rw [show p0 = 2 by omega] at this
      exact this
    · refine c_X14_wishesLeft t4 eN1 W (NTm_5 T eh1 Z) ?_
      intro _
      have := k b_ _ _ t4 eh1 rf
      rw [show p0 = 3 by omega] at this
      exact this
    · refine c_X14_tellClauses t4 eN1 W P8 CR1.2.1.1 CR1.2.1.2 (B45_of t4 CR1) CR1.2.2.1 CR1.2.2.2.1 (NTm_5 T eh1 Z) fi TL ?_
      intro h7 th7 r7 _ _ _ k7 _
      intro t7 u7
      rw [k7.1]
      have := k b_ _ _ t4 eh1 r7
      rw [show p0 = 4 by omega] at this
      exact this
    · refine c_X14_rootAt (by decide) (hr_ eN1 W) (rh_lt W) ?_
      intro x8 qx8
      rw [← eN1, show (47 : Int).toNat = 47 from rfl] at qx8
      intro rx8
      rw [qx8]
      have := k b_ _ _ t4 eh1 rf
      rw [show p0 = 5 by omega] at this
      exact this
    · rw [show hI h4 438 2 = N 2 by rw [eN1]; rfl]
      have := k b_ _ _ t4 eh1 rf
      rw [show p0 = 6 by omega] at this
      exact this
  · have q_ : ¬ (0 ≤ p0 ∧ p0 ≤ 7) ∧ h4 = sI h1 437 5 1 := by
      rcases qx3 with ⟨y, _⟩ | ⟨_, y, z⟩
      · omega
      · exact ⟨y, z⟩
    exact k0 q_.1 _ _ t1 eh1 q_.2
/-! calls that ask, where rows may grow -/
def AskP (h g : XH) (nd : Nat → ND) (o u : Int) (c n s : Nat) : Prop := Inv g nd o u c ∧ nw g = nw h ∧ GrP n s h g
theorem RSP_Inv {h h1 : XH} {nd : Nat → ND} {o u : Int} {c n s : Nat} (T : HT h) (R : Inv h nd o u c) (r : RSP h h1 nd n s) : Inv h1 nd o u c := by
  obtain ⟨R1, R2, R3, R4⟩ := R
  obtain ⟨r1, r2, r3, -, -, -⟩ := r
  have G : ∀ b, b < h.length → b < 468 → ¬ (b = 437 ∨ (442 ≤ b ∧ b < 467)) → sameC h h1 b := fun b hb x n => r2 b hb (fun y => by
    rcases y with y | y | ⟨y, -⟩
    · exact n (.inl y)
    · exact n (.inr y)
    · omega)
  have L := HT_len T
  have st := R4.2.1.1
  have X := RSt_X T st r2
  have en : nw h1 = nw h := nw_fr (G 438 (by omega) (by decide) (by decide))
  have ep : ∀ k, pst h1 k = pst h k := fun k => pst_fr (G 439 (by omega) (by decide) (by decide)) k
  have e7 : hI h1 437 7 = hI h 437 7 := congrArg gvI (r3 7 (by omega))
  obtain ⟨b1, b2, b3, b4, b5⟩ := R2
  obtain ⟨C, W, Nt, P, B, Tp⟩ := R1
  refine ⟨?_, ?_, ?_, by rw [en]; exact r1 R4⟩
  · unfold Core
    rw [en, e7]
    refine ⟨CS_fr (fun j hj => G (8 + j) (by omega) (by omega) (by omega)) X (WF_b W) C, W, RSt_NT T st R4.2.1.2 r2 (congrArg gvR (r3 6 (by omega))) e7 Nt, ?_, by rw [sameC_I (G 43 (by omega) (by omega) (by omega))]; exact B, TP_fr (G 3 (by omega) (by decide) (by decide)) (G 4 (by omega) (by decide) (by decide)) (G 441 (by omega) (by decide) (by decide)) (congrArg gvI (r3 9 (by decide))) (congrArg gvI (r3 10 (by decide))) Tp⟩
    obtain ⟨p0, p1, p2, p3, p4, p5⟩ := P
    have s2 := G 2 (by omega) (by decide) (by decide)
    refine ⟨p0, (sameC_I s2 9).trans p1, (sameC_I s2 10).trans p2, (congrArg gvI (r3 2 (by omega))).trans p3, (congrArg gvI (r3 3 (by omega))).trans p4, fun k hk => ?_⟩
    obtain ⟨y1, y2⟩ := p5 k hk
    have B2 := bs_lt (k := ((o + k) % 10).toNat) (by omega)
    rw [ep]
    exact ⟨CS_fr (fun j hj => G _ (by omega) (by omega) (by omega)) X (WF_b y2) y1, y2⟩
  · have i4 : hI h1 437 4 = hI h 437 4 := congrArg gvI (r3 4 (by omega))
    unfold Bd
    rw [i4, e7, en]
    exact ⟨b1, b2, b3, b4, fun k hk => by rw [ep]; exact b5 k hk⟩
  · rw [en]
    exact CaC_fr (fun b x y => G b (by omega) (by omega) (by omega)) (sameC_el (G 2 (by omega) (by decide) (by decide)) 11) R3
theorem cp_s {h g : XH} (St : StR h) (u : HX h g) (e : ∀ j, j = 24 ∨ j = 52 → el g 437 j = el h 437 j) : cp g = cp h ∧ cq g = cq h := by
  unfold cp cq
  rw [show hR g 437 24 = hR h 437 24 from congrArg gvR (e 24 (.inl rfl)), show hR g 437 52 = hR h 437 52 from congrArg gvR (e 52 (.inr rfl))]
  exact ⟨HX_hn u (own_j St (j := 24) (by unfold owP; omega)).2.1, HX_hn u (own_j St (j := 52) (by unfold owP; omega)).2.1⟩
theorem cp_5 (h : XH) (x : Int) : cp (sI h 437 5 x) = cp h ∧ cq (sI h 437 5 x) = cq h := by
  unfold cp cq
  rw [hR_ni (by decide), hR_ni (by decide), hn_sV, hn_sV]
  exact ⟨rfl, rfl⟩
theorem AskP_5 {h g1 g2 : XH} {nd : Nat → ND} {o u n : Int} {c : Nat} (T : HT h) (R : Inv h nd o u c) (T1 : HT g1) (rn : rg n) (e1 : g1 = sI h 437 5 0) (e2 : g2 = sI g1 437 5 n) (n2 s2 : Nat) : AskP h g2 nd o u c n2 s2 ∧ hI g2 437 5 = n := by
  obtain ⟨⟨a, b, d⟩, e⟩ := Ask_5 T R T1 rn e1 e2
  have c1 := cp_5 h 0
  have c2 := cp_5 g1 n
  rw [← e1] at c1
  rw [← e2] at c2
  exact ⟨⟨a, b, GrP_mono (GrP_of d (c2.1.trans c1.1) (c2.2.trans c1.2)) (Nat.zero_le _) (Nat.zero_le _)⟩, e⟩
theorem AskP_r {h g1 g2 : XH} {nd : Nat → ND} {o u : Int} {c n s : Nat} (T : HT h) (R : Inv h nd o u c) (T1 : HT g1) (e1 : g1 = sI h 437 5 0) (r : RSP g1 g2 nd n s) : AskP h g2 nd o u c n s ∧ hI g2 437 5 = 0 ∧ hL g2 467 0 = hL h 467 0 := by
  have L := HT_len T
  have R1 : Inv g1 nd o u c := by rw [e1]; exact Inv_5 T R
  have n1 : nw g1 = nw h := by rw [e1]; exact nw_fr (sameC_sV (by decide))
  have l1 : g1.length = h.length := by rw [e1, len_sV]
  have x1 : xhs g1 = xhs h := by rw [e1, xhs_sV]
  have g := r.2.2.2.1
  have c1 := cp_5 h 0
  rw [← e1] at c1
  refine ⟨⟨RSP_Inv T1 R1 r, (RSP_nw T1 r).trans n1, by unfold GrP at g ⊢; omega⟩, ?_, ?_⟩
  · rw [show hI g2 437 5 = hI g1 437 5 from congrArg gvI (r.2.2.1 5 (by decide))]
    exact h5_0 T (rgk rfl) e1
  · rw [sameC_L (r.2.1 467 (by omega) (fun y => by
      rcases y with y | y | ⟨y, -⟩ <;> omega)), e1, hL_ne (by decide)]
theorem AskP_rn {h g1 g2 g3 : XH} {nd : Nat → ND} {o u x : Int} {c n s : Nat} (T : HT h) (R : Inv h nd o u c) (T1 : HT g1) (e1 : g1 = sI h 437 5 0) (r : RSP g1 g2 nd n s) (T2 : HT g2) (rx : rg x) (e3 : g3 = sI g2 437 5 x) : AskP h g3 nd o u c n s ∧ hI g3 437 5 = x := by
  obtain ⟨⟨a1, a2, a3⟩, -, -⟩ := AskP_r T R T1 e1 r
  have c2 := cp_5 g2 x
  refine ⟨⟨by rw [e3]; exact Inv_5 T2 a1, ?_, ?_⟩, h5_0 T2 rx e3⟩
  · rw [e3]; exact (nw_fr (sameC_sV (by decide))).trans a2
  · unfold GrP at a3 ⊢
    rw [e3, len_sV, xhs_sV, c2.1, c2.2]
    exact a3
theorem mkAz {h : XH} {nd : Nat → ND} {o u e x : Int} {c : Nat} {wL : (Int → XH → Prop) → Prop} (T : HT h) (R : Inv h nd o u c) (a : ∀ Q : Int → XH → Prop, (¬ e = 0 → ∀ g, HT g → CSt h g (nw h) nd → Q e (nT g)) → (e = 0 → ∀ g g6, HT g → CSt h g (nw h) nd → g6 = sL g 467 0 (i2l x) → Q 0 g6) → wL Q) :
    ∀ Q : Int → XH → Prop, (∀ g, Ask h g nd o u c 1 (xcs none) → sameC h g 437 → (e = 0 → hL g 467 0 = i2l x) → Q e g) → wL Q := by
  intro Q q
  have L := HT_len T
  refine a Q (fun ne g Tg s => ?_) (fun ez g g6 Tg s e6 => ?_)
  · have A := Ask_c T R s
    have B := Ask_tr A (Ask_nT Tg A.1)
    rw [Nat.zero_add, Nat.zero_add] at B
    exact q _ B (sameC_tr (s.2.1 437 (by omega) (by decide)) (nT_s g (by have := HT_len Tg; omega))) (fun z => (ne z).elim)
  · have A := Ask_c T R s
    obtain ⟨z1, z2⟩ := Ask_6 Tg A.1 e6
    have B := Ask_tr A z1
    have := q g6 ⟨B.1, B.2.1, Gr_mono B.2.2 (by omega) (by omega)⟩ (sameC_tr (s.2.1 437 (by omega) (by decide)) (by rw [e6]; exact sameC_sV (by decide))) (fun _ => z2)
    rw [ez] at this
    exact this
theorem mkBz {g : XH} {nd : Nat → ND} {o u e x : Int} {c n2 s2 : Nat} {wR : (Int → XH → Prop) → Prop} (T : HT g) (R : Inv g nd o u c) (re : rg e) (b : ∀ Q : Int → XH → Prop, (¬ e = 0 → ∀ g1 g2 g3, HT g1 → g1 = sI g 437 5 0 → RSP g1 g2 nd n2 s2 → HT g2 → g3 = sI g2 437 5 e → Q 0 g3) → (e = 0 → ∀ g1 g2, HT g1 → g1 = sI g 437 5 0 → RSP g1 g2 nd n2 s2 → Q x g2) → wR Q) :
    ∀ Q : Int → XH → Prop, (∀ g2 y, AskP g g2 nd o u c n2 s2 → hI g2 437 5 = e → (e = 0 → y = x ∧ hL g2 467 0 = hL g 467 0) → Q y g2) → wR Q := by
  intro Q q
  refine b Q (fun ne h1 h2 h3 t1 e1 r t2 e3 => ?_) (fun ez h1 h2 t1 e1 r => ?_)
  · obtain ⟨z1, z2⟩ := AskP_rn T R t1 e1 r t2 re e3
    exact q h3 0 z1 z2 (fun z => (ne z).elim)
  · obtain ⟨z1, z2, z3⟩ := AskP_r T R t1 e1 r
    exact q h2 x z1 (z2.trans ez.symm) (fun _ => ⟨rfl, z3⟩)
theorem daskZ {h : XH} {nd : Nat → ND} {o u e x : Int} {c n1 s1 n2 s2 : Nat} {wL : (Int → XH → Prop) → Prop} {wR : XH → (Int → XH → Prop) → Prop} (R : Inv h nd o u c)
    (A : ∀ Q : Int → XH → Prop, (∀ g, Ask h g nd o u c n1 s1 → sameC h g 437 → (e = 0 → hL g 467 0 = i2l x) → Q e g) → wL Q)
    (B : ∀ g, HT g → Inv g nd o u c → nw g = nw h → ∀ Q : Int → XH → Prop, (∀ g2 y, AskP g g2 nd o u c n2 s2 → hI g2 437 5 = e → (e = 0 → y = x ∧ hL g2 467 0 = hL g 467 0) → Q y g2) → wR g Q)
    {K : Int → XH → Prop} {J : XH → Prop} (k : ∀ h' o' u', HT h' → Inv h' nd o' u' (c + 1) → GrP (n1 + n2) (s1 + s2) h h' → J h') : wL (LDw h wR K J) := by
  refine A _ (fun g a s ex => ?_)
  intro t1 u1 rx
  have cs := cp_s R.2.2.2.2.1.1 u1 (fun j _ => sameC_el s j)
  refine B g t1 a.1 a.2.1 _ (fun g2 y b h5 ey => ?_)
  intro t2 u2 ry
  exact fin_ h5 (fun z => by rw [(ey z).2, ex z, (ey z).1]) (k g2 o u t2 (Inv_mono (Nat.le_succ c) b.1) (GrP_tr (GrP_of a.2.2 cs.1 cs.2) b.2.2))
theorem daskZB {h : XH} {nd : Nat → ND} {o u e x : Int} {c n1 s1 n2 s2 : Nat} {wL : (Int → XH → Prop) → Prop} {wR : XH → (Int → XH → Prop) → Prop} (R : Inv h nd o u c)
    (A : ∀ Q : Int → XH → Prop, (∀ g, Ask h g nd o u c n1 s1 → sameC h g 437 → (e = 0 → hL g 467 0 = i2l x) → Q e g) → wL Q)
    (B : ∀ g, HT g → Inv g nd o u c → nw g = nw h → ∀ Q : Int → XH → Prop, (∀ g2 y, AskP g g2 nd o u c n2 s2 → hI g2 437 5 = e → (e = 0 → y = x ∧ hL g2 467 0 = hL g 467 0) → Q y g2) → wR g Q)
    {K : Int → XH → Prop} {J : XH → Prop} (k : ∀ h' o' u', HT h' → Inv h' nd o' u' (c + 1) → GrP (n1 + n2) (s1 + s2) h h' → J h') : wL (fun x h2 => HT h2 → HX h h2 → rg x → (wR h2 (fun y h3 => HT h3 → HX h2 h3 → rg y → (y = 0 ∨ y = 1) → (w_X14_thrown (fun z => rg z → (((z = x → (∃ J' : Prop, (J' → (J h3)) ∧ ((¬ x = 0 → J') ∧ (¬ (¬ x = 0) → (∃ JB : BitVec 64 → Prop, (∀ (b : BitVec 64), JB b → (((hL h3 467 0 = b → J') ∧ (¬ (hL h3 467 0 = b) → (K 0 h3))))) ∧ ((y = 0 → (JB (0#64))) ∧ (¬ (y = 0) → (JB (1#64))))))))) ∧ (¬ (z = x) → (K 0 h3))))) h3)))) := by
  refine A _ (fun g a s ex => ?_)
  intro t1 u1 rx
  have cs := cp_s R.2.2.2.2.1.1 u1 (fun j _ => sameC_el s j)
  refine B g t1 a.1 a.2.1 _ (fun g2 y b h5 ey => ?_)
  intro t2 u2 ry vy
  exact finB_ h5 (fun z => by rw [(ey z).2, ex z, (ey z).1]) vy (k g2 o u t2 (Inv_mono (Nat.le_succ c) b.1) (GrP_tr (GrP_of a.2.2 cs.1 cs.2) b.2.2))
theorem d_count {p0 : Int} {h : XH} {nd : Nat → ND} {o u : Int} {c : Nat} (T : HT h) (R : Inv h nd o u c) {K : Int → XH → Prop} {J : XH → Prop} (k : ∀ h' o' u', HT h' → Inv h' nd o' u' (c + 1) → GrP (1 + 25) (xcs none + (n12 + 12 * nA8)) h h' → J h') : w_L_count p0 (LDw h (fun g Q => w_X14_count p0 Q g) K J) h :=
  daskZ (e := if 0 ≤ p0 ∧ p0 ≤ 7 then 0 else 1) (x := cntV (nw h) nd u p0) (wL := fun Q => w_L_count p0 Q h) (wR := fun g Q => w_X14_count p0 Q g) R
    (mkAz T R (fun Q k0 k => c_L_count T R.1.1 R.1.2.1 (DK_of (NTm_of R.1)) R.2.2.1 R.1.2.2.2.1.2.2.1
      (fun q => by
        rw [if_neg q] at k0
        exact k0 (by decide) h T (CSt_rf _ _ _))
      (fun q g g6 tg s e6 => k (if_pos q) g g6 tg s e6)))
    (fun g Tg Rg eg => mkBz Tg Rg (by split <;> exact rgk rfl) (fun Q k0 k => c_X14_count Tg eg.symm (by have := Rg.1.2.1; rw [eg] at this; exact this) (P8_of R) (by have := Rg.2.2.2; rw [eg] at this; exact this) (NTm_of Rg.1) (CS_fi R.1.1 R.1.2.1) (told_le R.1.2.1 R.1.1.2.1) Rg.1.2.2.2.1.2.2.2.1
      (fun q h1 h2 t1 e1 e2 => by
        rw [if_neg q] at k0
        exact k0 (by decide) h1 h1 h2 t1 e1 (RSP_mono (RSP_rf h1 nd) (by omega) (by omega)) t1 e2)
      (fun q h1 h2 t1 e1 r => k (if_pos q) h1 h2 t1 e1 r))) k
