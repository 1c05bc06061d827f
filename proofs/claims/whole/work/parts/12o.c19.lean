/-! OFFER, FAILS, PROVIDE: which version; what changes of versions do -/
theorem slotF_r {N : Nat → Int} {p c : Int} (W : 0 ≤ N 4) : -1 ≤ slotF N p c ∧ slotF N p c < N 4 ∧ (¬ slotF N p c = -1 → nV N (slotF N p c).toNat 0 = p ∧ nV N (slotF N p c).toNat 1 = c) ∧ (slotF N p c = -1 → ∀ v, v < vc N → ¬ (nV N v 0 = p ∧ nV N v 1 = c)) := by
  unfold slotF
  rcases fnd_cs (fun v => decide (nV N v 0 = p) && decide (nV N v 1 = c)) (vc N) with ⟨e, a⟩ | ⟨i, e, hi, pi, -⟩
  · rw [e]
    refine ⟨by omega, by omega, fun n => absurd rfl n, fun _ v hv z => ?_⟩
    have := a v hv
    simp only [Bool.and_eq_false_iff, decide_eq_false_iff_not] at this
    exact this.elim (fun y => y z.1) (fun y => y z.2)
  · simp only [Bool.and_eq_true, decide_eq_true_eq] at pi
    unfold vc at hi
    rw [e]
    exact ⟨by omega, by omega, fun _ => pi, fun z => by omega⟩
set_option maxHeartbeats 1000000 in
theorem c_X12_checkedId {p0 p1 : Int} {h : XH} {N : Nat → Int} {nd : Nat → ND} {m : Nat} (T : HT h) (C : CS h 8 N nd) (W : WF N m) {K : Int → Prop} {E : Nat → XH → Prop} (k0 : ¬ ((0 ≤ p0 ∧ p0 < N 0) ∧ ¬ slotF N p0 p1 = -1) → E 2 (nT h)) (k : ((0 ≤ p0 ∧ p0 < N 0) ∧ ¬ slotF N p0 p1 = -1) → K (slotF N p0 p1)) : w_X12_checkedId p0 p1 K E h := by
  unfold w_X12_checkedId
  refine c_X12_checkPack (fun q => k0 (fun z => q (by rw [(V80 C.1).1]; exact z.1))) (fun q1 q2 => ?_)
  rw [(V80 C.1).1] at q2
  have b12 := W.1.2.1
  refine c_X8_idOf C.1 ⟨W.1.2.2.1, W.1.2.2.2.1⟩ ?_
  intro x1 qx1
  have e := slotF_is W.1 qx1
  intro rx1
  refine ⟨fun c2 => ?_, fun c2 => ?_⟩
  · rw [e]
    exact k ⟨⟨q1, q2⟩, by omega⟩
  · exact k0 (fun z => z.2 (by omega))
set_option maxHeartbeats 1000000 in
theorem c_X14_isVersion {p0 p1 : Int} {h : XH} {N : Nat → Int} {m : Nat} (T : HT h) (eN : N = nw h) (W : WF N m) {K : Int → Prop} (k : ∀ x, bq x ((0 ≤ p0 ∧ p0 < N 0) ∧ ¬ slotF N p0 p1 = -1) → K x) : w_X14_isVersion p0 p1 K h := by
  unfold w_X14_isVersion
  refine c_X14_isPack ?_ (by rw [show hI h 438 0 = N 0 by rw [eN]; rfl]; exact W.1.1)
  intro x1 qx1
  rw [show hI h 438 0 = N 0 by rw [eN]; rfl] at qx1
  intro rx1 vx1
  refine ⟨_, fun x2 rx2 z3 => z3, ?_⟩
  refine ⟨_, fun z5 => z5, ?_⟩
  refine ⟨fun c8 => ?_, fun c8 => ?_⟩
  · refine ⟨(by first | decide | omega | ((try simp (disch := omega) only [wr_of] at *); omega)), ?_⟩
    first
      | exact k _ (bqF (fun z => (bq1 qx1).2.1.mp c8 z.1))
      | exact k _ (bqF (fun z => z.2 (by omega)))
      | exact k _ (bqT ⟨(bq1 qx1).2.2.1.mp c8, by omega⟩)
  · refine c_X14_slotOf eN ⟨W.1.2.2.1, W.1.2.2.2.1⟩ ?_
    intro x6 qx6
    have e := slotF_is W.1 qx6
    intro rx6
    refine ⟨fun c7 => ?_, fun c7 => ?_⟩
    · refine ⟨(by first | decide | omega | ((try simp (disch := omega) only [wr_of] at *); omega)), ?_⟩
      first
        | exact k _ (bqF (fun z => (bq1 qx1).2.1.mp c8 z.1))
        | exact k _ (bqF (fun z => z.2 (by omega)))
        | exact k _ (bqT ⟨(bq1 qx1).2.2.1.mp c8, by omega⟩)
    · refine ⟨(by first | decide | omega | ((try simp (disch := omega) only [wr_of] at *); omega)), ?_⟩
      first
        | exact k _ (bqF (fun z => (bq1 qx1).2.1.mp c8 z.1))
        | exact k _ (bqF (fun z => z.2 (by omega)))
        | exact k _ (bqT ⟨(bq1 qx1).2.2.1.mp c8, by omega⟩)
/-- mirrors' offers -/
theorem WT_of {N : Nat → Int} {a v : Nat} {x : Int} (W : WT N) (ha : a < 3) (hv : v < 40) (hc : v < vc N) : WT (updN (updN N (1715 + 81 * a + 2 * v) 1) (1716 + 81 * a + 2 * v) x) := by
  obtain ⟨c1, c2, c3, c4, c5, c6, c7⟩ := W
  have en : ∀ j, ¬ j = 1715 + 81 * a + 2 * v → ¬ j = 1716 + 81 * a + 2 * v → updN (updN N (1715 + 81 * a + 2 * v) 1) (1716 + 81 * a + 2 * v) x j = N j := fun j n m => by rw [updN_ne m, updN_ne n]
  unfold WT
  rw [en 1 (by omega) (by omega), en 2 (by omega) (by omega), en 3 (by omega) (by omega), show vc (updN (updN N (1715 + 81 * a + 2 * v) 1) (1716 + 81 * a + 2 * v) x) = vc N by unfold vc; rw [en 4 (by omega) (by omega)]]
  refine ⟨c1, c2, c3, c4, c5, c6, fun m hm => ?_⟩
  obtain ⟨q1, q2, q3⟩ := c7 m hm
  rw [en _ (by omega) (by omega)]
  refine ⟨q1, q2, fun w hw => ?_⟩
  by_cases e : 1715 + 81 * m + 2 * w = 1715 + 81 * a + 2 * v
  · rw [e, updN_ne (by omega), updN_eq]
    exact ⟨.inr rfl, fun z => by have := (show w = v by omega); omega⟩
  · rw [en _ e (by omega)]
    exact q3 w hw
theorem CS_offer {h g1 g : XH} {N : Nat → Int} {nd : Nat → ND} {m a v : Nat} {x : Int} (T : HT h) (C : CS h 8 N nd) (W : WF N m) (ha : a < 3) (hv : v < vc N) (rx : rg x) (e1 : g1 = sL h 41 a (hL h 41 a ||| bit1 v)) (T1 : HT g1) (e : g = sI g1 42 (40 * a + v) x) : CS g 8 (updN (updN N (1715 + 81 * a + 2 * v) 1) (1716 + 81 * a + 2 * v) x) nd ∧ WF (updN (updN N (1715 + 81 * a + 2 * v) 1) (1716 + 81 * a + 2 * v) x) m := by
  have hW := WF_b W
  have hp := WV_hp W.1
  have v40 : v < 40 := by unfold vc at hv; omega
  have G : ∀ c, 8 ≤ c → c < 43 → ¬ c = 41 → ¬ c = 42 → sameC h g c := fun c _ _ n n2 => by rw [e, e1]; exact sameC_tr (sameC_sV (fun z => n z.symm)) (sameC_sV (fun z => n2 z.symm))
  have X : ∀ b, hk h b = 1 ∨ hk h b = 11 → sameC h g b := fun b hb => by
    have n : ¬ b < 468 := fun z => noTxt T z hb
    rw [e, e1]; exact sameC_tr (sameC_sV (by omega)) (sameC_sV (by omega))
  have en : ∀ j, ¬ j = 1715 + 81 * a + 2 * v → ¬ j = 1716 + 81 * a + 2 * v → updN (updN N (1715 + 81 * a + 2 * v) 1) (1716 + 81 * a + 2 * v) x j = N j := fun j n m => by rw [updN_ne m, updN_ne n]
  have E : VE N (updN (updN N (1715 + 81 * a + 2 * v) 1) (1716 + 81 * a + 2 * v) x) := fun i _ _ => en i (by omega) (by omega)
  have er : ∀ r, r < 3 → ∀ k, k < 291 → nR (updN (updN N (1715 + 81 * a + 2 * v) 1) (1716 + 81 * a + 2 * v) x) r k = nR N r k := fun r hr k hk => en _ (by omega) (by omega)
  refine ⟨⟨CSV_ve E hW.2.2.2 (CSV_cp (fun j i w x _ => sameC_el (G (8 + j) (by omega) (by omega) (by omega) (by omega)) i) X hW C.1), CSP_ve E hW.2.2.2 (CSP_cp (fun j i w x _ => sameC_el (G (8 + j) (by omega) (by omega) (by omega) (by omega)) i) hW C.2.1), fun q hq => CSR_ve E hW.2.2.2 hp (er q hq) (CSR_cp (fun j i w _ => sameC_el (G _ (by omega) (by omega) (by omega) (by omega)) i) X (C.2.2.1 q hq)), ?_⟩, WV_ve E W.1, fun r hr => WRt_ve E (er r hr) (W.2.1 r hr), WT_of W.2.2 ha v40 hv⟩
  obtain ⟨a1, a2, a3, a4, a5⟩ := C.2.2.2
  have s8 := G 8 (by decide) (by decide) (by decide) (by decide)
  refine ⟨by rw [sameC_I s8, en 1 (by omega) (by omega)]; exact a1, by rw [sameC_I s8, en 3 (by omega) (by omega)]; exact a2, by rw [sameC_I s8, en 2 (by omega) (by omega)]; exact a3, fun l hl => ?_, fun k hk => ?_⟩
  · rw [sameC_L (G 39 (by decide) (by decide) (by decide) (by decide))]
    exact SetR_ve E hW.2.2.2 (fun p hp => en _ (by omega) (by omega)) hp (a4 l hl)
  · obtain ⟨q1, q2, q3⟩ := a5 k hk
    refine ⟨?_, fun w hw => ?_, fun w hw y => ?_⟩
    · rw [sameC_I (G 40 (by decide) (by decide) (by decide) (by decide)), en _ (by omega) (by omega)]; exact q1
    · have l41 : hL g 41 k = if k = a then hL h 41 a ||| bit1 v else hL h 41 k := by
        rw [e, hL_ne (by decide), e1]
        by_cases c : k = a
        · rw [if_pos c, c]; exact hL_eq (by rw [lyn (c := 101) (n := 3) T rfl]; omega)
        · rw [if_neg c, hL_ni (fun z => c z.symm)]
      show (hL g 41 k).getLsbD w = true ↔ _
      rw [l41]
      by_cases c : k = a
      · rw [if_pos c, BitVec.getLsbD_or, bit1_at (by omega)]
        subst c
        by_cases d : w = v
        · subst d
          rw [dt rfl, Bool.or_true, updN_ne (by omega), updN_eq]
          exact ⟨fun _ => ⟨v40, rfl⟩, fun _ => rfl⟩
        · rw [df d, Bool.or_false, en _ (by omega) (by omega)]
          exact q2 w hw
      · rw [if_neg c]
        by_cases d : 1715 + 81 * k + 2 * w = 1715 + 81 * a + 2 * v ∨ 1715 + 81 * k + 2 * w = 1716 + 81 * a + 2 * v
        · refine ⟨fun z => ?_, fun z => by omega⟩
          have := ((q2 w hw).mp z).1
          omega
        · rw [en _ (by omega) (by omega)]
          exact q2 w hw
    · show hI g 42 (40 * k + w) = _
      rw [e]
      by_cases c : k = a ∧ w = v
      · rw [c.1, c.2, updN_eq]
        exact hI_eq (by rw [lyn (c := 100) (n := 120) T1 rfl]; omega) rx
      · rw [en _ (by omega) (by omega)] at y
        rw [hI_ni (by omega), e1, hI_ne (by decide), en _ (by omega) (by omega)]
        exact q3 w hw y
set_option maxHeartbeats 1000000 in
theorem c_X12_offer {p0 p1 p2 p3 : Int} {h : XH} {N : Nat → Int} {nd : Nat → ND} {m : Nat} {o u : Int} (T : HT h) (C : CS h 8 N nd) (W : WF N m) (B0 : 0 ≤ o ∧ o < 10 ∧ 0 ≤ u ∧ u ≤ 10) (Bo : hI h 2 9 = o) (Bu : hI h 2 10 = u) (Bs : hI h 43 2 = 10) (r3 : rg p3) {K : Int → XH → Prop} {E : Nat → XH → Prop} (k0 : ¬ ((0 ≤ p0 ∧ p0 < N 3) ∧ (0 ≤ p1 ∧ p1 < N 0) ∧ ¬ slotF N p1 p2 = -1) → E 2 (nT h)) (k : ((0 ≤ p0 ∧ p0 < N 3) ∧ (0 ≤ p1 ∧ p1 < N 0) ∧ ¬ slotF N p1 p2 = -1) → ∀ h2 h4, Rmb o u h h2 → HT h2 → Fr (fun b => b = 41 ∨ b = 42) h2 h4 → h4.length = h2.length → xhs h4 = xhs h2 → CS h4 8 (updN (updN N (1715 + 81 * p0.toNat + 2 * (slotF N p1 p2).toNat) 1) (1716 + 81 * p0.toNat + 2 * (slotF N p1 p2).toNat) p3) nd → K ((cntN 40 (fun w => decide ((updN (updN N (1715 + 81 * p0.toNat + 2 * (slotF N p1 p2).toNat) 1) (1716 + 81 * p0.toNat + 2 * (slotF N p1 p2).toNat) p3) (1715 + 81 * p0.toNat + 2 * w) = 1)) : Nat)) h4) : w_X12_offer p0 p1 p2 p3 K E h := by
  unfold w_X12_offer
  refine c_X12_checkMirror (fun q => k0 (fun z => q (by rw [C.2.2.2.2.1]; exact z.1))) (fun q => ?_)
  rw [C.2.2.2.2.1] at q
  have w3 := W.2.2.2.2.2.2.2.1
  refine c_X12_checkedId T C W (fun y => k0 (fun z => y z.2)) (fun y => ?_)
  intro _
  have sr := slotF_r (N := N) (p := p1) (c := p2) W.1.2.2.1
  have w4 := W.1.2.2.2.1
  refine c_X12_remember B0 T Bo Bu Bs ?_
  intro h2 qh2
  intro t2 u2
  have C2' := Rmb_CS T qh2 B0 W C
  unfold w_X11_setOffer
  refine ⟨by omega, ?_⟩
  intro g1 eg1 tg1 ug1
  have es : wr (wr (p0 * 40) + slotF N p1 p2) = 40 * p0 + slotF N p1 p2 := by rw [wr_of (x := p0 * 40) (by omega) (by omega), wr_of (by omega) (by omega)]; omega
  rw [es]
  refine ⟨by omega, ?_⟩
  intro g2 eg2 tg2 ug2
  rw [show slotF N p1 p2 = ((slotF N p1 p2).toNat : Int) by omega, lshl1 (by omega)] at eg1
  rw [show (40 * p0 + slotF N p1 p2).toNat = 40 * p0.toNat + (slotF N p1 p2).toNat by omega] at eg2
  obtain ⟨c1, c2⟩ := CS_offer (g := g2) t2 C2' W (a := p0.toNat) (v := (slotF N p1 p2).toNat) (by omega) (by unfold vc; omega) r3 eg1 tg1 eg2
  refine c_J13_bitCount_95d88 ?_
  rw [show popc (hL g2 41 p0.toNat) = cntN 40 (fun w => decide ((updN (updN N (1715 + 81 * p0.toNat + 2 * (slotF N p1 p2).toNat) 1) (1716 + 81 * p0.toNat + 2 * (slotF N p1 p2).toNat) p3) (1715 + 81 * p0.toNat + 2 * w) = 1)) from by
    have q := (c1.2.2.2.2.2.2.2 p0.toNat (by omega)).2.1
    unfold popc
    rw [cntN_ex (n := 40) _ 64 (by decide) (fun i x y => bt (fun z => by have := ((q i y).mp z).1; omega))]
    refine cntN_cg _ (fun i hi => ?_)
    have := q i (by omega)
    by_cases z : (hL g2 41 p0.toNat).getLsbD i = true
    · rw [z, dt (this.mp z).2]
    · rw [bt z, df (fun y => z (this.mpr ⟨hi, y⟩))]]
  intro _
  intro _ _ _
  exact k ⟨q, y⟩ _ _ qh2 t2 (by rw [eg2, eg1]; exact Fr_tr (Fr_sV (.inl rfl)) (by rw [len_sV]; omega) (Fr_sV (.inr rfl))) (by rw [eg2, eg1, len_sV, len_sV]) (by rw [eg2, eg1, xhs_sV, xhs_sV]) c1
set_option maxHeartbeats 1000000 in
theorem c_L_offer {p0 p1 p2 p3 : Int} {h : XH} {N : Nat → Int} {nd : Nat → ND} {m : Nat} {o u : Int} (T : HT h) (C : CS h 8 N nd) (W : WF N m) (B0 : 0 ≤ o ∧ o < 10 ∧ 0 ≤ u ∧ u ≤ 10) (Bo : hI h 2 9 = o) (Bu : hI h 2 10 = u) (Bs : hI h 43 2 = 10) (r3 : rg p3) {K : Int → XH → Prop} (k0 : ¬ ((0 ≤ p0 ∧ p0 < N 3) ∧ (0 ≤ p1 ∧ p1 < N 0) ∧ ¬ slotF N p1 p2 = -1) → K 1 (nT h)) (k : ((0 ≤ p0 ∧ p0 < N 3) ∧ (0 ≤ p1 ∧ p1 < N 0) ∧ ¬ slotF N p1 p2 = -1) → ∀ h2 h4 h5, Rmb o u h h2 → HT h2 → Fr (fun b => b = 41 ∨ b = 42) h2 h4 → h4.length = h2.length → xhs h4 = xhs h2 → HT h4 → CS h4 8 (updN (updN N (1715 + 81 * p0.toNat + 2 * (slotF N p1 p2).toNat) 1) (1716 + 81 * p0.toNat + 2 * (slotF N p1 p2).toNat) p3) nd → h5 = sL h4 467 0 (i2l ((cntN 40 (fun w => decide ((updN (updN N (1715 + 81 * p0.toNat + 2 * (slotF N p1 p2).toNat) 1) (1716 + 81 * p0.toNat + 2 * (slotF N p1 p2).toNat) p3) (1715 + 81 * p0.toNat + 2 * w) = 1)) : Nat))) → K 0 h5) : w_L_offer p0 p1 p2 p3 K h := by
  unfold w_L_offer
  refine c_X12_offer T C W B0 Bo Bu Bs r3 (fun q => ⟨rfl, k0 q⟩) (fun q g2 g4 r t f l x c => ?_)
  intro tx ux _
  intro h5 eh5 t5 u5
  exact k q _ _ _ r t f l x tx c eh5
