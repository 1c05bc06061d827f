/-! PROVIDE: class, reference, both -/
set_option maxHeartbeats 1000000 in
theorem c_X12_provide {p0 p1 p2 p3 : Int} {h : XH} {N : Nat → Int} {nd : Nat → ND} {m : Nat} {o u : Int} (T : HT h) (C : CS h 8 N nd) (W : WF N m) (B0 : 0 ≤ o ∧ o < 10 ∧ 0 ≤ u ∧ u ≤ 10) (Bo : hI h 2 9 = o) (Bu : hI h 2 10 = u) (Bs : hI h 43 2 = 10) (r3 : rg p3) {K : Int → XH → Prop} {E : Nat → XH → Prop} (k0 : ¬ (((0 ≤ p0 ∧ p0 < N 0) ∧ ¬ slotF N p0 p1 = -1) ∧ (0 ≤ p2 ∧ p2 < N 0)) → E 2 (nT h)) (k1 : (((0 ≤ p0 ∧ p0 < N 0) ∧ ¬ slotF N p0 p1 = -1) ∧ (0 ≤ p2 ∧ p2 < N 0)) → ¬ (¬ p2 = p0 ∧ (0 ≤ p3 ∧ p3 < 1000000 ∧ ¬ p3 % 100 = 0)) → E 1 (nT h)) (k2 : (((0 ≤ p0 ∧ p0 < N 0) ∧ ¬ slotF N p0 p1 = -1) ∧ (0 ≤ p2 ∧ p2 < N 0)) → (¬ p2 = p0 ∧ (0 ≤ p3 ∧ p3 < 1000000 ∧ ¬ p3 % 100 = 0)) → ¬ (nV N (slotF N p0 p1).toNat 15 < 2 ∧ ¬ inUse N (slotF N p0 p1).toNat) → E 0 (nT h)) (k : (((0 ≤ p0 ∧ p0 < N 0) ∧ ¬ slotF N p0 p1 = -1) ∧ (0 ≤ p2 ∧ p2 < N 0)) → (¬ p2 = p0 ∧ (0 ≤ p3 ∧ p3 < 1000000 ∧ ¬ p3 % 100 = 0)) → (nV N (slotF N p0 p1).toNat 15 < 2 ∧ ¬ inUse N (slotF N p0 p1).toNat) → ∀ h2 h4, Rmb o u h h2 → HT h2 → Fr (fun b => b = 23 ∨ b = 24 ∨ b = 25) h2 h4 → h4.length = h2.length → xhs h4 = xhs h2 → CS h4 8 (updN (updN (updN N (5 + 20 * (slotF N p0 p1).toNat + (16 + 2 * (nV N (slotF N p0 p1).toNat 15).toNat)) p2) (5 + 20 * (slotF N p0 p1).toNat + (17 + 2 * (nV N (slotF N p0 p1).toNat 15).toNat)) p3) (5 + 20 * (slotF N p0 p1).toNat + 15) (nV N (slotF N p0 p1).toNat 15 + 1)) nd → K (nV N (slotF N p0 p1).toNat 15 + 1) h4) : w_X12_provide p0 p1 p2 p3 K E h := by
  unfold w_X12_provide
  refine c_X12_checkedId T C W (fun y => k0 (fun z => y z.1)) (fun q => ?_)
  intro _
  have sv := slot_v W.1 q.2
  have sr := slotF_r (N := N) (p := p0) (c := p1) W.1.2.2.1
  have a15 := (CSV_1 C.1 sv.1).2.2.2.2.2.2.2.2.2.2.2.1
  have wv := W.1.2.2.2.2.1 _ sv.1
  refine c_X12_checkPack (fun y => k0 (fun z => y (by rw [(V80 C.1).1]; exact z.2))) (fun q1 q2 => ?_)
  rw [(V80 C.1).1] at q2
  refine ⟨¬ (¬ p2 = p0 ∧ (0 ≤ p3 ∧ p3 < 1000000 ∧ ¬ p3 % 100 = 0)), ?_, ?_⟩
  · intro z2
    exact k1 ⟨q, q1, q2⟩ z2
  · refine ⟨fun c13 => ?_, fun c13 => ?_⟩
    · first
        | exact fun z => z.1 c13
        | exact fun z => (bq1 qx3).2.1.mp (by omega) z.2
        | exact fun z => z.2 ((bq1 qx6).2.2.1.mp c10)
        | exact fun z => by have : hI h 23 (slotF N p0 p1).toNat = nV N (slotF N p0 p1).toNat 15 := a15; have := z.1; omega
    · refine c_X12_isCode r3 ?_
      intro x3 qx3
      intro rx3 vx3
      refine ⟨fun c12 => ?_, fun c12 => ?_⟩
      · refine ⟨(by omega), ?_⟩
        refine ⟨¬ (nV N (slotF N p0 p1).toNat 15 < 2 ∧ ¬ inUse N (slotF N p0 p1).toNat), ?_, ?_⟩
        · intro z5
          exact k2 ⟨q, q1, q2⟩ ⟨c13, (bq1 qx3).2.2.1.mp c12⟩ z5
        · refine ⟨fun c11 => ?_, fun c11 => ?_⟩
          · first
              | exact fun z => z.1 c13
              | exact fun z => (bq1 qx3).2.1.mp (by omega) z.2
              | exact fun z => z.2 ((bq1 qx6).2.2.1.mp c10)
              | exact fun z => by have : hI h 23 (slotF N p0 p1).toNat = nV N (slotF N p0 p1).toNat 15 := a15; have := z.1; omega
          · refine c_inUse T C W (by omega) sv.1 ?_
            intro x6 qx6
            intro rx6 vx6
            refine ⟨fun c10 => ?_, fun c10 => ?_⟩
            · refine c_X12_remember B0 T Bo Bu Bs ?_
              intro h7 qh7
              intro t7 u7
              have C7 := Rmb_CS T qh7 B0 W C
              have b15 := (CSV_1 C7.1 sv.1).2.2.2.2.2.2.2.2.2.2.2.1
              unfold w_X8_addGiven
              refine ⟨by omega, ?_⟩
              intro x2 ex2 rx2
              have c15 : nV N (slotF N p0 p1).toNat 15 < 2 := by
                have : hI h 23 (slotF N p0 p1).toNat = nV N (slotF N p0 p1).toNat 15 := a15
                omega
              have d15 : hI h7 23 (slotF N p0 p1).toNat = nV N (slotF N p0 p1).toNat 15 := b15
              have e2 : x2.toNat = 2 * (slotF N p0 p1).toNat + (nV N (slotF N p0 p1).toNat 15).toNat := by
                rw [d15, wr_of (x := slotF N p0 p1 * 2) (by omega) (by omega), wr_of (by omega) (by omega)] at ex2
                omega
              refine ⟨by rw [d15, wr_of (x := slotF N p0 p1 * 2) (by omega) (by omega), wr_of (by omega) (by omega)] at ex2; omega, ?_⟩
              rw [e2]
              intro g1 eg1 tg1 ug1 g2 eg2 tg2 ug2 g3 eg3 tg3 ug3
              have d2 : hI g2 23 (slotF N p0 p1).toNat = nV N (slotF N p0 p1).toNat 15 := by rw [eg2, hI_ne (by decide), eg1, hI_ne (by decide)]; exact d15
              rw [d2, wr_of (by omega) (by omega)] at eg3
              have s0 := sr.2.2.1 q.2
              obtain ⟨c1, c2⟩ := CS_prov (g := g3) t7 C7 W sv.1 c15 ⟨q1, q2, by rw [s0.1]; exact c13⟩ (by have := (bq1 qx3).2.2.1.mp c12; omega) tg1 tg2 eg1 eg2 eg3
              have d3 : hI g3 23 (slotF N p0 p1).toNat = nV N (slotF N p0 p1).toNat 15 + 1 := by
                rw [eg3]
                exact hI_eq (by rw [lyn (c := 100) (n := 40) tg2 rfl]; omega) ⟨by omega, by omega⟩
              rw [d3]
              intro _ _ _
              exact k ⟨q, q1, q2⟩ ⟨c13, (bq1 qx3).2.2.1.mp c12⟩ ⟨c15, (bq1 qx6).2.1.mp c10⟩ _ _ qh7 t7 (by rw [eg3, eg2, eg1]; exact Fr_tr (Fr_tr (Fr_sV (.inr (.inl rfl))) (by rw [len_sV]; omega) (Fr_sV (.inr (.inr rfl)))) (by rw [len_sV, len_sV]; omega) (Fr_sV (.inl rfl))) (by rw [eg3, eg2, eg1, len_sV, len_sV, len_sV]) (by rw [eg3, eg2, eg1, xhs_sV, xhs_sV, xhs_sV]) c1
            · first
                | exact fun z => z.1 c13
                | exact fun z => (bq1 qx3).2.1.mp (by omega) z.2
                | exact fun z => z.2 ((bq1 qx6).2.2.1.mp c10)
                | exact fun z => by have : hI h 23 (slotF N p0 p1).toNat = nV N (slotF N p0 p1).toNat 15 := a15; have := z.1; omega
      · first
          | exact fun z => z.1 c13
          | exact fun z => (bq1 qx3).2.1.mp (by omega) z.2
          | exact fun z => z.2 ((bq1 qx6).2.2.1.mp c10)
          | exact fun z => by have : hI h 23 (slotF N p0 p1).toNat = nV N (slotF N p0 p1).toNat 15 := a15; have := z.1; omega
set_option maxHeartbeats 1000000 in
theorem c_L_provide {p0 p1 p2 p3 : Int} {h : XH} {N : Nat → Int} {nd : Nat → ND} {m : Nat} {o u : Int} (T : HT h) (C : CS h 8 N nd) (W : WF N m) (B0 : 0 ≤ o ∧ o < 10 ∧ 0 ≤ u ∧ u ≤ 10) (Bo : hI h 2 9 = o) (Bu : hI h 2 10 = u) (Bs : hI h 43 2 = 10) (r3 : rg p3) {K : Int → XH → Prop} (k0 : ¬ (((0 ≤ p0 ∧ p0 < N 0) ∧ ¬ slotF N p0 p1 = -1) ∧ (0 ≤ p2 ∧ p2 < N 0)) → K 1 (nT h)) (k1 : (((0 ≤ p0 ∧ p0 < N 0) ∧ ¬ slotF N p0 p1 = -1) ∧ (0 ≤ p2 ∧ p2 < N 0)) → ¬ (¬ p2 = p0 ∧ (0 ≤ p3 ∧ p3 < 1000000 ∧ ¬ p3 % 100 = 0)) → K 2 (nT h)) (k2 : (((0 ≤ p0 ∧ p0 < N 0) ∧ ¬ slotF N p0 p1 = -1) ∧ (0 ≤ p2 ∧ p2 < N 0)) → (¬ p2 = p0 ∧ (0 ≤ p3 ∧ p3 < 1000000 ∧ ¬ p3 % 100 = 0)) → ¬ (nV N (slotF N p0 p1).toNat 15 < 2 ∧ ¬ inUse N (slotF N p0 p1).toNat) → K 3 (nT h)) (k : (((0 ≤ p0 ∧ p0 < N 0) ∧ ¬ slotF N p0 p1 = -1) ∧ (0 ≤ p2 ∧ p2 < N 0)) → (¬ p2 = p0 ∧ (0 ≤ p3 ∧ p3 < 1000000 ∧ ¬ p3 % 100 = 0)) → (nV N (slotF N p0 p1).toNat 15 < 2 ∧ ¬ inUse N (slotF N p0 p1).toNat) → ∀ h2 h4 h5, Rmb o u h h2 → HT h2 → Fr (fun b => b = 23 ∨ b = 24 ∨ b = 25) h2 h4 → h4.length = h2.length → xhs h4 = xhs h2 → HT h4 → CS h4 8 (updN (updN (updN N (5 + 20 * (slotF N p0 p1).toNat + (16 + 2 * (nV N (slotF N p0 p1).toNat 15).toNat)) p2) (5 + 20 * (slotF N p0 p1).toNat + (17 + 2 * (nV N (slotF N p0 p1).toNat 15).toNat)) p3) (5 + 20 * (slotF N p0 p1).toNat + 15) (nV N (slotF N p0 p1).toNat 15 + 1)) nd → h5 = sL h4 467 0 (i2l (nV N (slotF N p0 p1).toNat 15 + 1)) → K 0 h5) : w_L_provide p0 p1 p2 p3 K h := by
  unfold w_L_provide
  refine c_X12_provide T C W B0 Bo Bu Bs r3 (fun q => .inl ⟨rfl, k0 q⟩) (fun q r => .inr (.inl ⟨rfl, k1 q r⟩)) (fun q r s => .inr (.inr ⟨rfl, k2 q r s⟩)) (fun q q2 q3 g2 g4 r t f l x c => ?_)
  intro tx ux _
  intro h5 eh5 t5 u5
  exact k q q2 q3 _ _ _ r t f l x tx c eh5
set_option maxHeartbeats 1000000 in
theorem c_X14_provide {p0 p1 p2 p3 : Int} {h : XH} {N : Nat → Int} {m : Nat} {q u : Int} (T : HT h) (eN : N = nw h) (W : WF N m) (B1 : 0 ≤ q ∧ q < 10 ∧ 0 ≤ u ∧ u ≤ 10) (Rq : hI h 437 3 = q) (Ru : hI h 437 2 = u) (I : ∀ r : Nat, r < 3 → fOK N (inst N r)) (r3 : rg p3) {K : Int → XH → Prop} (k0 : ¬ (((0 ≤ p0 ∧ p0 < N 0) ∧ ¬ slotF N p0 p1 = -1) ∧ (0 ≤ p2 ∧ p2 < N 0)) → ∀ h1 h2, HT h1 → h1 = sI h 437 5 0 → h2 = sI h1 437 5 1 → K 0 h2) (k1 : (((0 ≤ p0 ∧ p0 < N 0) ∧ ¬ slotF N p0 p1 = -1) ∧ (0 ≤ p2 ∧ p2 < N 0)) → ¬ (¬ p2 = p0 ∧ (0 ≤ p3 ∧ p3 < 1000000 ∧ ¬ p3 % 100 = 0)) → ∀ h1 h2, HT h1 → h1 = sI h 437 5 0 → h2 = sI h1 437 5 2 → K 0 h2) (k2 : (((0 ≤ p0 ∧ p0 < N 0) ∧ ¬ slotF N p0 p1 = -1) ∧ (0 ≤ p2 ∧ p2 < N 0)) → (¬ p2 = p0 ∧ (0 ≤ p3 ∧ p3 < 1000000 ∧ ¬ p3 % 100 = 0)) → ¬ (nV N (slotF N p0 p1).toNat 15 < 2 ∧ ¬ inUse N (slotF N p0 p1).toNat) → ∀ h1 h2, HT h1 → h1 = sI h 437 5 0 → h2 = sI h1 437 5 3 → K 0 h2) (k : (((0 ≤ p0 ∧ p0 < N 0) ∧ ¬ slotF N p0 p1 = -1) ∧ (0 ≤ p2 ∧ p2 < N 0)) → (¬ p2 = p0 ∧ (0 ≤ p3 ∧ p3 < 1000000 ∧ ¬ p3 % 100 = 0)) → (nV N (slotF N p0 p1).toNat 15 < 2 ∧ ¬ inUse N (slotF N p0 p1).toNat) → ∀ h1 h5 h7, HT h1 → h1 = sI h 437 5 0 → Rrec q u h1 h5 → HT h5 → Fr (fun b => b = 438) h5 h7 → Gr 0 (0) h5 h7 → nw h7 = updN (updN (updN N (5 + 20 * (slotF N p0 p1).toNat + (16 + 2 * (nV N (slotF N p0 p1).toNat 15).toNat)) p2) (5 + 20 * (slotF N p0 p1).toNat + (17 + 2 * (nV N (slotF N p0 p1).toNat 15).toNat)) p3) (5 + 20 * (slotF N p0 p1).toNat + 15) (nV N (slotF N p0 p1).toNat 15 + 1) → K (nV N (slotF N p0 p1).toNat 15 + 1) h7) : w_X14_provide p0 p1 p2 p3 K h := by
  unfold w_X14_provide
  intro h1 eh1 t1 u1
  have eN1 : N = nw h1 := eN.trans (nw_fr (by rw [eh1]; exact sameC_sV (by decide))).symm
  have Rq1 : hI h1 437 3 = q := by rw [eh1, hI_ni (by decide)]; exact Rq
  have Ru1 : hI h1 437 2 = u := by rw [eh1, hI_ni (by decide)]; exact Ru
  refine c_X14_isVersion t1 eN1 W ?_
  intro x2 qx2
  intro rx2 vx2
  refine ⟨fun x => bq x (((0 ≤ p0 ∧ p0 < N 0) ∧ ¬ slotF N p0 p1 = -1) ∧ (0 ≤ p2 ∧ p2 < N 0)), ?_, ?_⟩
  · intro x3 rx3 z4
    refine c_X14_refused z4 ?_
    intro x5 h6 qx5
    intro t6 u6
    intro rx5 vx5
    refine ⟨fun g => (¬ (((0 ≤ p0 ∧ p0 < N 0) ∧ ¬ slotF N p0 p1 = -1) ∧ (0 ≤ p2 ∧ p2 < N 0)) ∧ g = sI h1 437 5 1) ∨ (((0 ≤ p0 ∧ p0 < N 0) ∧ ¬ slotF N p0 p1 = -1) ∧ (0 ≤ p2 ∧ p2 < N 0)) ∧ ¬ (¬ p2 = p0 ∧ (0 ≤ p3 ∧ p3 < 1000000 ∧ ¬ p3 % 100 = 0)) ∧ g = sI h1 437 5 2, ?_, ?_⟩
    · intro h7 t7 s7 z8
      rcases z8 with ⟨y1, y2⟩ | ⟨y1, y2, y3⟩
      · exact k0 y1 _ _ t1 eh1 y2
      · exact k1 y1 y2 _ _ t1 eh1 y3
    · refine ⟨fun c34 => ?_, fun c34 => ?_⟩
      · have q_ : ¬ (((0 ≤ p0 ∧ p0 < N 0) ∧ ¬ slotF N p0 p1 = -1) ∧ (0 ≤ p2 ∧ p2 < N 0)) ∧ h6 = sI h1 437 5 1 := by
          rcases qx5 with ⟨y, _⟩ | ⟨_, y, z⟩
          · omega
          · exact ⟨y, z⟩
        exact .inl q_
      · obtain ⟨b_, e_⟩ : (((0 ≤ p0 ∧ p0 < N 0) ∧ ¬ slotF N p0 p1 = -1) ∧ (0 ≤ p2 ∧ p2 < N 0)) ∧ h6 = h1 := by
          rcases qx5 with ⟨_, y, z⟩ | ⟨y, _⟩
          · exact ⟨y, z⟩
          · omega
        subst e_
        have sv := slot_v W.1 b_.1.2
        have sr := slotF_r (N := N) (p := p0) (c := p1) W.1.2.2.1
        have wv := W.1.2.2.2.2.1 _ sv.1
        have w12 := W.1.2.1
        refine ⟨fun x => bq x (¬ p2 = p0 ∧ (0 ≤ p3 ∧ p3 < 1000000 ∧ ¬ p3 % 100 = 0)), ?_, ?_⟩
        · intro x9 rx9 z10
          refine c_X14_refused z10 ?_
          intro x11 h12 qx11
          intro t12 u12
          intro rx11 vx11
          refine ⟨fun c29 => ?_, fun c29 => ?_⟩
          · obtain ⟨b_2, e_2⟩ : (¬ p2 = p0 ∧ (0 ≤ p3 ∧ p3 < 1000000 ∧ ¬ p3 % 100 = 0)) ∧ h12 = h6 := by
              rcases qx11 with ⟨_, y, z⟩ | ⟨y, _⟩
              · exact ⟨y, z⟩
              · omega
            subst e_2
            refine c_X14_slotF eN1 W.1 ?_
            intro _
            refine c_X14_ver (by omega) ?_
            intro x14 ex14
            have e14 : x14 = nV N (slotF N p0 p1).toNat 15 := by rw [ex14, eN1]; rfl
            intro rx14
            refine ⟨fun x => bq x (nV N (slotF N p0 p1).toNat 15 < 2 ∧ ¬ inUse N (slotF N p0 p1).toNat), ?_, ?_⟩
            · intro x15 rx15 z16
              refine c_X14_refused z16 ?_
              intro x17 h18 qx17
              intro t18 u18
              intro rx17 vx17
              refine ⟨fun c24 => ?_, fun c24 => ?_⟩
              · obtain ⟨b_3, e_3⟩ : (nV N (slotF N p0 p1).toNat 15 < 2 ∧ ¬ inUse N (slotF N p0 p1).toNat) ∧ h18 = h12 := by
                  rcases qx17 with ⟨_, y, z⟩ | ⟨y, _⟩
                  · exact ⟨y, z⟩
                  · omega
                subst e_3
                refine c_X14_record B1 t18 Rq1 Ru1 ?_
                intro h19 qh19
                have eN19 : N = nw h19 := eN1.trans (nw_fr (qh19.1 438 (by have := HT_len t18; omega) (by decide))).symm
                intro t19 u19
                refine c_X14_ver (by omega) ?_
                intro x20 ex20
                have e20 : x20 = nV N (slotF N p0 p1).toNat 15 := by rw [ex20, eN19]; rfl
                rw [e20, wr_of (x := 2 * nV N (slotF N p0 p1).toNat 15) (by omega) (by omega), wr_of (x := 16 + 2 * nV N (slotF N p0 p1).toNat 15) (by omega) (by omega), wr_of (x := 16 + 2 * nV N (slotF N p0 p1).toNat 15 + 1) (by omega) (by omega), wr_of (x := nV N (slotF N p0 p1).toNat 15 + 1) (by omega) (by omega)]
                intro rx20
                refine c_X14_put (by omega) ?_
                intro h21 eh21
                intro t21 u21
                refine c_X14_put (by omega) ?_
                intro h22 eh22
                intro t22 u22
                refine c_X14_put (by omega) ?_
                intro h23 eh23
                intro t23 u23
                rw [show (16 + 2 * nV N (slotF N p0 p1).toNat 15).toNat = 16 + 2 * (nV N (slotF N p0 p1).toNat 15).toNat by omega] at eh21
                rw [show (16 + 2 * nV N (slotF N p0 p1).toNat 15 + 1).toNat = 17 + 2 * (nV N (slotF N p0 p1).toNat 15).toNat by omega] at eh22
                have n21 := W_nw t19 (by omega) ⟨by omega, by omega⟩ eh21 eN19.symm
                have n22 := W_nw t21 (by omega) r3 eh22 n21
                have n23 := W_nw t22 (by omega) ⟨by omega, by omega⟩ eh23 n22
                exact k b_ b_2 b_3 _ _ _ t18 eh1 qh19 t19 (by rw [eh23, eh22, eh21]; exact Fr_tr (Fr_tr (Fr_sV rfl) (by rw [len_sV]; omega) (Fr_sV rfl)) (by rw [len_sV, len_sV]; omega) (Fr_sV rfl)) (by rw [eh23, eh22, eh21]; exact ⟨by rw [len_sV, len_sV, len_sV]; omega, by rw [xhs_sV, xhs_sV, xhs_sV]; omega⟩) n23
              · have q_3 : ¬ (nV N (slotF N p0 p1).toNat 15 < 2 ∧ ¬ inUse N (slotF N p0 p1).toNat) ∧ h18 = sI h12 437 5 3 := by
                  rcases qx17 with ⟨y, _⟩ | ⟨_, y, z⟩
                  · omega
                  · exact ⟨y, z⟩
                exact k2 b_ b_2 q_3.1 _ _ t12 eh1 q_3.2
            · refine ⟨¬ (nV N (slotF N p0 p1).toNat 15 < 2 ∧ ¬ inUse N (slotF N p0 p1).toNat), ?_, ?_⟩
              · intro z25
                exact bqF z25
              · refine ⟨fun c28 => ?_, fun c28 => ?_⟩
                · exact fun z => by have := z.1; omega
                · refine c_isInst t12 eN1 W (by omega) sv.1 I ?_
                  intro x26 qx26
                  intro rx26 vx26
                  refine ⟨fun c27 => ?_, fun c27 => ?_⟩
                  · exact fun z => z.2 ((bq1 qx26).2.2.1.mp c27)
                  · exact bqT ⟨by omega, (bq1 qx26).2.1.mp (by omega)⟩
          · have q_2 : ¬ (¬ p2 = p0 ∧ (0 ≤ p3 ∧ p3 < 1000000 ∧ ¬ p3 % 100 = 0)) ∧ h12 = sI h6 437 5 2 := by
              rcases qx11 with ⟨y, _⟩ | ⟨_, y, z⟩
              · omega
              · exact ⟨y, z⟩
            exact .inr ⟨b_, q_2⟩
        · refine ⟨¬ (¬ p2 = p0 ∧ (0 ≤ p3 ∧ p3 < 1000000 ∧ ¬ p3 % 100 = 0)), ?_, ?_⟩
          · intro z30
            exact bqF z30
          · refine ⟨fun c33 => ?_, fun c33 => ?_⟩
            · exact fun z => z.1 c33
            · refine c_X14_isCode r3 ?_
              intro x31 qx31
              intro rx31 vx31
              refine ⟨fun c32 => ?_, fun c32 => ?_⟩
              · exact fun z => (bq1 qx31).2.1.mp c32 z.2
              · exact bqT ⟨c33, (bq1 qx31).2.2.1.mp c32⟩
  · refine ⟨¬ (((0 ≤ p0 ∧ p0 < N 0) ∧ ¬ slotF N p0 p1 = -1) ∧ (0 ≤ p2 ∧ p2 < N 0)), ?_, ?_⟩
    · intro z35
      exact bqF z35
    · refine ⟨fun c38 => ?_, fun c38 => ?_⟩
      · exact fun z => (bq1 qx2).2.1.mp c38 z.1
      · refine c_X14_isPack ?_ (by rw [show hI h1 438 0 = N 0 by rw [eN1]; rfl]; exact W.1.1)
        intro x36 qx36
        rw [show hI h1 438 0 = N 0 by rw [eN1]; rfl] at qx36
        intro rx36 vx36
        refine ⟨fun c37 => ?_, fun c37 => ?_⟩
        · exact fun z => (bq1 qx36).2.1.mp c37 z.2
        · exact bqT ⟨(bq1 qx2).2.2.1.mp c38, (bq1 qx36).2.2.1.mp c37⟩
theorem d_provide {h : XH} {nd : Nat → ND} {o u p0 p1 p2 p3 : Int} {c : Nat} (T : HT h) (R : Inv h nd o u c) (hc : c < 1000) (r3 : rg p3) {K : Int → XH → Prop} {J : XH → Prop} (k : ∀ h' o' u', HT h' → Inv h' nd o' u' (c + 1) → Gr (1 + 0) (xcs none + (0)) h h' → J h') : w_L_provide p0 p1 p2 p3 (LDw h (fun g Q => w_X14_provide p0 p1 p2 p3 Q g) K J) h := by
  have W := R.1.2.1
  have C := R.1.1
  have hr := rh_lt W
  obtain ⟨b0, p1', p2', p3', p4', p5'⟩ := id R.1.2.2.2.1
  refine dset (S := fun b => b = 23 ∨ b = 24 ∨ b = 25) (N' := updN (updN (updN (nw h) (5 + 20 * (slotF (nw h) p0 p1).toNat + (16 + 2 * (nV (nw h) (slotF (nw h) p0 p1).toNat 15).toNat)) p2) (5 + 20 * (slotF (nw h) p0 p1).toNat + (17 + 2 * (nV (nw h) (slotF (nw h) p0 p1).toNat 15).toNat)) p3) (5 + 20 * (slotF (nw h) p0 p1).toNat + 15) (nV (nw h) (slotF (nw h) p0 p1).toNat 15 + 1)) (e := e3_ (((0 ≤ p0 ∧ p0 < (nw h) 0) ∧ ¬ slotF (nw h) p0 p1 = -1) ∧ (0 ≤ p2 ∧ p2 < (nw h) 0)) (¬ p2 = p0 ∧ (0 ≤ p3 ∧ p3 < 1000000 ∧ ¬ p3 % 100 = 0)) (nV (nw h) (slotF (nw h) p0 p1).toNat 15 < 2 ∧ ¬ inUse (nw h) (slotF (nw h) p0 p1).toNat) 1 2 3) (x := nV (nw h) (slotF (nw h) p0 p1).toNat 15 + 1) (wL := fun Q => w_L_provide p0 p1 p2 p3 Q h) (wR := fun g Q => w_X14_provide p0 p1 p2 p3 Q g) T R hc (fun b y => by have := rc_lt hr; omega) (fun ez => ?_) (fun ez b => ?_) (fun Q q0 q1 => ?_) (fun g Tg gF g3 g2 eg Q q0 q1 => ?_) k
  · obtain ⟨z1, z2, z3⟩ := e3_0 (by decide) (by decide) (by decide) ez
    exact (WF_prov W (slot_v W.1 z1.1.2).1 z3.1 ⟨z1.2.1, z1.2.2, by rw [((slotF_r (N := nw h) (p := p0) (c := p1) W.1.2.2.1).2.2.1 z1.1.2).1]; exact z2.1⟩ ⟨z2.2.1, z2.2.2.1⟩).1
  · obtain ⟨z1, z2, z3⟩ := e3_0 (by decide) (by decide) (by decide) ez
    exact BdN_vq (WF_prov W (slot_v W.1 z1.1.2).1 z3.1 ⟨z1.2.1, z1.2.2, by rw [((slotF_r (N := nw h) (p := p0) (c := p1) W.1.2.2.1).2.2.1 z1.1.2).1]; exact z2.1⟩ ⟨z2.2.1, z2.2.2.1⟩).2 W.1 (fun r hr => fOK_of (CS_i C hr)) b
  · exact c_L_provide T C W b0 p1' p2' R.1.2.2.2.2.1 r3 (fun y => q0 _ (e3_1 y) (by decide)) (fun y z => q0 _ (e3_2 y z) (by decide)) (fun y z w => q0 _ (e3_3 y z w) (by decide)) (fun y z w => q1 (by unfold e3_; rw [if_pos y, if_pos z, if_pos w]))
  · exact c_X14_provide Tg eg.symm W (by omega) g3 g2 (fun r hr => fOK_of (CS_i C hr)) r3 (fun y => q0 _ (e3_1 y) (by decide)) (fun y z => q0 _ (e3_2 y z) (by decide)) (fun y z w => q0 _ (e3_3 y z w) (by decide)) (fun y z w => q1 (by unfold e3_; rw [if_pos y, if_pos z, if_pos w]))
