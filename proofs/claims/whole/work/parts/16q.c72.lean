/-! VERSION, both sides -/
theorem c_room {p0 : Int} {h : XH} {N : Nat → Int} {nd : Nat → ND} {m : Nat} (T : HT h) (C : CS h 8 N nd) (W : WF N m) (hp : 0 ≤ p0 ∧ p0 < N 0) {K : Int → Prop} (k : ∀ x, bq x (N 4 < 40 ∧ (vsl N p0.toNat).length < 8) → K x) : w_X8_hasRoomIn p0 K h := by
  obtain ⟨p, rfl⟩ : ∃ p : Nat, p0 = (p : Int) := ⟨p0.toNat, by omega⟩
  exact c_X8_hasRoomIn T C W hp.2 (by rw [Int.toNat_natCast] at k; exact k)
set_option maxHeartbeats 2000000 in
theorem c_X12_version {p0 p1 p2 p3 p4 : Int} {h : XH} {N : Nat → Int} {nd : Nat → ND} {m : Nat} {o u : Int} (T : HT h) (C : CS h 8 N nd) (W : WF N m) (B0 : 0 ≤ o ∧ o < 10 ∧ 0 ≤ u ∧ u ≤ 10) (Bo : hI h 2 9 = o) (Bu : hI h 2 10 = u) (Bs : hI h 43 2 = 10) (r1 : rg p1) (r2 : rg p2) (r4 : rg p4) {K : Int → XH → Prop} {E : Nat → XH → Prop} (k0 : ¬ ((0 ≤ p0 ∧ p0 < N 0)) → E 2 (nT h)) (k1 : ((0 ≤ p0 ∧ p0 < N 0)) → ¬ (((0 ≤ p1 ∧ p1 < 1000000 ∧ ¬ p1 % 100 = 0) ∧ 0 ≤ p2 ∧ 0 ≤ p3 ∧ p3 ≤ 1000)) → E 1 (nT h)) (k2 : ((0 ≤ p0 ∧ p0 < N 0)) → (((0 ≤ p1 ∧ p1 < 1000000 ∧ ¬ p1 % 100 = 0) ∧ 0 ≤ p2 ∧ 0 ≤ p3 ∧ p3 ≤ 1000)) → ¬ ((slotF N p0 p1 = -1 ∧ (vsl N p0.toNat).length < 8 ∧ N 4 < 40)) → E 0 (nT h)) (k : ((0 ≤ p0 ∧ p0 < N 0)) → (((0 ≤ p1 ∧ p1 < 1000000 ∧ ¬ p1 % 100 = 0) ∧ 0 ≤ p2 ∧ 0 ≤ p3 ∧ p3 ≤ 1000)) → ((slotF N p0 p1 = -1 ∧ (vsl N p0.toNat).length < 8 ∧ N 4 < 40)) → ∀ h2 h4, Rmb o u h h2 → HT h2 → Fr (fun b => (9 ≤ b ∧ b < 19) ∨ b = 21 ∨ b = 23 ∨ b = 26) h2 h4 → h4.length = h2.length → xhs h4 = xhs h2 → CS h4 8 (verN N p0 p1 p2 p3 p4) nd → K (((vsl N p0.toNat).length : Int) + 1) h4) : w_X12_version p0 p1 p2 p3 p4 K E h := by
  unfold w_X12_version
  refine c_X12_checkPack (fun y => k0 (fun z => y (by rw [(V80 C.1).1]; exact z))) (fun q1 q2 => ?_)
  rw [(V80 C.1).1] at q2
  have q : (0 ≤ p0 ∧ p0 < N 0) := ⟨q1, q2⟩
  refine c_X12_isCode r1 ?_
  intro x1 qx1
  intro rx1 vx1
  refine ⟨¬ ((0 ≤ p1 ∧ p1 < 1000000 ∧ ¬ p1 % 100 = 0) ∧ 0 ≤ p2 ∧ 0 ≤ p3 ∧ p3 ≤ 1000), ?_, ?_⟩
  · intro z2
    exact k1 q z2
  · refine ⟨fun c14 => ?_, fun c14 => ?_⟩
    · exact fun y => (bq1 qx1).2.1.mp c14 y.1
    · refine ⟨fun c13 => ?_, fun c13 => ?_⟩
      · exact fun y => by have := y.2; omega
      · refine ⟨fun c12 => ?_, fun c12 => ?_⟩
        · exact fun y => by have := y.2; omega
        · refine ⟨fun c11 => ?_, fun c11 => ?_⟩
          · refine c_X8_idOf C.1 ⟨W.1.2.2.1, W.1.2.2.2.1⟩ ?_
            intro x3 s3
            have e3 := slotF_is W.1 s3
            have q3 : ((0 ≤ p1 ∧ p1 < 1000000 ∧ ¬ p1 % 100 = 0) ∧ 0 ≤ p2 ∧ 0 ≤ p3 ∧ p3 ≤ 1000) := ⟨(bq1 qx1).2.2.1.mp c14, by omega, by omega, by omega⟩
            intro rx3
            refine ⟨¬ (slotF N p0 p1 = -1 ∧ (vsl N p0.toNat).length < 8 ∧ N 4 < 40), ?_, ?_⟩
            · intro z4
              exact k2 q q3 z4
            · refine ⟨fun c10 => ?_, fun c10 => ?_⟩
              · exact fun y => c10 (by rw [e3]; exact y.1)
              · refine c_room T C W q ?_
                intro x5 qx5
                intro rx5 vx5
                refine ⟨fun c9 => ?_, fun c9 => ?_⟩
                · refine c_X12_remember B0 T Bo Bu Bs ?_
                  intro h6 qh6
                  intro t6 u6
                  have C6 := Rmb_CS T qh6 B0 W C
                  have q4 := (bq1 qx5).2.2.1.mp c9
                  have q5 : (slotF N p0 p1 = -1 ∧ (vsl N p0.toNat).length < 8 ∧ N 4 < 40) := ⟨by rw [← e3]; omega, q4.2, q4.1⟩
                  refine c_X8_addVersion t6 C6 W r2 r4 q q3 q5 ?_
                  intro h8 F8 l8 x8 C8
                  intro _ _ _
                  exact k q q3 q5 _ _ qh6 t6 F8 l8 x8 C8
                · exact fun y => (bq1 qx5).2.1.mp (Decidable.not_not.mp c9) ⟨y.2.2, y.2.1⟩
          · exact fun y => by have := y.2; omega
set_option maxHeartbeats 1000000 in
theorem c_L_version {p1 p2 p3 p4 p5 : Int} {h : XH} {N : Nat → Int} {nd : Nat → ND} {m : Nat} {o u : Int} (T : HT h) (C : CS h 8 N nd) (W : WF N m) (B0 : 0 ≤ o ∧ o < 10 ∧ 0 ≤ u ∧ u ≤ 10) (Bo : hI h 2 9 = o) (Bu : hI h 2 10 = u) (Bs : hI h 43 2 = 10) (r1 : rg p2) (r2 : rg p3) (r4 : rg p5) {K : Int → XH → Prop} (k0 : ¬ ((0 ≤ p1 ∧ p1 < N 0)) → K 1 (nT h)) (k1 : ((0 ≤ p1 ∧ p1 < N 0)) → ¬ (((0 ≤ p2 ∧ p2 < 1000000 ∧ ¬ p2 % 100 = 0) ∧ 0 ≤ p3 ∧ 0 ≤ p4 ∧ p4 ≤ 1000)) → K 2 (nT h)) (k2 : ((0 ≤ p1 ∧ p1 < N 0)) → (((0 ≤ p2 ∧ p2 < 1000000 ∧ ¬ p2 % 100 = 0) ∧ 0 ≤ p3 ∧ 0 ≤ p4 ∧ p4 ≤ 1000)) → ¬ ((slotF N p1 p2 = -1 ∧ (vsl N p1.toNat).length < 8 ∧ N 4 < 40)) → K 3 (nT h)) (k : ((0 ≤ p1 ∧ p1 < N 0)) → (((0 ≤ p2 ∧ p2 < 1000000 ∧ ¬ p2 % 100 = 0) ∧ 0 ≤ p3 ∧ 0 ≤ p4 ∧ p4 ≤ 1000)) → ((slotF N p1 p2 = -1 ∧ (vsl N p1.toNat).length < 8 ∧ N 4 < 40)) → ∀ h2 h4 h5, Rmb o u h h2 → HT h2 → Fr (fun b => (9 ≤ b ∧ b < 19) ∨ b = 21 ∨ b = 23 ∨ b = 26) h2 h4 → h4.length = h2.length → xhs h4 = xhs h2 → HT h4 → CS h4 8 (verN N p1 p2 p3 p4 p5) nd → h5 = sL h4 467 0 (i2l (((vsl N p1.toNat).length : Int) + 1)) → K 0 h5) : w_L_version p1 p2 p3 p4 p5 K h := by
  unfold w_L_version
  refine c_X12_version T C W B0 Bo Bu Bs r1 r2 r4 (fun q => .inl ⟨rfl, k0 q⟩) (fun q r => .inr (.inl ⟨rfl, k1 q r⟩)) (fun q r s => .inr (.inr ⟨rfl, k2 q r s⟩)) (fun q q2 q3 g2 g4 r t f l x c => ?_)
  intro tx ux _
  intro h5 eh5 t5 u5
  exact k q q2 q3 _ _ _ r t f l x tx c eh5
set_option maxHeartbeats 4000000 in
theorem c_X14_version {p0 p1 p2 p3 p4 : Int} {h : XH} {N : Nat → Int} {m : Nat} {q u : Int} (T : HT h) (eN : N = nw h) (W : WF N m) (B1 : 0 ≤ q ∧ q < 10 ∧ 0 ≤ u ∧ u ≤ 10) (Rq : hI h 437 3 = q) (Ru : hI h 437 2 = u) {nd : Nat → ND} (P8 : P8N N) (CR : CaR h N nd) (r1 : rg p1) (r2 : rg p2) (r4 : rg p4) {K : Int → XH → Prop} (k0 : ¬ (0 ≤ p0 ∧ p0 < N 0) → ∀ h1 h2 h3, HT h1 → h1 = sI h 437 5 0 → RSt h1 h2 nd 24 (12 * nA8) → HT h2 → h3 = sI h2 437 5 1 → K 0 h3) (k1 : (0 ≤ p0 ∧ p0 < N 0) → ¬ ((0 ≤ p1 ∧ p1 < 1000000 ∧ ¬ p1 % 100 = 0) ∧ 0 ≤ p2 ∧ 0 ≤ p3 ∧ p3 ≤ 1000) → ∀ h1 h2 h3, HT h1 → h1 = sI h 437 5 0 → RSt h1 h2 nd 24 (12 * nA8) → HT h2 → h3 = sI h2 437 5 2 → K 0 h3) (k2 : (0 ≤ p0 ∧ p0 < N 0) → ((0 ≤ p1 ∧ p1 < 1000000 ∧ ¬ p1 % 100 = 0) ∧ 0 ≤ p2 ∧ 0 ≤ p3 ∧ p3 ≤ 1000) → ¬ (slotF N p0 p1 = -1 ∧ (vsl N p0.toNat).length < 8 ∧ N 4 < 40) → ∀ h1 h2 h3, HT h1 → h1 = sI h 437 5 0 → RSt h1 h2 nd 24 (12 * nA8) → HT h2 → h3 = sI h2 437 5 3 → K 0 h3) (k : (0 ≤ p0 ∧ p0 < N 0) → ((0 ≤ p1 ∧ p1 < 1000000 ∧ ¬ p1 % 100 = 0) ∧ 0 ≤ p2 ∧ 0 ≤ p3 ∧ p3 ≤ 1000) → (slotF N p0 p1 = -1 ∧ (vsl N p0.toNat).length < 8 ∧ N 4 < 40) → ∀ h1 h2 h5 h7, HT h1 → h1 = sI h 437 5 0 → RSt h1 h2 nd 24 (12 * nA8) → HT h2 → Rrec q u h2 h5 → HT h5 → Fr (fun b => b = 437 ∨ b = 438 ∨ (462 ≤ b ∧ b < 467)) h5 h7 → (∀ j, j ≤ 55 → el h7 437 j = el h5 437 j) → Gr 0 0 h5 h7 → nw h7 = verN N p0 p1 p2 p3 p4 → K (((vsl N p0.toNat).length : Int) + 1) h7) : w_X14_version p0 p1 p2 p3 p4 K h := by
  unfold w_X14_version
  intro h1 eh1 t1 u1
  have eN1 : N = nw h1 := eN.trans (nw_fr (by rw [eh1]; exact sameC_sV (by decide))).symm
  have Rq1 : hI h1 437 3 = q := by rw [eh1, hI_ni (by decide)]; exact Rq
  have Ru1 : hI h1 437 2 = u := by rw [eh1, hI_ni (by decide)]; exact Ru
  have CR1 := CaR_s1 T eh1 CR
  have R1 : RSt h1 h1 nd 24 (12 * nA8) := RSt_mono (RSt_rf h1 nd) (by omega) (by omega)
  refine c_X14_isPack ?_ (by rw [show hI h1 438 0 = N 0 by rw [eN1]; rfl]; exact W.1.1)
  intro x2 qx2
  rw [show hI h1 438 0 = N 0 by rw [eN1]; rfl] at qx2
  have b12 := W.1.2.1
  intro rx2 vx2
  refine c_X14_refused qx2 ?_
  intro x3 h4 qx3
  intro t4 u4
  intro rx3 vx3
  refine ⟨fun g => (¬ (0 ≤ p0 ∧ p0 < N 0) ∧ g = sI h1 437 5 1) ∨ ((0 ≤ p0 ∧ p0 < N 0) ∧ ¬ ((0 ≤ p1 ∧ p1 < 1000000 ∧ ¬ p1 % 100 = 0) ∧ 0 ≤ p2 ∧ 0 ≤ p3 ∧ p3 ≤ 1000) ∧ g = sI h1 437 5 2), ?_, ?_⟩
  · intro h5 t5 s5 z6
    rcases z6 with ⟨y1, y2⟩ | ⟨y1, y2, y3⟩
    · exact k0 y1 _ _ _ t1 eh1 R1 t1 y2
    · exact k1 y1 y2 _ _ _ t1 eh1 R1 t1 y3
  · refine ⟨fun c41 => ?_, fun c41 => ?_⟩
    · have q_ : ¬ ((0 ≤ p0 ∧ p0 < N 0)) ∧ h4 = sI h1 437 5 1 := by
        rcases qx3 with ⟨y, _⟩ | ⟨_, y, z⟩
        · omega
        · exact ⟨y, z⟩
      exact .inl q_
    · obtain ⟨b_, e_⟩ : ((0 ≤ p0 ∧ p0 < N 0)) ∧ h4 = h1 := by
        rcases qx3 with ⟨_, y, z⟩ | ⟨y, _⟩
        · exact ⟨y, z⟩
        · omega
      subst e_
      refine c_X14_isCode r1 ?_
      intro x7 qx7
      intro rx7 vx7
      refine ⟨fun x => bq x ((0 ≤ p1 ∧ p1 < 1000000 ∧ ¬ p1 % 100 = 0) ∧ 0 ≤ p2 ∧ 0 ≤ p3 ∧ p3 ≤ 1000), ?_, ?_⟩
      · intro x8 rx8 z9
        refine c_X14_refused z9 ?_
        intro x10 h11 qx10
        intro t11 u11
        intro rx10 vx10
        refine ⟨fun c35 => ?_, fun c35 => ?_⟩
        · obtain ⟨b_2, e_2⟩ : (((0 ≤ p1 ∧ p1 < 1000000 ∧ ¬ p1 % 100 = 0) ∧ 0 ≤ p2 ∧ 0 ≤ p3 ∧ p3 ≤ 1000)) ∧ h11 = h4 := by
            rcases qx10 with ⟨_, y, z⟩ | ⟨y, _⟩
            · exact ⟨y, z⟩
            · omega
          subst e_2
          refine c_X14_versionsOf ⟨b_.1, by have := b_.2; omega⟩ t1 eN1 W P8 CR1 ?_
          intro a12 h13 r13 V13
          intro t13 u13
          have eN13 : N = nw h13 := eN1.trans (RSt_nw t1 r13).symm
          obtain ⟨v1, v2, v3, v4⟩ := V13
          have v8 := P8 p0.toNat (by have := b_.1; have := b_.2; omega)
          have n4 : hI h13 438 4 = N 4 := by rw [eN13]; rfl
          have q13 : hI h13 437 3 = q := (congrArg gvI (r13.2.2.1 3 (by decide))).trans Rq1
          have u13' : hI h13 437 2 = u := (congrArg gvI (r13.2.2.1 2 (by decide))).trans Ru1
          rw [v3]
          refine ⟨v1, ?_⟩
          refine ⟨(by omega), ?_⟩
          intro x16 ex16 rx16
          refine c_X14_slotF eN13 W.1 ?_
          intro _
          refine ⟨fun x => bq x (slotF N p0 p1 = -1 ∧ (vsl N p0.toNat).length < 8 ∧ N 4 < 40), ?_, ?_⟩
          · intro x18 rx18 z19
            refine c_X14_refused z19 ?_
            intro x20 h21 qx20
            intro t21 u21
            intro rx20 vx20
            refine ⟨fun c30 => ?_, fun c30 => ?_⟩
            · obtain ⟨b_3, e_3⟩ : ((slotF N p0 p1 = -1 ∧ (vsl N p0.toNat).length < 8 ∧ N 4 < 40)) ∧ h21 = h13 := by
                rcases qx20 with ⟨_, y, z⟩ | ⟨y, _⟩
                · exact ⟨y, z⟩
                · omega
              subst e_3
              refine c_X14_record B1 t13 q13 u13' ?_
              intro h22 qh22
              intro t22 u22
              have eN22 : N = nw h22 := eN13.trans (nw_fr (qh22.1 438 (by have := HT_len t13; omega) (by decide))).symm
              have i22 : hI h22 438 4 = N 4 := by rw [eN22]; rfl
              have w3 := W.1.2.2.1
              have b3 : slotF N p0 p1 = -1 ∧ (vsl N p0.toNat).length < 8 ∧ N 4 < 40 := b_3
              have b2 : (0 ≤ p1 ∧ p1 < 1000000 ∧ ¬ p1 % 100 = 0) ∧ 0 ≤ p2 ∧ 0 ≤ p3 ∧ p3 ≤ 1000 := b_2
              have v40 : vc N < 40 := by unfold vc; omega
              intro x23 ex23 rx23
              rw [i22] at ex23
              have e23 : x23.toNat = vc N := by unfold vc; omega
              intro h24 eh24 t24 u24
              rw [i22, wr_of (by omega) (by omega)] at eh24
              have n24 := W_nw t22 (by decide) (by unfold rg; omega) eh24 eN22.symm
              refine c_X14_put (by omega) ?_
              intro h25 eh25
              rw [e23] at eh25
              intro t25 u25
              refine c_X14_put (by omega) ?_
              intro h26 eh26
              rw [e23] at eh26
              intro t26 u26
              refine c_X14_put (by omega) ?_
              intro h27 eh27
              rw [e23] at eh27
              intro t27 u27
              refine c_X14_put (by omega) ?_
              intro h28 eh28
              rw [e23] at eh28
              intro t28 u28
              refine c_X14_put (by omega) ?_
              intro h29 eh29
              rw [e23] at eh29
              intro t29 u29
              have b1 : 0 ≤ p0 ∧ p0 < N 0 := b_
              have n25 := W_nw t24 (by simp; omega) (by unfold rg; omega) eh25 n24
              have n26 := W_nw t25 (by simp; omega) r1 eh26 n25
              have n27 := W_nw t26 (by simp; omega) r2 eh27 n26
              have n28 := W_nw t27 (by simp; omega) (by unfold rg; omega) eh28 n27
              have n29 := W_nw t28 (by simp; omega) r4 eh29 n28
              have F : Fr (fun b => b = 438) h22 h29 := fun b _ n => by
                have s : ∀ {g : XH} {i : Nat} {v : Value}, sameC g (sV g 438 i v) b := fun {g i v} => sameC_sV (fun z => n z.symm)
                rw [eh29, eh28, eh27, eh26, eh25, eh24]
                exact sameC_tr s (sameC_tr s (sameC_tr s (sameC_tr s (sameC_tr s s))))
              rw [wr_of (by omega) (by omega), ex16]
              exact k b_ b_2 b_3 _ _ _ _ t1 eh1 r13 t13 qh22 t22 (Fr_mono F (fun b y => .inr (.inl y))) (fun j _ => sameC_el (F 437 (by have := HT_len t22; omega) (by decide)) j) ⟨by rw [eh29, eh28, eh27, eh26, eh25, eh24]; simp only [len_sV]; omega, by rw [eh29, eh28, eh27, eh26, eh25, eh24]; simp only [xhs_sV]; omega⟩ n29
            · have q_3 : ¬ ((slotF N p0 p1 = -1 ∧ (vsl N p0.toNat).length < 8 ∧ N 4 < 40)) ∧ h21 = sI h13 437 5 3 := by
                rcases qx20 with ⟨y, _⟩ | ⟨_, y, z⟩
                · omega
                · exact ⟨y, z⟩
              exact k2 b_ b_2 q_3.1 _ _ _ t1 eh1 r13 t13 q_3.2
          · refine ⟨¬ (slotF N p0 p1 = -1 ∧ (vsl N p0.toNat).length < 8 ∧ N 4 < 40), ?_, ?_⟩
            · intro z31
              exact bqF z31
            · refine ⟨fun c34 => ?_, fun c34 => ?_⟩
              · exact fun y => c34 y.1
              · refine ⟨fun c33 => ?_, fun c33 => ?_⟩
                · exact fun y => by have := y.2.1; omega
                · refine ⟨fun c32 => ?_, fun c32 => ?_⟩
                  · rw [n4] at c32
                    exact fun y => by have := y.2.2; omega
                  · rw [n4] at c32
                    exact bqT ⟨Decidable.not_not.mp c34, by omega, by omega⟩
        · have q_2 : ¬ (((0 ≤ p1 ∧ p1 < 1000000 ∧ ¬ p1 % 100 = 0) ∧ 0 ≤ p2 ∧ 0 ≤ p3 ∧ p3 ≤ 1000)) ∧ h11 = sI h4 437 5 2 := by
            rcases qx10 with ⟨y, _⟩ | ⟨_, y, z⟩
            · omega
            · exact ⟨y, z⟩
          exact .inr ⟨b_, q_2⟩
      · refine ⟨¬ ((0 ≤ p1 ∧ p1 < 1000000 ∧ ¬ p1 % 100 = 0) ∧ 0 ≤ p2 ∧ 0 ≤ p3 ∧ p3 ≤ 1000), ?_, ?_⟩
        · intro z36
          exact bqF z36
        · refine ⟨fun c40 => ?_, fun c40 => ?_⟩
          · exact fun y => (bq1 qx7).2.1.mp c40 y.1
          · refine ⟨fun c39 => ?_, fun c39 => ?_⟩
            · exact fun y => by have := y.2; omega
            · refine c_X14_within ?_
              intro x37 qx37
              intro rx37 vx37
              refine ⟨fun c38 => ?_, fun c38 => ?_⟩
              · exact fun y => (bq1 qx37).2.1.mp c38 y.2.2
              · exact bqT ⟨(bq1 qx7).2.2.1.mp c40, by omega, (bq1 qx37).2.2.1.mp c38⟩
theorem d_version {h : XH} {nd : Nat → ND} {o u p1 p2 p3 p4 p5 : Int} {c : Nat} (T : HT h) (R : Inv h nd o u c) (hc : c < 1000) (r2 : rg p2) (r3 : rg p3) (r5 : rg p5) {K : Int → XH → Prop} {J : XH → Prop} (k : ∀ h' o' u', HT h' → Inv h' nd o' u' (c + 1) → Gr (1 + 24 + 0) (xcs none + 12 * nA8 + 0) h h' → J h') : w_L_version p1 p2 p3 p4 p5 (LDw h (fun g Q => w_X14_version p1 p2 p3 p4 p5 Q g) K J) h := by
  have W := R.1.2.1
  have C := R.1.1
  obtain ⟨b0, p1', p2', -⟩ := id R.1.2.2.2.1
  have CS0 : CSt h h (nw h) nd := CSt_rf h (nw h) nd
  refine dset2 (S := fun b => (9 ≤ b ∧ b < 19) ∨ b = 21 ∨ b = 23 ∨ b = 26) (N' := verN (nw h) p1 p2 p3 p4 p5) (e := e3_ (0 ≤ p1 ∧ p1 < nw h 0) ((0 ≤ p2 ∧ p2 < 1000000 ∧ ¬ p2 % 100 = 0) ∧ 0 ≤ p3 ∧ 0 ≤ p4 ∧ p4 ≤ 1000) (slotF (nw h) p1 p2 = -1 ∧ (vsl (nw h) p1.toNat).length < 8 ∧ nw h 4 < 40) 1 2 3) (x := ((vsl (nw h) p1.toNat).length : Int) + 1) (wL := fun Q => w_L_version p1 p2 p3 p4 p5 Q h) (wR := fun g Q => w_X14_version p1 p2 p3 p4 p5 Q g) T R hc (by unfold e3_; split <;> (try split) <;> (try split) <;> exact rgk rfl) (fun b y => by omega) (fun ez => ?_) (fun ez b => ?_) (fun Q q0 q1 => ?_) (fun g Tg Z CR g3 g2 eg Q q0 q1 => ?_) k
  · obtain ⟨z1, z2, z3⟩ := e3_0 (by decide) (by decide) (by decide) ez
    exact WF_ver W z3.2.2 z1 z2.1 z2.2.1 ⟨z2.2.2.1, z2.2.2.2⟩ z3.1
  · obtain ⟨z1, z2, z3⟩ := e3_0 (by decide) (by decide) (by decide) ez
    exact BdN_ver W z3.2.2 z1 z2.1 z2.2.1 ⟨z2.2.2.1, z2.2.2.2⟩ z3.1 (fun r hr => fOK_of (CS_i C hr)) b
  · refine c_L_version T C W b0 p1' p2' R.1.2.2.2.2.1 r2 r3 r5 (fun y => ?_) (fun y z => ?_) (fun y z w => ?_) (fun y z w h2 h4 h5 r t f l x t4 c4 e5 => ?_)
    · have e := e3_1 (P2 := ((0 ≤ p2 ∧ p2 < 1000000 ∧ ¬ p2 % 100 = 0) ∧ 0 ≤ p3 ∧ 0 ≤ p4 ∧ p4 ≤ 1000)) (P3 := (slotF (nw h) p1 p2 = -1 ∧ (vsl (nw h) p1.toNat).length < 8 ∧ nw h 4 < 40)) (n1 := 1) (n2 := 2) (n3 := 3) y
      have := q0 (by rw [e]; decide) h T CS0
      rw [e] at this; exact this
    · have e := e3_2 (P3 := (slotF (nw h) p1 p2 = -1 ∧ (vsl (nw h) p1.toNat).length < 8 ∧ nw h 4 < 40)) (n1 := 1) (n2 := 2) (n3 := 3) y z
      have := q0 (by rw [e]; decide) h T CS0
      rw [e] at this; exact this
    · have e := e3_3 (n1 := 1) (n2 := 2) (n3 := 3) y z w
      have := q0 (by rw [e]; decide) h T CS0
      rw [e] at this; exact this
    · have L := HT_len T
      have rl := r.2.1
      have Bs := bs_lt (k := ((o + u) % 10).toNat) (by omega)
      have s2 : sameC h2 h4 2 := f 2 (by omega) (by omega)
      refine q1 (by unfold e3_; rw [if_pos y, if_pos z, if_pos w]) h2 h4 h5 r t f l x (fun j _ => sameC_el s2 j) t4 c4 (CaC_0 R.2.2.1 ((sameC_I s2 11).trans r.2.2.2.1) (sameC_tr (r.1 58 (by omega) (by omega)) (f 58 (by omega) (by omega)))) e5
  · refine c_X14_version Tg eg.symm W (by omega) g3 g2 (P8_of R) CR r2 r3 r5 (fun y h1 h2 h3 t1 e1 rr t2 e3 => ?_) (fun y z h1 h2 h3 t1 e1 rr t2 e3 => ?_) (fun y z w h1 h2 h3 t1 e1 rr t2 e3 => ?_) (fun y z w => q1 (by unfold e3_; rw [if_pos y, if_pos z, if_pos w]))
    · have e := e3_1 (P2 := ((0 ≤ p2 ∧ p2 < 1000000 ∧ ¬ p2 % 100 = 0) ∧ 0 ≤ p3 ∧ 0 ≤ p4 ∧ p4 ≤ 1000)) (P3 := (slotF (nw h) p1 p2 = -1 ∧ (vsl (nw h) p1.toNat).length < 8 ∧ nw h 4 < 40)) (n1 := 1) (n2 := 2) (n3 := 3) y
      exact q0 (by rw [e]; decide) h1 h2 h3 t1 e1 rr t2 (by rw [e]; exact e3)
    · have e := e3_2 (P3 := (slotF (nw h) p1 p2 = -1 ∧ (vsl (nw h) p1.toNat).length < 8 ∧ nw h 4 < 40)) (n1 := 1) (n2 := 2) (n3 := 3) y z
      exact q0 (by rw [e]; decide) h1 h2 h3 t1 e1 rr t2 (by rw [e]; exact e3)
    · have e := e3_3 (n1 := 1) (n2 := 2) (n3 := 3) y z w
      exact q0 (by rw [e]; decide) h1 h2 h3 t1 e1 rr t2 (by rw [e]; exact e3)
