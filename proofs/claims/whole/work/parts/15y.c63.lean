set_option maxHeartbeats 2000000 in
theorem c_X12_ban {p0 p1 : Int} {h : XH} {N : Nat → Int} {nd : Nat → ND} {m : Nat} {o u : Int} (T : HT h) (C : CS h 8 N nd) (W : WF N m) (B0 : 0 ≤ o ∧ o < 10 ∧ 0 ≤ u ∧ u ≤ 10) (Bo : hI h 2 9 = o) (Bu : hI h 2 10 = u) (Bs : hI h 43 2 = 10) {L : List Int} (Z3 : Tape h 3 1 4 L) (ok : LOK L) {K : Int → XH → Prop} {E : Nat → XH → Prop} (k0 : ¬ ((0 ≤ p0 ∧ p0 < N 0) ∧ ¬ slotF N p0 p1 = -1) → E 2 (nT h)) (k1 : ((0 ≤ p0 ∧ p0 < N 0) ∧ ¬ slotF N p0 p1 = -1) → ¬ (nV N (slotF N p0 p1).toNat 12 < 2 ∧ ¬ inUse N (slotF N p0 p1).toNat) → E 0 (nT h)) (kE : ((0 ≤ p0 ∧ p0 < N 0) ∧ ¬ slotF N p0 p1 = -1) → (nV N (slotF N p0 p1).toNat 12 < 2 ∧ ¬ inUse N (slotF N p0 p1).toNat) → ∀ e, rB (tT L (N 0)) = .inl e → ∀ g, ClF h g → hI g 3 2 = e → HT g → E 1 (nT g)) (k : ((0 ≤ p0 ∧ p0 < N 0) ∧ ¬ slotF N p0 p1 = -1) → (nV N (slotF N p0 p1).toNat 12 < 2 ∧ ¬ inUse N (slotF N p0 p1).toNat) → ∀ d, rB (tT L (N 0)) = .inr d → ∀ g h2 h4, ClF h g → hI g 3 2 = -1 → HT g → Rmb o u g h2 → HT h2 → Fr (fun b => b = 21 ∨ b = 22) h2 h4 → h4.length = h2.length → xhs h4 = xhs h2 → HT h4 → CS h4 8 (banN N (slotF N p0 p1).toNat m) (putN nd m d) → K (nV N (slotF N p0 p1).toNat 12 + 1) h4) : w_X12_ban p0 p1 K E h := by
  unfold w_X12_ban
  refine c_X12_checkedId T C W k0 (fun q => ?_)
  intro _
  have sv := slot_v W.1 q.2
  have sr := slotF_r (N := N) (p := p0) (c := p1) W.1.2.2.1
  have v40 : (slotF N p0 p1).toNat < 40 := by have := W.1.2.2.2.1; have := sv.1; unfold vc at this; omega
  have a7 : hI h 21 (slotF N p0 p1).toNat = nV N (slotF N p0 p1).toNat 12 := (CSV_1 C.1 sv.1).2.2.2.2.2.2.2.2.2.1
  have wv := W.1.2.2.2.2.1 _ sv.1
  refine ⟨(by omega), ?_⟩
  refine ⟨¬ (nV N (slotF N p0 p1).toNat 12 < 2 ∧ ¬ inUse N (slotF N p0 p1).toNat), ?_, ?_⟩
  · intro z3
    exact k1 q z3
  · refine ⟨fun c11 => ?_, fun c11 => ?_⟩
    · intro y
      have := y.1
      omega
    · refine c_inUse T C W (by omega) sv.1 ?_
      intro x4 qx4
      intro rx4 vx4
      refine ⟨fun c10 => ?_, fun c10 => ?_⟩
      · have P2 : (nV N (slotF N p0 p1).toNat 12 < 2 ∧ ¬ inUse N (slotF N p0 p1).toNat) := ⟨by omega, (bq1 qx4).2.1.mp c10⟩
        refine c_X12_checkedNeed T C W Z3 ok (fun e g re F p Tg => kE q P2 e (by rw [if_neg (by decide)] at re; exact re) g F p Tg) ?_
        intro d a5 h6 rd F6 p6 A6 a0 t6 u6
        rw [if_neg (by decide)] at rd
        have L := HT_len T
        have C6 := ClF_C T F6 W C
        obtain ⟨b1, b2, b3⟩ := ClF_r T F6 Bo Bu Bs
        intro _ _
        refine c_X12_remember B0 t6 b1 b2 b3 ?_
        intro h7 qh7
        intro t7 u7
        have A7 := AtomR_fr (Rmb_txt t6 B0 qh7) A6
        have C7 : CS h7 8 N (putN nd m d) := CS_nd W (fun i hi => by unfold putN; rw [if_neg (by omega)]) (Rmb_CS t6 qh7 B0 W C6)
        have W1 := WF_up (Nat.le_succ m) W
        have b7 : hI h7 21 (slotF N p0 p1).toNat = nV N (slotF N p0 p1).toNat 12 := (CSV_1 C7.1 sv.1).2.2.2.2.2.2.2.2.2.1
        have Am : AtomR h7 a5 (putN nd m d (m : Int).toNat) := by rw [Int.toNat_natCast]; unfold putN; rw [if_pos rfl]; exact A7
        unfold w_X8_addBan
        refine ⟨by omega, ?_⟩
        have e2 : wr (wr (slotF N p0 p1 * 2) + hI h7 21 (slotF N p0 p1).toNat) = 2 * ((slotF N p0 p1).toNat : Int) + nV N (slotF N p0 p1).toNat 12 := by
          rw [b7, wr_of (x := slotF N p0 p1 * 2) (by omega) (by omega), wr_of (by omega) (by omega)]
          omega
        rw [e2]
        refine ⟨by omega, ?_, ?_⟩
        · cases d with
          | mk w l =>
            cases l with
            | nil => exact .inl A7
            | cons a l => exact .inr A7.1
        rw [show (2 * ((slotF N p0 p1).toNat : Int) + nV N (slotF N p0 p1).toNat 12).toNat = 2 * (slotF N p0 p1).toNat + (nV N (slotF N p0 p1).toNat 12).toNat by omega]
        intro g1 eg1 tg1 ug1 g3 eg3 tg3 ug3
        have d2 : hI g1 21 (slotF N p0 p1).toNat = nV N (slotF N p0 p1).toNat 12 := by rw [eg1, hI_ne (by decide)]; exact b7
        rw [d2, wr_of (by omega) (by omega)] at eg3
        obtain ⟨c1, c2⟩ := CS_ban (x := (m : Int)) t7 C7 W1 sv.1 P2.1 ⟨by omega, by omega⟩ Am tg1 eg1 eg3
        have d3 : hI g3 21 (slotF N p0 p1).toNat = nV N (slotF N p0 p1).toNat 12 + 1 := by
          rw [eg3]
          exact hI_eq (by rw [lyn (c := 100) (n := 40) tg1 rfl]; omega) ⟨by omega, by omega⟩
        rw [d3]
        intro _ _ _
        exact k q P2 d rd _ _ _ F6 p6 t6 qh7 t7 (by rw [eg3, eg1]; exact Fr_tr (Fr_sV (.inr rfl)) (by rw [len_sV]; omega) (Fr_sV (.inl rfl))) (by rw [eg3, eg1, len_sV, len_sV]) (by rw [eg3, eg1, xhs_sV, xhs_sV]) tg3 c1
      · exact fun y => y.2 ((bq1 qx4).2.2.1.mp c10)
set_option maxHeartbeats 1000000 in
theorem c_L_ban {p1 p2 : Int} {h : XH} {N : Nat → Int} {nd : Nat → ND} {m : Nat} {o u : Int} (T : HT h) (C : CS h 8 N nd) (W : WF N m) (B0 : 0 ≤ o ∧ o < 10 ∧ 0 ≤ u ∧ u ≤ 10) (Bo : hI h 2 9 = o) (Bu : hI h 2 10 = u) (Bs : hI h 43 2 = 10) {L : List Int} (Z3 : Tape h 3 1 4 L) (ok : LOK L) {K : Int → XH → Prop} (k0 : ¬ ((0 ≤ p1 ∧ p1 < N 0) ∧ ¬ slotF N p1 p2 = -1) → K 1 (nT h)) (k1 : ((0 ≤ p1 ∧ p1 < N 0) ∧ ¬ slotF N p1 p2 = -1) → ¬ (nV N (slotF N p1 p2).toNat 12 < 2 ∧ ¬ inUse N (slotF N p1 p2).toNat) → K 2 (nT h)) (kE : ((0 ≤ p1 ∧ p1 < N 0) ∧ ¬ slotF N p1 p2 = -1) → (nV N (slotF N p1 p2).toNat 12 < 2 ∧ ¬ inUse N (slotF N p1 p2).toNat) → ∀ e, rB (tT L (N 0)) = .inl e → ∀ g, ClF h g → hI g 3 2 = e → HT g → K 3 (nT g)) (k : ((0 ≤ p1 ∧ p1 < N 0) ∧ ¬ slotF N p1 p2 = -1) → (nV N (slotF N p1 p2).toNat 12 < 2 ∧ ¬ inUse N (slotF N p1 p2).toNat) → ∀ d, rB (tT L (N 0)) = .inr d → ∀ g h2 h4 h5, ClF h g → hI g 3 2 = -1 → HT g → Rmb o u g h2 → HT h2 → Fr (fun b => b = 21 ∨ b = 22) h2 h4 → h4.length = h2.length → xhs h4 = xhs h2 → HT h4 → CS h4 8 (banN N (slotF N p1 p2).toNat m) (putN nd m d) → h5 = sL h4 467 0 (i2l (nV N (slotF N p1 p2).toNat 12 + 1)) → K 0 h5) : w_L_ban p1 p2 K h := by
  unfold w_L_ban
  refine c_X12_ban T C W B0 Bo Bu Bs Z3 ok (fun q => .inl ⟨rfl, k0 q⟩) (fun q r => .inr (.inl ⟨rfl, k1 q r⟩)) (fun q r e re g F p Tg => .inr (.inr ⟨rfl, kE q r e re g F p Tg⟩)) (fun q r d rd g h2 h4 F p Tg r2 t2 f l x t4 c => ?_)
  intro tx ux _
  intro h5 eh5 t5 u5
  exact k q r d rd _ _ _ _ F p Tg r2 t2 f l x t4 c eh5
set_option maxHeartbeats 4000000 in
theorem c_X14_ban {p0 p1 : Int} {h : XH} {N : Nat → Int} {m : Nat} {q u : Int} (T : HT h) (eN : N = nw h) (W : WF N m) (B1 : 0 ≤ q ∧ q < 10 ∧ 0 ≤ u ∧ u ≤ 10) (Rq : hI h 437 3 = q) (Ru : hI h 437 2 = u) {nd : Nat → ND} {L : List Int} (I : ∀ r : Nat, r < 3 → fOK N (inst N r)) (Z : NT h nd) (i7 : hI h 437 7 = (m : Int)) (hm : m ≤ 511) (CR : CaR h N nd) (Z9 : Tape h 437 9 441 L) (ok : LOK L) {K : Int → XH → Prop} (k0 : ¬ ((0 ≤ p0 ∧ p0 < N 0) ∧ ¬ slotF N p0 p1 = -1) → ∀ h1 h2, HT h1 → h1 = sI h 437 5 0 → h2 = sI h1 437 5 1 → K 0 h2) (k1 : ((0 ≤ p0 ∧ p0 < N 0) ∧ ¬ slotF N p0 p1 = -1) → ¬ (nV N (slotF N p0 p1).toNat 12 < 2 ∧ ¬ inUse N (slotF N p0 p1).toNat) → ∀ h1 h2, HT h1 → h1 = sI h 437 5 0 → h2 = sI h1 437 5 2 → K 0 h2) (kE : ((0 ≤ p0 ∧ p0 < N 0) ∧ ¬ slotF N p0 p1 = -1) → (nV N (slotF N p0 p1).toNat 12 < 2 ∧ ¬ inUse N (slotF N p0 p1).toNat) → ∀ e, rB (tT L (N 0)) = .inl e → ∀ h1 h2 h3, HT h1 → h1 = sI h 437 5 0 → RdF h1 h2 → hI h2 437 10 = e → HT h2 → h3 = sI h2 437 5 3 → K 0 h3) (k : ((0 ≤ p0 ∧ p0 < N 0) ∧ ¬ slotF N p0 p1 = -1) → (nV N (slotF N p0 p1).toNat 12 < 2 ∧ ¬ inUse N (slotF N p0 p1).toNat) → ∀ d, rB (tT L (N 0)) = .inr d → ∀ h1 h2 h5 h7, HT h1 → h1 = sI h 437 5 0 → RdF h1 h2 → hI h2 437 10 = -1 → HT h2 → Rrec q u h2 h5 → HT h5 → Fr (fun b => b = 437 ∨ b = 438 ∨ b = 440 ∨ (468 ≤ b ∧ hk h5 b = 106)) h5 h7 → (∀ j, ¬ j = 6 → ¬ j = 7 → el h7 437 j = el h5 437 j) → Gr 1 nKp h5 h7 → nw h7 = banN N (slotF N p0 p1).toNat m → NT h7 (putN nd m d) → DJo h7 → hI h7 437 7 = (m : Int) + 1 → K (nV N (slotF N p0 p1).toNat 12 + 1) h7) : w_X14_ban p0 p1 K h := by
  unfold w_X14_ban
  intro h1 eh1 t1 u1
  have eN1 : N = nw h1 := eN.trans (nw_fr (by rw [eh1]; exact sameC_sV (by decide))).symm
  have Rq1 : hI h1 437 3 = q := by rw [eh1, hI_ni (by decide)]; exact Rq
  have Ru1 : hI h1 437 2 = u := by rw [eh1, hI_ni (by decide)]; exact Ru
  have Z1 := NT_s1 eh1 Z
  have CR1 := CaR_s1 T eh1 CR
  have Y1 := Tape_s1 eh1 Z9
  have j7 : hI h1 437 7 = (m : Int) := by rw [eh1, hI_ni (by decide)]; exact i7
  refine c_X14_isVersion t1 eN1 W ?_
  intro x2 qx2
  intro rx2 vx2
  refine c_X14_refused qx2 ?_
  intro x3 h4 qx3
  intro t4 u4
  intro rx3 vx3
  refine ⟨fun c30 => ?_, fun c30 => ?_⟩
  · obtain ⟨b_, e_⟩ : (((0 ≤ p0 ∧ p0 < N 0) ∧ ¬ slotF N p0 p1 = -1)) ∧ h4 = h1 := by
      rcases qx3 with ⟨_, y, z⟩ | ⟨y, _⟩
      · exact ⟨y, z⟩
      · omega
    subst e_
    have sv := slot_v W.1 b_.2
    have sr := slotF_r (N := N) (p := p0) (c := p1) W.1.2.2.1
    have v40 : (slotF N p0 p1).toNat < 40 := by have := W.1.2.2.2.1; have := sv.1; unfold vc at this; omega
    have wv := W.1.2.2.2.2.1 _ sv.1
    have w12 := W.1.2.1
    have L1 := HT_len t1
    refine c_X14_slotF eN1 W.1 ?_
    intro _
    refine c_X14_ver (by omega) ?_
    intro x6 ex6
    have e6 : x6 = nV N (slotF N p0 p1).toNat 12 := by rw [ex6, eN1]; rfl
    intro rx6
    refine ⟨fun x => bq x (nV N (slotF N p0 p1).toNat 12 < 2 ∧ ¬ inUse N (slotF N p0 p1).toNat), ?_, ?_⟩
    · intro x7 rx7 z8
      refine c_X14_refused z8 ?_
      intro x9 h10 qx9
      intro t10 u10
      intro rx9 vx9
      refine ⟨fun c25 => ?_, fun c25 => ?_⟩
      · obtain ⟨b_2, e_2⟩ : ((nV N (slotF N p0 p1).toNat 12 < 2 ∧ ¬ inUse N (slotF N p0 p1).toNat)) ∧ h10 = h4 := by
          rcases qx9 with ⟨_, y, z⟩ | ⟨y, _⟩
          · exact ⟨y, z⟩
          · omega
        subst e_2
        have n0 : hI h10 438 0 = N 0 := by rw [eN1]; rfl
        refine c_X14_readBan t1 ok Y1 ⟨n0, W.1.1, W.1.2.1⟩ ?_
        intro a11 h12 F12 R12
        intro t12 u12
        refine ⟨fun x => bq x (∃ d, rB (tT L (N 0)) = .inr d), ?_, ?_⟩
        · intro x13 rx13 z14
          refine c_X14_refused z14 ?_
          intro x15 h16 qx15
          intro t16 u16
          intro rx15 vx15
          refine ⟨fun c23 => ?_, fun c23 => ?_⟩
          · obtain ⟨b_3, e_3⟩ : (∃ d, rB (tT L (N 0)) = .inr d) ∧ h16 = h12 := by
              rcases qx15 with ⟨_, y, z⟩ | ⟨y, _⟩
              · exact ⟨y, z⟩
              · omega
            subst e_3
            obtain ⟨d, rd⟩ := b_3
            obtain ⟨d', rd', Nd, p10, al, r1, r2, r3⟩ := R12.resolve_left (fun ⟨e, y, _⟩ => by rw [rd] at y; cases y)
            obtain rfl : d = d' := Sum.inr.inj (rd.symm.trans rd')
            have gl := F12.2.1
            have q12 : hI h16 437 3 = q := (congrArg gvI (F12.2.2.2.1 3 (by decide) (by decide) (by decide))).trans Rq1
            have u12' : hI h16 437 2 = u := (congrArg gvI (F12.2.2.2.1 2 (by decide) (by decide) (by decide))).trans Ru1
            have eN12 : N = nw h16 := eN1.trans (nw_fr (F12.1 438 (by omega) (by decide))).symm
            refine c_X14_record B1 t12 q12 u12' ?_
            intro h17 qh17
            intro t17 u17
            have eN17 : N = nw h17 := eN12.trans (nw_fr (qh17.1 438 (by omega) (by decide))).symm
            obtain ⟨NT17, D17, Nd17, fr17, i17⟩ := keepT t1 Z1 CR1 F12 Nd r1 r2 r3 qh17
            rw [j7] at i17
            refine c_X14_ver (by omega) ?_
            intro x18 ex18
            have e18 : x18 = nV N (slotF N p0 p1).toNat 12 := by rw [ex18, eN17]; rfl
            intro rx18
            refine c_X14_keep t17 NT17 D17 Nd17 fr17 (by omega) ?_
            intro h20 K20
            rw [i17] at K20 ⊢
            intro t20 u20
            intro rx19
            have eN20 : N = nw h20 := eN17.trans (nw_fr (K20.1 438 (by have := HT_len t17; omega) (by omega))).symm
            rw [e18, wr_of (x := 13 + nV N (slotF N p0 p1).toNat 12) (by omega) (by omega), wr_of (x := nV N (slotF N p0 p1).toNat 12 + 1) (by omega) (by omega)]
            refine c_X14_put (by omega) ?_
            intro h21 eh21
            intro t21 u21
            rw [show (13 + nV N (slotF N p0 p1).toNat 12).toNat = 13 + (nV N (slotF N p0 p1).toNat 12).toNat by omega] at eh21
            have n21 := W_nw t20 (by omega) ⟨by omega, by omega⟩ eh21 eN20.symm
            refine c_X14_put (by omega) ?_
            intro h22 eh22
            intro t22 u22
            have n22 := W_nw t21 (by omega) ⟨by omega, by omega⟩ eh22 n21
            obtain ⟨k1_, k2_, k3_, k4_, k5_, k6_⟩ := keptT t17 K20 (k := h22) (by rw [eh22, eh21]; exact Fr_tr (Fr_sV rfl) (by rw [len_sV]; omega) (Fr_sV rfl)) (by rw [eh22, eh21, len_sV, len_sV]) (by rw [eh22, eh21, xhs_sV, xhs_sV])
            rw [Int.toNat_natCast] at k4_
            exact k b_ b_2 d rd _ _ _ _ t1 eh1 F12 p10 t12 qh17 t17 k1_ k2_ k3_ n22 k4_ k5_ (by rw [k6_, i17])
          · have q_3 : ¬ (∃ d, rB (tT L (N 0)) = .inr d) ∧ h16 = sI h12 437 5 3 := by
              rcases qx15 with ⟨y, _⟩ | ⟨_, y, z⟩
              · omega
              · exact ⟨y, z⟩
            rcases R12 with ⟨e, y, y2, y3⟩ | ⟨d, y, -⟩
            · exact kE b_ b_2 e y _ _ _ t1 eh1 F12 y3 t12 q_3.2
            · exact absurd ⟨d, y⟩ q_3.1
            skip
        · refine ⟨fun c24 => ?_, fun c24 => ?_⟩
          · rcases R12 with ⟨e, y, -⟩ | ⟨d, y, Nd, -, y2, -⟩
            · exact bqF (fun ⟨d, z⟩ => by rw [y] at z; cases z)
            · have := Nd.2.2.2.1; omega
          · rcases R12 with ⟨e, y, y2, -⟩ | ⟨d, y, -⟩
            · exact absurd y2 c24
            · exact bqT ⟨d, y⟩
      · have q_2 : ¬ ((nV N (slotF N p0 p1).toNat 12 < 2 ∧ ¬ inUse N (slotF N p0 p1).toNat)) ∧ h10 = sI h4 437 5 2 := by
          rcases qx9 with ⟨y, _⟩ | ⟨_, y, z⟩
          · omega
          · exact ⟨y, z⟩
        exact k1 b_ q_2.1 _ _ t1 eh1 q_2.2
    · refine ⟨¬ (nV N (slotF N p0 p1).toNat 12 < 2 ∧ ¬ inUse N (slotF N p0 p1).toNat), ?_, ?_⟩
      · intro z26
        exact bqF z26
      · refine ⟨fun c29 => ?_, fun c29 => ?_⟩
        · intro y
          have := y.1
          omega
        · refine c_isInst t1 eN1 W (by omega) sv.1 I ?_
          intro x27 qx27
          intro rx27 vx27
          refine ⟨fun c28 => ?_, fun c28 => ?_⟩
          · exact fun y => y.2 ((bq1 qx27).2.2.1.mp c28)
          · exact bqT ⟨by omega, (bq1 qx27).2.1.mp (by omega)⟩
  · have q_ : ¬ (((0 ≤ p0 ∧ p0 < N 0) ∧ ¬ slotF N p0 p1 = -1)) ∧ h4 = sI h1 437 5 1 := by
      rcases qx3 with ⟨y, _⟩ | ⟨_, y, z⟩
      · omega
      · exact ⟨y, z⟩
    exact k0 q_.1 _ _ t1 eh1 q_.2
theorem d_ban {h : XH} {nd : Nat → ND} {o u p1 p2 : Int} {c : Nat} (T : HT h) (R : Inv h nd o u c) (hc : c < 512)  {K : Int → XH → Prop} {J : XH → Prop} (k : ∀ h' nd' o' u', HT h' → Inv h' nd' o' u' (c + 1) → (∀ i, 5000 ≤ i → nd' i = nd i) → Gr (407 + 1) (nTx + nKp) h h' → J h') : w_L_ban p1 p2 (LDw h (fun g Q => w_X14_ban p1 p2 Q g) K J) h := by
  have C := R.1.1
  obtain ⟨L, ok, Z3, Z9⟩ := tapes R
  obtain ⟨m, i7⟩ : ∃ m : Nat, hI h 437 7 = (m : Int) := ⟨(hI h 437 7).toNat, by have := R.1.2.2.1.1; omega⟩
  have hm : m ≤ 511 := by have := R.2.1.2.2.1; omega
  have W : WF (nw h) m := by have := R.1.2.1; rw [i7, Int.toNat_natCast] at this; exact this
  have W1 := WF_up (Nat.le_succ m) W
  obtain ⟨b0, q1, q2, -⟩ := id R.1.2.2.2.1
  have I : ∀ r : Nat, r < 3 → fOK (nw h) (inst (nw h) r) := fun r hr => fOK_of (CS_i C hr)
  refine dsetT3 (S := fun b => b = 21 ∨ b = 22) (N' := banN (nw h) (slotF (nw h) p1 p2).toNat m) (x := nV (nw h) (slotF (nw h) p1 p2).toNat 12 + 1) (a1 := 1) (a2 := 2) (a3 := 3) (P1 := ((0 ≤ p1 ∧ p1 < nw h 0) ∧ ¬ slotF (nw h) p1 p2 = -1)) (P2 := (nV (nw h) (slotF (nw h) p1 p2).toNat 12 < 2 ∧ ¬ inUse (nw h) (slotF (nw h) p1 p2).toNat)) (r := rB (tT L (nw h 0))) (L := L) (m := m) (wL := fun Q => w_L_ban p1 p2 Q h) (wR := fun g Q => w_X14_ban p1 p2 Q g) T R (by omega) i7 (fun b y => by omega) Z9 ⟨rgk rfl, rgk rfl, rgk rfl⟩ ⟨by decide, by decide, by decide⟩ (fun y1 y2 b => BdN_vq (WF_ban (x := (m : Int)) W1 (slot_v W.1 y1.2).1 y2.1 ⟨by omega, by omega⟩).2 W.1 I b) (fun y1 y2 => (WF_ban (x := (m : Int)) W1 (slot_v W.1 y1.2).1 y2.1 ⟨by omega, by omega⟩).1) (fun Q k0 k1 kE k => ?_) (fun g Tg Z i7' CR Z9' q3' q2' en Q k0 k1 kE k => ?_) k
  · exact c_L_ban T C W b0 q1 q2 R.1.2.2.2.2.1 Z3 ok  k0 k1 kE k
  · exact c_X14_ban Tg en.symm W (by omega) q3' q2' I Z i7' hm CR Z9' ok  k0 k1 kE k
