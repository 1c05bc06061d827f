/-! WISH, PIN -/
theorem wish_at {N : Nat → Int} {r : Nat} {x : Int} : ∀ i, ¬ i = 805 + 291 * r + (1 + (nR N r 0).toNat) → ¬ i = 805 + 291 * r + 0 → wishN N r x i = N i := fun i n1 n0 => by unfold wishN; rw [updN_ne n0, updN_ne n1]
theorem BdN_wish {N : Nat → Int} {r c : Nat} {x : Int} (W : N 4 ≤ 40) (hr : r < 3) (h8 : 0 ≤ nR N r 0 ∧ nR N r 0 < 8) (b : BdN N c) : BdN (wishN N r x) (c + 1) :=
  BdN_cg (fun i hi => wish_at i (by omega) (by omega)) (fun q hq => ⟨wish_at _ (by omega) (by omega), fun p hp => wish_at _ (by omega) (by omega)⟩) (fun m hm => wish_at _ (by omega) (by omega)) W b
theorem WF_wish {N : Nat → Int} {m r : Nat} {x : Int} (W : WF N m) (hr : r < 3) (v8 : nR N r 0 < 8) (hx : 0 ≤ x ∧ x < m) : WF (wishN N r x) m := by
  obtain ⟨d1, d2, d3, d4, d5, d6, d7, d8, d9, d10, d11⟩ := W.2.1 r hr
  have E : VE N (wishN N r x) := fun i _ _ => wish_at i (by omega) (by omega)
  refine ⟨WV_ve E W.1, fun q hq => ?_, WT_ve E (fun i hi => wish_at i (by omega) (by omega)) W.2.2⟩
  by_cases c : q = r
  · rw [c]
    have er : ∀ k, ¬ k = 1 + (nR N r 0).toNat → ¬ k = 0 → nR (wishN N r x) r k = nR N r k := fun k n n0 => wish_at _ (by omega) (by omega)
    have e0 : nR (wishN N r x) r 0 = nR N r 0 + 1 := updN_eq
    have ev : nR (wishN N r x) r (1 + (nR N r 0).toNat) = x := by unfold nR wishN; rw [updN_ne (by omega)]; exact updN_eq
    unfold WRt
    rw [e0, er 9 (by omega) (by omega), er 47 (by omega) (by omega), er 22 (by omega) (by omega), E 0 (by omega) (by omega)]
    refine ⟨by omega, by omega, fun w h8 hw => ?_, d4, d5, d6, fun p hp => ?_, d8, d9, d10, d11⟩
    · by_cases c : w = (nR N r 0).toNat
      · rw [c, ev]; omega
      · rw [er (1 + w) (by omega) (by omega)]; exact d3 w h8 (by omega)
    · rw [er (10 + p) (by omega) (by omega)]; exact d7 p hp
  · exact WRt_ve E (fun k hk => wish_at _ (by omega) (by omega)) (W.2.1 q hq)
theorem pin_at {N : Nat → Int} {r p : Nat} {x : Int} : ∀ i, ¬ i = 805 + 291 * r + (10 + p) → pinN N r p x i = N i := fun i n1 => by unfold pinN; rw [updN_ne n1]
theorem BdN_pin {N : Nat → Int} {r p0 c : Nat} {x : Int} (W : N 4 ≤ 40) (hr : r < 3) (h8 : p0 < 12) (b : BdN N c) : BdN (pinN N r p0 x) (c + 1) :=
  BdN_cg (fun i hi => pin_at i (by omega)) (fun q hq => ⟨pin_at _ (by omega), fun p hp => pin_at _ (by omega)⟩) (fun m hm => pin_at _ (by omega)) W b
theorem WF_pin {N : Nat → Int} {m r p0 : Nat} {x : Int} (W : WF N m) (hr : r < 3) (v8 : (p0 : Int) < N 0) (hx : 0 ≤ x ∧ x ≤ m) : WF (pinN N r p0 x) m := by
  obtain ⟨d1, d2, d3, d4, d5, d6, d7, d8, d9, d10, d11⟩ := W.2.1 r hr
  have w1 := W.1.2.1
  have E : VE N (pinN N r p0 x) := fun i _ _ => pin_at i (by omega)
  refine ⟨WV_ve E W.1, fun q hq => ?_, WT_ve E (fun i hi => pin_at i (by omega)) W.2.2⟩
  by_cases c : q = r
  · rw [c]
    have er : ∀ k, ¬ k = 10 + p0 → nR (pinN N r p0 x) r k = nR N r k := fun k n => pin_at _ (by omega)
    have ev : nR (pinN N r p0 x) r (10 + p0) = x := updN_eq
    unfold WRt
    rw [er 0 (by omega), er 9 (by omega), er 47 (by omega), er 22 (by omega), E 0 (by omega) (by omega)]
    refine ⟨d1, d2, fun w h8 hw => ?_, d4, d5, d6, fun p hp => ?_, d8, d9, d10, d11⟩
    · rw [er (1 + w) (by omega)]; exact d3 w h8 hw
    · by_cases c : p = p0
      · rw [c, ev]; exact ⟨by omega, by omega, fun z => by omega⟩
      · rw [er (10 + p) (by omega)]; exact d7 p hp
  · exact WRt_ve E (fun k hk => pin_at _ (by omega)) (W.2.1 q hq)
theorem rc_1n {h : XH} (T : HT h) {r : Nat} (hr : r < 3) : hn h (rc r + 1) = 8 ∧ hn h (rc r + 2) = 12 := by
  have : r = 0 ∨ r = 1 ∨ r = 2 := by omega
  rcases this with y | y | y
  · rw [y]; exact ⟨lyn (c := 103) (n := 8) T rfl, lyn (c := 104) (n := 12) T rfl⟩
  · rw [y]; exact ⟨lyn (c := 103) (n := 8) T rfl, lyn (c := 104) (n := 12) T rfl⟩
  · rw [y]; exact ⟨lyn (c := 103) (n := 8) T rfl, lyn (c := 104) (n := 12) T rfl⟩
set_option maxHeartbeats 2000000 in
theorem c_X12_wish {h : XH} {N : Nat → Int} {nd : Nat → ND} {m : Nat} {o u : Int} (T : HT h) (C : CS h 8 N nd) (W : WF N m) (B0 : 0 ≤ o ∧ o < 10 ∧ 0 ≤ u ∧ u ≤ 10) (Bo : hI h 2 9 = o) (Bu : hI h 2 10 = u) (Bs : hI h 43 2 = 10) {L : List Int} (Z3 : Tape h 3 1 4 L) (ok : LOK L) {K : Int → XH → Prop} {E : Nat → XH → Prop} (k1 : ¬ nR N (rh N) 0 < 8 → E 0 (nT h)) (kE : nR N (rh N) 0 < 8 → ∀ e, rN (tT L (N 0)) = .inl e → ∀ g, ClF h g → hI g 3 2 = e → HT g → E 1 (nT g)) (k : nR N (rh N) 0 < 8 → ∀ d, rN (tT L (N 0)) = .inr d → ∀ g h2 h4, ClF h g → hI g 3 2 = -1 → HT g → Rmb o u g h2 → HT h2 → Fr (fun b => b = rc (rh N) ∨ b = rc (rh N) + 1) h2 h4 → h4.length = h2.length → xhs h4 = xhs h2 → HT h4 → CS h4 8 (wishN N (rh N) m) (putN nd m d) → K (nR N (rh N) 0) h4) : w_X12_wish K E h := by
  unfold w_X12_wish
  have r3 := rh_lt W
  have rb := rc_lt r3
  have wr0 := W.2.1 (rh N) r3
  have w00 : 0 ≤ nR N (rh N) 0 := wr0.1
  have a0 : hI h (rc (rh N)) 0 = nR N (rh N) 0 := (R8 (C.2.2.1 _ r3)).1
  have L := HT_len T
  refine c_atH C W ?_
  refine ⟨(rc_k T (rh_lt W)), ?_⟩
  refine ⟨fun c10 => ?_, fun c10 => ?_⟩
  · have P2 : nR N (rh N) 0 < 8 := by omega
    refine c_X12_checkedNeed T C W Z3 ok (fun e g re F p Tg => kE P2 e (by rw [if_pos rfl] at re; exact re) g F p Tg) ?_
    intro d a3 h4 rd F4 p4 A4 an0 t4 u4
    rw [if_pos rfl] at rd
    have C4 := ClF_C T F4 W C
    obtain ⟨b1, b2, b3⟩ := ClF_r T F4 Bo Bu Bs
    intro _ _
    refine c_X12_remember B0 t4 b1 b2 b3 ?_
    intro h5 qh5
    intro t5 u5
    have A5 := AtomR_fr (Rmb_txt t4 B0 qh5) A4
    have C5 : CS h5 8 N (putN nd m d) := CS_nd W (fun i hi => by unfold putN; rw [if_neg (by omega)]) (Rmb_CS t4 qh5 B0 W C4)
    have W1 := WF_up (Nat.le_succ m) W
    have od := rN_ok ok rd
    have b0 : hI h5 (rc (rh N)) 0 = nR N (rh N) 0 := (R8 (C5.2.2.1 _ r3)).1
    have Am : AtomR h5 a3 (putN nd m d (m : Int).toNat) := by rw [Int.toNat_natCast]; unfold putN; rw [if_pos rfl]; exact A5
    refine c_atH C5 W ?_
    refine ⟨(rc_k t5 (rh_lt W)), ?_⟩
    unfold w_X6_addWish
    intro x1 ex1 rx1
    rw [b0] at ex1
    refine ⟨by have := wr0.1; omega, .inr (Atom_1 t5 A5 od).2.1, ?_⟩
    intro g1 eg1 tg1 ug1 g3 eg3 tg3 ug3
    have d2 : hI g1 (rc (rh N)) 0 = nR N (rh N) 0 := by rw [eg1, hI_ne (by omega)]; exact b0
    rw [d2, wr_of (by omega) (by omega)] at eg3
    rw [ex1] at eg1 ⊢
    obtain ⟨c1, c2⟩ := CS_wish (x := (m : Int)) t5 C5 W1 r3 P2 ⟨by omega, by omega⟩ Am eg1 eg3 (by rw [(rc_1n t5 r3).1]; exact Nat.le_refl _) (hn_obj tg1 (rc_k tg1 r3) rfl rfl)
    intro _ _ _
    exact k P2 d rd _ _ _ F4 p4 t4 qh5 t5 (by rw [eg3, eg1]; exact Fr_tr (Fr_sV (.inr rfl)) (by rw [len_sV]; omega) (Fr_sV (.inl rfl))) (by rw [eg3, eg1, len_sV, len_sV]) (by rw [eg3, eg1, xhs_sV, xhs_sV]) tg3 c1
  · exact k1 (by omega)
set_option maxHeartbeats 1000000 in
theorem c_L_wish {h : XH} {N : Nat → Int} {nd : Nat → ND} {m : Nat} {o u : Int} (T : HT h) (C : CS h 8 N nd) (W : WF N m) (B0 : 0 ≤ o ∧ o < 10 ∧ 0 ≤ u ∧ u ≤ 10) (Bo : hI h 2 9 = o) (Bu : hI h 2 10 = u) (Bs : hI h 43 2 = 10) {L : List Int} (Z3 : Tape h 3 1 4 L) (ok : LOK L) {K : Int → XH → Prop} (k1 : ¬ nR N (rh N) 0 < 8 → K 1 (nT h)) (kE : nR N (rh N) 0 < 8 → ∀ e, rN (tT L (N 0)) = .inl e → ∀ g, ClF h g → hI g 3 2 = e → HT g → K 2 (nT g)) (k : nR N (rh N) 0 < 8 → ∀ d, rN (tT L (N 0)) = .inr d → ∀ g h2 h4 h5, ClF h g → hI g 3 2 = -1 → HT g → Rmb o u g h2 → HT h2 → Fr (fun b => b = rc (rh N) ∨ b = rc (rh N) + 1) h2 h4 → h4.length = h2.length → xhs h4 = xhs h2 → HT h4 → CS h4 8 (wishN N (rh N) m) (putN nd m d) → h5 = sL h4 467 0 (i2l (nR N (rh N) 0)) → K 0 h5) : w_L_wish K h := by
  unfold w_L_wish
  refine c_X12_wish T C W B0 Bo Bu Bs Z3 ok (fun r => .inl ⟨rfl, k1 r⟩) (fun r e re g F p Tg => .inr ⟨rfl, kE r e re g F p Tg⟩) (fun r d rd g h2 h4 F p Tg r2 t2 f l x t4 c => ?_)
  intro tx ux _
  intro h5 eh5 t5 u5
  exact k r d rd _ _ _ _ F p Tg r2 t2 f l x t4 c eh5
set_option maxHeartbeats 4000000 in
theorem c_X14_wish {h : XH} {N : Nat → Int} {m : Nat} {q u : Int} (T : HT h) (eN : N = nw h) (W : WF N m) (B1 : 0 ≤ q ∧ q < 10 ∧ 0 ≤ u ∧ u ≤ 10) (Rq : hI h 437 3 = q) (Ru : hI h 437 2 = u) {nd : Nat → ND} {L : List Int} (I : ∀ r : Nat, r < 3 → fOK N (inst N r)) (Z : NT h nd) (i7 : hI h 437 7 = (m : Int)) (hm : m ≤ 511) (CR : CaR h N nd) (Z9 : Tape h 437 9 441 L) (ok : LOK L) {K : Int → XH → Prop} (k1 : ¬ nR N (rh N) 0 < 8 → ∀ h1 h2, HT h1 → h1 = sI h 437 5 0 → h2 = sI h1 437 5 1 → K 0 h2) (kE : nR N (rh N) 0 < 8 → ∀ e, rN (tT L (N 0)) = .inl e → ∀ h1 h2 h3, HT h1 → h1 = sI h 437 5 0 → RdF h1 h2 → hI h2 437 10 = e → HT h2 → h3 = sI h2 437 5 2 → K 0 h3) (k : nR N (rh N) 0 < 8 → ∀ d, rN (tT L (N 0)) = .inr d → ∀ h1 h2 h5 h7, HT h1 → h1 = sI h 437 5 0 → RdF h1 h2 → hI h2 437 10 = -1 → HT h2 → Rrec q u h2 h5 → HT h5 → Fr (fun b => b = 437 ∨ b = 438 ∨ b = 440 ∨ (468 ≤ b ∧ hk h5 b = 106)) h5 h7 → (∀ j, ¬ j = 6 → ¬ j = 7 → el h7 437 j = el h5 437 j) → Gr 1 nKp h5 h7 → nw h7 = wishN N (rh N) m → NT h7 (putN nd m d) → DJo h7 → hI h7 437 7 = (m : Int) + 1 → K (nR N (rh N) 0) h7) : w_X14_wish K h := by
  unfold w_X14_wish
  intro h1 eh1 t1 u1
  have eN1 : N = nw h1 := eN.trans (nw_fr (by rw [eh1]; exact sameC_sV (by decide))).symm
  have Rq1 : hI h1 437 3 = q := by rw [eh1, hI_ni (by decide)]; exact Rq
  have Ru1 : hI h1 437 2 = u := by rw [eh1, hI_ni (by decide)]; exact Ru
  have Z1 := NT_s1 eh1 Z
  have CR1 := CaR_s1 T eh1 CR
  have Y1 := Tape_s1 eh1 Z9
  have j7 : hI h1 437 7 = (m : Int) := by rw [eh1, hI_ni (by decide)]; exact i7
  have r3 := rh_lt W
  have wr0 := W.2.1 (rh N) r3
  have L1 := HT_len t1
  refine c_X14_rootAt (by decide) (hr_ eN1 W) r3 ?_
  intro x2 ex2
  rw [← eN1, show (0 : Int).toNat = 0 from rfl] at ex2
  intro rx2
  refine ⟨fun x => bq x (nR N (rh N) 0 < 8), ?_, ?_⟩
  · intro x3 rx3 z4
    refine c_X14_refused z4 ?_
    intro x5 h6 qx5
    intro t6 u6
    intro rx5 vx5
    refine ⟨fun c21 => ?_, fun c21 => ?_⟩
    · obtain ⟨b_, e_⟩ : (nR N (rh N) 0 < 8) ∧ h6 = h1 := by
        rcases qx5 with ⟨_, y, z⟩ | ⟨y, _⟩
        · exact ⟨y, z⟩
        · omega
      subst e_
      have n0 : hI h6 438 0 = N 0 := by rw [eN1]; rfl
      refine c_X14_readNeed t1 ok Y1 ⟨n0, W.1.1, W.1.2.1⟩ ?_
      intro a7 h8 F8 R8_
      intro t8 u8
      refine ⟨fun x => bq x (∃ d, rN (tT L (N 0)) = .inr d), ?_, ?_⟩
      · intro x9 rx9 z10
        refine c_X14_refused z10 ?_
        intro x11 h12 qx11
        intro t12 u12
        intro rx11 vx11
        refine ⟨fun c19 => ?_, fun c19 => ?_⟩
        · obtain ⟨b_3, e_3⟩ : (∃ d, rN (tT L (N 0)) = .inr d) ∧ h12 = h8 := by
            rcases qx11 with ⟨_, y, z⟩ | ⟨y, _⟩
            · exact ⟨y, z⟩
            · omega
          subst e_3
          obtain ⟨d, rd⟩ := b_3
          obtain ⟨d', rd', Nd, p10, al, r1, r2, r3_⟩ := R8_.resolve_left (fun ⟨e, y, _⟩ => by rw [rd] at y; cases y)
          obtain rfl : d = d' := Sum.inr.inj (rd.symm.trans rd')
          have gl := F8.2.1
          have q12 : hI h12 437 3 = q := (congrArg gvI (F8.2.2.2.1 3 (by decide) (by decide) (by decide))).trans Rq1
          have u12' : hI h12 437 2 = u := (congrArg gvI (F8.2.2.2.1 2 (by decide) (by decide) (by decide))).trans Ru1
          have eN12 : N = nw h12 := eN1.trans (nw_fr (F8.1 438 (by omega) (by decide))).symm
          refine c_X14_record B1 t8 q12 u12' ?_
          intro h13 qh13
          intro t13 u13
          have eN13 : N = nw h13 := eN12.trans (nw_fr (qh13.1 438 (by omega) (by decide))).symm
          obtain ⟨NT17, D17, Nd17, fr17, i17⟩ := keepT t1 Z1 CR1 F8 Nd r1 r2 r3_ qh13
          rw [j7] at i17
          refine c_X14_rootAt (by decide) (hr_ eN13 W) r3 ?_
          intro x14 ex14
          rw [← eN13, show (0 : Int).toNat = 0 from rfl] at ex14
          intro rx14
          refine c_X14_keep t13 NT17 D17 Nd17 fr17 (by omega) ?_
          intro h16 K16
          rw [i17] at K16 ⊢
          intro t16 u16
          intro rx15
          have eN16 : N = nw h16 := eN13.trans (nw_fr (K16.1 438 (by have := HT_len t13; omega) (by omega))).symm
          have hb0 : nR N (rh N) 0 < 8 := b_
          rw [ex14, wr_of (x := 1 + nR N (rh N) 0) (by have := wr0.1; omega) (by omega), wr_of (x := nR N (rh N) 0 + 1) (by have := wr0.1; omega) (by omega)]
          refine c_X14_putRoot (by have := wr0.1; omega) (hr_ eN16 W) r3 ?_
          intro h17 eh17
          intro t17 u17
          rw [show (1 + nR N (rh N) 0).toNat = 1 + (nR N (rh N) 0).toNat by have := wr0.1; omega] at eh17
          have n17 := W_nw t16 (by have := wr0.1; omega) ⟨by omega, by omega⟩ eh17 eN16.symm
          refine c_X14_putRoot (r := rh N) (by decide) (by rw [eh17, hI_ni (by have := wr0.1; omega)]; exact hr_ eN16 W) r3 ?_
          intro h18 eh18
          intro t18 u18
          have n18 := W_nw t17 (by have := wr0.1; omega) ⟨by have := wr0.1; omega, by omega⟩ eh18 n17
          obtain ⟨k1_, k2_, k3_, k4_, k5_, k6_⟩ := keptT t13 K16 (k := h18) (by rw [eh18, eh17]; exact Fr_tr (Fr_sV rfl) (by rw [len_sV]; omega) (Fr_sV rfl)) (by rw [eh18, eh17, len_sV, len_sV]) (by rw [eh18, eh17, xhs_sV, xhs_sV])
          rw [Int.toNat_natCast] at k4_
          exact k b_ d rd _ _ _ _ t1 eh1 F8 p10 t8 qh13 t13 k1_ k2_ k3_ n18 k4_ k5_ (by rw [k6_, i17])
        · have q_3 : ¬ (∃ d, rN (tT L (N 0)) = .inr d) ∧ h12 = sI h8 437 5 2 := by
            rcases qx11 with ⟨y, _⟩ | ⟨_, y, z⟩
            · omega
            · exact ⟨y, z⟩
          rcases R8_ with ⟨e, y, y2, y3⟩ | ⟨d, y, -⟩
          · exact kE b_ e y _ _ _ t1 eh1 F8 y3 t8 q_3.2
          · exact absurd ⟨d, y⟩ q_3.1
          skip
      · refine ⟨fun c20 => ?_, fun c20 => ?_⟩
        · rcases R8_ with ⟨e, y, -⟩ | ⟨d, y, Nd, -, y2, -⟩
          · exact bqF (fun ⟨d, z⟩ => by rw [y] at z; cases z)
          · have := Nd.2.2.2.1; omega
        · rcases R8_ with ⟨e, y, y2, -⟩ | ⟨d, y, -⟩
          · exact absurd y2 c20
          · exact bqT ⟨d, y⟩
    · have q_ : ¬ (nR N (rh N) 0 < 8) ∧ h6 = sI h1 437 5 1 := by
        rcases qx5 with ⟨y, _⟩ | ⟨_, y, z⟩
        · omega
        · exact ⟨y, z⟩
      exact k1 q_.1 _ _ t1 eh1 q_.2
  · refine ⟨fun c22 => ?_, fun c22 => ?_⟩
    · exact bqF (by omega)
    · exact bqT (by omega)
theorem d_wish {h : XH} {nd : Nat → ND} {o u : Int} {c : Nat} (T : HT h) (R : Inv h nd o u c) (hc : c < 512) {K : Int → XH → Prop} {J : XH → Prop} (k : ∀ h' nd' o' u', HT h' → Inv h' nd' o' u' (c + 1) → (∀ i, 5000 ≤ i → nd' i = nd i) → Gr (407 + 1) (nTx + nKp) h h' → J h') : w_L_wish (LDw h (fun g Q => w_X14_wish Q g) K J) h := by
  have C := R.1.1
  obtain ⟨L, ok, Z3, Z9⟩ := tapes R
  obtain ⟨m, i7⟩ : ∃ m : Nat, hI h 437 7 = (m : Int) := ⟨(hI h 437 7).toNat, by have := R.1.2.2.1.1; omega⟩
  have hm : m ≤ 511 := by have := R.2.1.2.2.1; omega
  have W : WF (nw h) m := by have := R.1.2.1; rw [i7, Int.toNat_natCast] at this; exact this
  have W1 := WF_up (Nat.le_succ m) W
  obtain ⟨b0, q1, q2, -⟩ := id R.1.2.2.2.1
  have I : ∀ r : Nat, r < 3 → fOK (nw h) (inst (nw h) r) := fun r hr => fOK_of (CS_i C hr)
  have r3 := rh_lt W
  have rb := rc_lt r3
  have wr0 := W.2.1 (rh (nw h)) r3
  refine dsetT3 (S := fun b => b = rc (rh (nw h)) ∨ b = rc (rh (nw h)) + 1) (N' := wishN (nw h) (rh (nw h)) m) (x := nR (nw h) (rh (nw h)) 0) (a1 := 7) (a2 := 1) (a3 := 2) (P1 := True) (P2 := nR (nw h) (rh (nw h)) 0 < 8) (r := rN (tT L (nw h 0))) (L := L) (m := m) (wL := fun Q => w_L_wish Q h) (wR := fun g Q => w_X14_wish Q g) T R (by omega) i7 (fun b y => by omega) Z9 ⟨rgk rfl, rgk rfl, rgk rfl⟩ ⟨by decide, by decide, by decide⟩ (fun _ y2 b => BdN_wish W.1.2.2.2.1 r3 ⟨wr0.1, y2⟩ b) (fun _ y2 => WF_wish W1 r3 y2 ⟨by omega, by omega⟩) (fun Q k0 k1 kE k => ?_) (fun g Tg Z i7' CR Z9' q3' q2' en Q k0 k1 kE k => ?_) k
  · exact c_L_wish T C W b0 q1 q2 R.1.2.2.2.2.1 Z3 ok (k1 trivial) (kE trivial) (k trivial)
  · exact c_X14_wish Tg en.symm W (by omega) q3' q2' I Z i7' hm CR Z9' ok (k1 trivial) (kE trivial) (k trivial)
