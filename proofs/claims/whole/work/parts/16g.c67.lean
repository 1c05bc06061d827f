/-! PIN -/
/-- what a pin says: nothing, or a range that was read -/
def PinR (L : List Int) (np p0 : Int) (m : Nat) (nd : Nat → ND) (x : Int) (nd1 : Nat → ND) : Prop := (L = [] ∧ x = 0 ∧ nd1 = nd) ∨ (¬ L = [] ∧ ∃ d, rW (tT L np) p0 = .inr d ∧ x = (m : Int) + 1 ∧ nd1 = putN nd m d)
def pinM (N : Nat → Int) : Nat := cntN 12 (fun p => decide (0 < nR N (rh N) (10 + p)))
/-- the heap behind a text that is read, if there is one -/
theorem ClF_e {h g : XH} (T : HT h) (z : hI h 3 1 = 0) (e : g = sI h 3 2 (-1)) : ClF h g := by
  refine ⟨by rw [e]; exact Fr_sV (.inl rfl), fun j n1 n2 n6 n7 => by rw [e, el_ni (by omega)], ?_, Gc_0 (by rw [e, len_sV]) (by rw [e, xhs_sV]) _⟩
  rw [e, hI_ni (by decide)]; exact z
theorem RdF_e {h g : XH} (T : HT h) (z : hI h 437 9 = 0) (e : g = sI h 437 10 (-1)) : RdF h g ∧ hI g 437 10 = -1 := by
  refine ⟨⟨by rw [e]; exact Fr_sV (.inl rfl), by rw [e, len_sV]; exact Nat.le_refl _, ⟨by rw [e, len_sV]; omega, by rw [e, xhs_sV]; omega⟩, fun j h1 h2 h3 => by rw [e, el_ni (by omega)], ?_⟩, ?_⟩
  · rw [e, hI_ni (by decide)]; exact z
  · rw [e]; exact hI_eq (by rw [(lstn T).2.2.2.2.1]; decide) (rgk rfl)
/-- the reference has kept nothing -/
theorem keepT0 {h1 g k : XH} {N : Nat → Int} {nd : Nat → ND} {q u : Int} (T : HT h1) (Z : NT h1 nd) (CR : CaR h1 N nd) (F : RdF h1 g) (R : Rrec q u g k) : NT k nd ∧ DJo k ∧ hI k 437 7 = hI h1 437 7 := by
  have L := HT_len T
  have gl := F.2.1
  have s : ∀ b, b < h1.length → ¬ b = 437 → ¬ b = 439 → ¬ (443 ≤ b ∧ b < 446) → sameC h1 k b := fun b hb n1 n2 n3 => sameC_tr (F.1 b hb (by omega)) (R.1 b (by omega) (by omega))
  have e : ∀ j, (6 ≤ j ∧ j ≤ 7) ∨ 24 ≤ j → el k 437 j = el h1 437 j := fun j hj => (R.2.2.2.2.2.1 j (by omega) (by omega) (by omega)).trans (F.2.2.2.1 j (by omega) (by omega) (by omega))
  exact ⟨NT_fr (fun b x y => s b y (by omega) (by omega) (by omega)) (s 440 (by omega) (by decide) (by decide) (by decide)) (congrArg gvR (e 6 (by omega))) (congrArg gvI (e 7 (by omega))) Z, DJo_fr (fun b x y => s b y (by omega) (by omega) (by omega)) L (fun j hj => e j (by unfold owP at hj; omega)) CR.2.1.2, congrArg gvI (e 7 (by omega))⟩
/-- kept or not -/
def KpQ (h g : XH) (nd1 : Nat → ND) (x : Int) : Prop := Fr (fun b => b = 437 ∨ b = 440 ∨ (468 ≤ b ∧ hk h b = 106)) h g ∧ h.length ≤ g.length ∧ Gr 1 nKp h g ∧ (∀ j, ¬ j = 6 → ¬ j = 7 → el g 437 j = el h 437 j) ∧ hI g 437 7 = hI h 437 7 + (if x = 0 then 0 else 1) ∧ NT g nd1 ∧ DJo g
theorem keptQ {h5 g7 k : XH} {nd1 : Nat → ND} {x : Int} (T : HT h5) (F : KpQ h5 g7 nd1 x) (f : Fr (fun b => b = 438) g7 k) (l : k.length = g7.length) (y : xhs k = xhs g7) : Fr (fun b => b = 437 ∨ b = 438 ∨ b = 440 ∨ (468 ≤ b ∧ hk h5 b = 106)) h5 k ∧ (∀ j, ¬ j = 6 → ¬ j = 7 → el k 437 j = el h5 437 j) ∧ Gr 1 nKp h5 k ∧ NT k nd1 ∧ DJo k ∧ hI k 437 7 = hI h5 437 7 + (if x = 0 then 0 else 1) := by
  have L := HT_len T
  obtain ⟨f1, f2, f3, f4, f5, f6, f7⟩ := F
  have s37 : sameC g7 k 437 := f 437 (by omega) (by decide)
  exact ⟨fun b hb n => sameC_tr (f1 b hb (by omega)) (f b (by omega) (by omega)), fun j n6 n7 => (sameC_el s37 j).trans (f4 j n6 n7), ⟨by have := f3.1; omega, by have := f3.2; omega⟩, NT_fr (fun b x y => f b y (by omega)) (f 440 (by omega) (by decide)) (sameC_R s37 6) (sameC_I s37 7) f6, DJo_fr (fun b x y => f b y (by omega)) (by omega) (fun j _ => sameC_el s37 j) f7, (sameC_I s37 7).trans f5⟩
set_option maxHeartbeats 1000000 in
theorem c_X5_isEmptyText {L : List Int} {h : XH} (T : HT h) (Z3 : Tape h 3 1 4 L) {K : Int → XH → Prop} (k : ∀ x g, bq x (L = []) → (¬ L = [] → g = h) → (L = [] → ClF h g ∧ hI g 3 2 = -1) → K x g) : w_X5_isEmptyText K h := by
  unfold w_X5_isEmptyText
  have z1 := Z3.1
  have zl : hI h 3 1 = 0 ↔ L = [] := by rw [z1]; cases L with | nil => simp | cons a l => simp; omega
  refine ⟨fun g => (¬ L = [] ∧ g = h) ∨ (L = [] ∧ ClF h g ∧ hI g 3 2 = -1), ?_, ?_⟩
  · intro h1 t1 s1 z2
    have z11 : hI h1 3 1 = hI h 3 1 := by
      rcases z2 with ⟨-, e⟩ | ⟨y, F, -⟩
      · rw [e]
      · rw [F.2.2.1]; exact (zl.mpr y).symm
    refine ⟨fun x => bq x (L = []), ?_, ?_⟩
    · intro x3 rx3 z4
      refine ⟨(by rcases z4 with y | y; exact .inr y.1; exact .inl y.1), ?_⟩
      rcases z2 with ⟨y, e⟩ | ⟨y, F, e⟩
      · exact k _ _ z4 (fun _ => e) (fun z => (y z).elim)
      · exact k _ _ z4 (fun z => (z y).elim) (fun _ => ⟨F, e⟩)
    · refine ⟨fun c6 => ?_, fun c6 => ?_⟩
      · exact bqF (fun y => c6 (z11.trans (zl.mpr y)))
      · exact bqT (zl.mp (z11.symm.trans (Decidable.not_not.mp c6)))
  · refine ⟨fun c8 => ?_, fun c8 => ?_⟩
    · exact .inl ⟨fun y => c8 (zl.mpr y), rfl⟩
    · intro h7 eh7 t7 u7
      have y := zl.mp (Decidable.not_not.mp c8)
      refine .inr ⟨y, ClF_e T (zl.mpr y) eh7, ?_⟩
      rw [eh7]; exact hI_eq (n3_ T rfl) (rgk rfl)
set_option maxHeartbeats 1000000 in
theorem c_X6_pinCount {t : Nat} {h : XH} {K : Int → Prop} (k : K (cntN 12 (fun p => !decide (hR h (t + 2) p = 0)) : Nat)) : w_X6_pinCount t K h := by
  unfold w_X6_pinCount
  refine ⟨fun x y => ∃ n : Nat, y = (n : Int) ∧ n ≤ 12 ∧ x = (cntN n (fun p => !decide (hR h (t + 2) p = 0)) : Nat), fun _ y => (12 - y).toNat, ?_, ?_⟩
  · exact ⟨0, rfl, Nat.zero_le _, rfl⟩
  · intro x1 x2 rx1 rx2 z3
    obtain ⟨n, en, ln, xn⟩ := z3
    have cl := cntN_le (fun p => !decide (hR h (t + 2) p = 0)) n
    refine ⟨fun c10 => ?_, fun c10 => ?_⟩
    · have : n = 12 := by omega
      rw [xn, this]; exact k
    · refine ⟨(by omega), ?_⟩
      refine ⟨fun x => x = if (!decide (hR h (t + 2) n = 0)) = true then 1 else 0, ?_, ?_⟩
      · intro x5 rx5 z6
        intro x7 ex7 rx7
        intro x8 ex8 rx8
        refine ⟨⟨n + 1, ?_, by omega, ?_⟩, ?_⟩
        · rw [ex8, wr_of (by omega) (by omega)]; omega
        · rw [cntN_1, ex7, z6, xn]
          split
          · rw [wr_of (by omega) (by omega)]; omega
          · rw [wr_of (by omega) (by omega)]; omega
        · dsimp only
          rw [ex8, wr_of (by omega) (by omega)]; omega
      · refine ⟨fun c9 => ?_, fun c9 => ?_⟩
        · rw [en, Int.toNat_natCast] at c9
          rw [decide_eq_true c9]; rfl
        · rw [en, Int.toNat_natCast] at c9
          rw [decide_eq_false c9]; rfl
set_option maxHeartbeats 2000000 in
theorem c_X12_pin {p0 : Int} {h : XH} {N : Nat → Int} {nd : Nat → ND} {m : Nat} {o u : Int} (T : HT h) (C : CS h 8 N nd) (W : WF N m) (B0 : 0 ≤ o ∧ o < 10 ∧ 0 ≤ u ∧ u ≤ 10) (Bo : hI h 2 9 = o) (Bu : hI h 2 10 = u) (Bs : hI h 43 2 = 10) {L : List Int} (Z3 : Tape h 3 1 4 L) (ok : LOK L) {K : Int → XH → Prop} {E : Nat → XH → Prop} (k0 : ¬ (0 ≤ p0 ∧ p0 < N 0) → E 2 (nT h)) (kE : (0 ≤ p0 ∧ p0 < N 0) → ¬ L = [] → ∀ e, rW (tT L (N 0)) p0 = .inl e → ∀ g, ClF h g → hI g 3 2 = e → HT g → E 1 (nT g)) (k : (0 ≤ p0 ∧ p0 < N 0) → ∀ x nd1, PinR L (N 0) p0 m nd x nd1 → ∀ g h2 h4, ClF h g → hI g 3 2 = -1 → HT g → Rmb o u g h2 → HT h2 → Fr (fun b => b = rc (rh N) + 2) h2 h4 → h4.length = h2.length → xhs h4 = xhs h2 → HT h4 → CS h4 8 (pinN N (rh N) p0.toNat x) nd1 → K (pinM (pinN N (rh N) p0.toNat x) : Nat) h4) : w_X12_pin p0 K E h := by
  unfold w_X12_pin
  refine c_X12_checkPack (fun q => k0 (by rw [(V80 C.1).1] at q; exact q)) (fun q1 q2 => ?_)
  rw [(V80 C.1).1] at q2
  have b12 := W.1.2.1
  have r3 := rh_lt W
  have rb := rc_lt r3
  have L0 := HT_len T
  have wr0 := W.2.1 (rh N) r3
  refine c_X5_isEmptyText T Z3 ?_
  intro x1 h2 qx1 n2 f2
  intro t2 u2
  intro rx1 vx1
  refine ⟨fun a g => ∃ x nd1, PinR L (N 0) p0 m nd x nd1 ∧ ClF h g ∧ hI g 3 2 = -1 ∧ (x = 0 ∧ a = 0 ∨ 0 < x ∧ x ≤ ((m + 1 : Nat) : Int) ∧ SpanR g a (nd1 (x - 1).toNat)), ?_, ?_⟩
  · intro a3 h4 t4 s4 z5
    obtain ⟨x, nd1, PR, F4, p4, SA⟩ := z5
    have C4 := ClF_C T F4 W C
    obtain ⟨b1, b2, b3⟩ := ClF_r T F4 Bo Bu Bs
    have agr : ∀ i, i < m → nd1 i = nd i := fun i hi => by
      rcases PR with ⟨-, -, e⟩ | ⟨-, d, -, -, e⟩
      · rw [e]
      · rw [e]; unfold putN; rw [if_neg (by omega)]
    refine c_X12_remember B0 t4 b1 b2 b3 ?_
    intro h6 qh6
    intro t6 u6
    have C6 : CS h6 8 N nd1 := CS_nd W agr (Rmb_CS t4 qh6 B0 W C4)
    have W1 := WF_up (Nat.le_succ m) W
    have SA6 : x = 0 ∧ a3 = 0 ∨ 0 < x ∧ x ≤ ((m + 1 : Nat) : Int) ∧ SpanR h6 a3 (nd1 (x - 1).toNat) := SA.imp id (fun y => ⟨y.1, y.2.1, SpanR_fr (Rmb_txt t4 B0 qh6) y.2.2⟩)
    refine c_atH C6 W ?_
    refine ⟨(rc_k t6 r3), ?_⟩
    refine ⟨(by omega), ?_⟩
    refine ⟨(by
      rcases SA6 with y | y
      · exact .inl y.2
      · refine .inr ?_
        have S := y.2.2
        unfold SpanR nrm at S
        cases z : ((nd1 (x - 1).toNat).2.headD (0, [])).2 with
        | nil => rw [z] at S; exact S.1
        | cons b l => rw [z] at S; exact S.1), ?_⟩
    intro h11 eh11 t11 u11
    obtain ⟨c1, c2⟩ := CS_pin (p0 := p0.toNat) t6 C6 W1 r3 (by omega) SA6 eh11 (by rw [(rc_1n t6 r3).2]; exact Nat.le_refl _)
    have rh1 : rh (pinN N (rh N) p0.toNat x) = rh N := by unfold rh; rw [pin_at _ (by omega)]
    have W11 := c2
    refine c_atH c1 c2 ?_
    rw [rh1]
    refine ⟨(rc_k t11 r3), ?_⟩
    refine c_X6_pinCount ?_
    have ec : cntN 12 (fun p => !decide (hR h11 (rc (rh N) + 2) p = 0)) = pinM (pinN N (rh N) p0.toNat x) := by
      unfold pinM
      refine cntN_cg 12 (fun p hp => ?_)
      have a4 := (R8 (c1.2.2.1 _ r3)).2.2.2.1 p hp
      rw [rh1]
      rcases a4 with ⟨y1, y2⟩ | ⟨y1, y2⟩
      · rw [decide_eq_true y2, decide_eq_false (by omega)]; rfl
      · rw [decide_eq_false (SpanR_nz t11 y2), decide_eq_true y1]; rfl
    rw [ec]
    intro _
    exact k ⟨q1, q2⟩ x nd1 PR _ _ _ F4 p4 t4 qh6 t6 (by rw [eh11]; exact Fr_sV rfl) (by rw [eh11, len_sV]) (by rw [eh11, xhs_sV]) t11 c1
  · refine ⟨fun c17 => ?_, fun c17 => ?_⟩
    · have ne := (bq1 qx1).2.1.mp c17
      obtain rfl := n2 ne
      refine c_X12_checkedRange (p := p0) T C W Z3 ok (fun e g re F p Tg => kE ⟨q1, q2⟩ ne e re g F p Tg) ?_
      intro d a15 h16 rd F16 p16 S16 a0 t16 u16
      intro _ _
      refine ⟨(m : Int) + 1, putN nd m d, .inr ⟨ne, d, rd, rfl, rfl⟩, F16, p16, .inr ⟨by omega, by omega, ?_⟩⟩
      unfold putN
      rw [if_pos (by omega)]
      exact S16
    · have e := (bq1 qx1).2.2.1.mp c17
      exact ⟨0, nd, .inl ⟨e, rfl, rfl⟩, (f2 e).1, (f2 e).2, .inl ⟨rfl, rfl⟩⟩
set_option maxHeartbeats 1000000 in
theorem c_L_pin {p1 : Int} {h : XH} {N : Nat → Int} {nd : Nat → ND} {m : Nat} {o u : Int} (T : HT h) (C : CS h 8 N nd) (W : WF N m) (B0 : 0 ≤ o ∧ o < 10 ∧ 0 ≤ u ∧ u ≤ 10) (Bo : hI h 2 9 = o) (Bu : hI h 2 10 = u) (Bs : hI h 43 2 = 10) {L : List Int} (Z3 : Tape h 3 1 4 L) (ok : LOK L) {K : Int → XH → Prop} (k0 : ¬ (0 ≤ p1 ∧ p1 < N 0) → K 1 (nT h)) (kE : (0 ≤ p1 ∧ p1 < N 0) → ¬ L = [] → ∀ e, rW (tT L (N 0)) p1 = .inl e → ∀ g, ClF h g → hI g 3 2 = e → HT g → K 2 (nT g)) (k : (0 ≤ p1 ∧ p1 < N 0) → ∀ x nd1, PinR L (N 0) p1 m nd x nd1 → ∀ g h2 h4 h5, ClF h g → hI g 3 2 = -1 → HT g → Rmb o u g h2 → HT h2 → Fr (fun b => b = rc (rh N) + 2) h2 h4 → h4.length = h2.length → xhs h4 = xhs h2 → HT h4 → CS h4 8 (pinN N (rh N) p1.toNat x) nd1 → h5 = sL h4 467 0 (i2l (pinM (pinN N (rh N) p1.toNat x) : Nat)) → K 0 h5) : w_L_pin p1 K h := by
  unfold w_L_pin
  refine c_X12_pin T C W B0 Bo Bu Bs Z3 ok (fun q => .inl ⟨rfl, k0 q⟩) (fun q ne e re g F p Tg => .inr ⟨rfl, kE q ne e re g F p Tg⟩) (fun q x nd1 pr g h2 h4 F p Tg r2 t2 f l y t4 c => ?_)
  intro tx ux _
  intro h5 eh5 t5 u5
  exact k q x nd1 pr _ _ _ _ F p Tg r2 t2 f l y t4 c eh5
set_option maxHeartbeats 4000000 in
theorem c_X14_pin {p0 : Int} {h : XH} {N : Nat → Int} {m : Nat} {q u : Int} (T : HT h) (eN : N = nw h) (W : WF N m) (B1 : 0 ≤ q ∧ q < 10 ∧ 0 ≤ u ∧ u ≤ 10) (Rq : hI h 437 3 = q) (Ru : hI h 437 2 = u) {nd : Nat → ND} {L : List Int} (I : ∀ r : Nat, r < 3 → fOK N (inst N r)) (Z : NT h nd) (i7 : hI h 437 7 = (m : Int)) (hm : m ≤ 511) (CR : CaR h N nd) (Z9 : Tape h 437 9 441 L) (ok : LOK L) {K : Int → XH → Prop} (k0 : ¬ (0 ≤ p0 ∧ p0 < N 0) → ∀ h1 h2, HT h1 → h1 = sI h 437 5 0 → h2 = sI h1 437 5 1 → K 0 h2) (kE : (0 ≤ p0 ∧ p0 < N 0) → ¬ L = [] → ∀ e, rW (tT L (N 0)) p0 = .inl e → ∀ h1 h2 h3, HT h1 → h1 = sI h 437 5 0 → RdF h1 h2 → hI h2 437 10 = e → HT h2 → h3 = sI h2 437 5 2 → K 0 h3) (k : (0 ≤ p0 ∧ p0 < N 0) → ∀ x nd1, PinR L (N 0) p0 m nd x nd1 → ∀ h1 h2 h5 h7, HT h1 → h1 = sI h 437 5 0 → RdF h1 h2 → hI h2 437 10 = -1 → HT h2 → Rrec q u h2 h5 → HT h5 → Fr (fun b => b = 437 ∨ b = 438 ∨ b = 440 ∨ (468 ≤ b ∧ hk h5 b = 106)) h5 h7 → (∀ j, ¬ j = 6 → ¬ j = 7 → el h7 437 j = el h5 437 j) → Gr 1 nKp h5 h7 → nw h7 = pinN N (rh N) p0.toNat x → NT h7 nd1 → DJo h7 → hI h7 437 7 = (m : Int) + (if x = 0 then 0 else 1) → K (pinM (pinN N (rh N) p0.toNat x) : Nat) h7) : w_X14_pin p0 K h := by
  unfold w_X14_pin
  intro h1 eh1 t1 u1
  have eN1 : N = nw h1 := eN.trans (nw_fr (by rw [eh1]; exact sameC_sV (by decide))).symm
  have Rq1 : hI h1 437 3 = q := by rw [eh1, hI_ni (by decide)]; exact Rq
  have Ru1 : hI h1 437 2 = u := by rw [eh1, hI_ni (by decide)]; exact Ru
  have Z1 := NT_s1 eh1 Z
  have CR1 := CaR_s1 T eh1 CR
  have Y1 := Tape_s1 eh1 Z9
  have j7 : hI h1 437 7 = (m : Int) := by rw [eh1, hI_ni (by decide)]; exact i7
  have r3 := rh_lt W
  have L1 := HT_len t1
  have zl : hI h1 437 9 = 0 ↔ L = [] := by rw [Y1.1]; cases L with | nil => simp | cons a l => simp; omega
  refine c_X14_isPack ?_ (by rw [show hI h1 438 0 = N 0 by rw [eN1]; rfl]; exact W.1.1)
  intro x2 qx2
  rw [show hI h1 438 0 = N 0 by rw [eN1]; rfl] at qx2
  have b12 := W.1.2.1
  intro rx2 vx2
  refine c_X14_refused qx2 ?_
  intro x3 h4 qx3
  intro t4 u4
  intro rx3 vx3
  refine ⟨fun c40 => ?_, fun c40 => ?_⟩
  · obtain ⟨b_, e_⟩ : ((0 ≤ p0 ∧ p0 < N 0)) ∧ h4 = h1 := by
      rcases qx3 with ⟨_, y, z⟩ | ⟨y, _⟩
      · exact ⟨y, z⟩
      · omega
    subst e_
    refine ⟨fun x => bq x (L = []), ?_, ?_⟩
    · intro x5 rx5 z6
      refine ⟨fun a g => RdF h4 g ∧ hI g 437 10 = -1 ∧ ((L = [] ∧ x5 = 1) ∨ (¬ L = [] ∧ x5 = 0 ∧ ∃ d, rW (tT L (N 0)) p0 = .inr d ∧ NeedR g a d ∧ h4.length ≤ hR g a 1 ∧ h4.length ≤ hR g a 2 ∧ h4.length ≤ hR g a 3)), ?_, ?_⟩
      · intro a7 h8 t8 s8 z9
        obtain ⟨F8, p10, z9⟩ := z9
        have gl := F8.2.1
        have q12 : hI h8 437 3 = q := (congrArg gvI (F8.2.2.2.1 3 (by decide) (by decide) (by decide))).trans Rq1
        have u12' : hI h8 437 2 = u := (congrArg gvI (F8.2.2.2.1 2 (by decide) (by decide) (by decide))).trans Ru1
        have eN8 : N = nw h8 := eN1.trans (nw_fr (F8.1 438 (by omega) (by decide))).symm
        refine c_X14_record B1 t8 q12 u12' ?_
        intro h10 qh10
        intro t10 u10
        have eN10 : N = nw h10 := eN8.trans (nw_fr (qh10.1 438 (by omega) (by decide))).symm
        obtain ⟨NT10, D10, i10⟩ := keepT0 t1 Z1 CR1 F8 qh10
        rw [j7] at i10
        refine ⟨fun x g => ∃ nd1, PinR L (N 0) p0 m nd x nd1 ∧ KpQ h10 g nd1 x, ?_, ?_⟩
        · intro x11 h12 t12 s12 rx11 z13
          obtain ⟨nd1, PR, K12⟩ := z13
          have xb : 0 ≤ x11 ∧ x11 ≤ (m : Int) + 1 := by
            rcases PR with ⟨-, e, -⟩ | ⟨-, d, -, e, -⟩ <;> omega
          have eN12 : N = nw h12 := eN10.trans (nw_fr (K12.1 438 (by have := HT_len t10; omega) (by omega))).symm
          rw [wr_of (x := 10 + p0) (by omega) (by omega)]
          refine c_X14_putRoot (by have := b_.2; omega) (hr_ eN12 W) r3 ?_
          intro h14 eh14
          intro t14 u14
          rw [show (10 + p0).toNat = 10 + p0.toNat by omega] at eh14
          have n14 := W_nw t12 (by have := b_.2; omega) ⟨by omega, by omega⟩ eh14 eN12.symm
          have wM : WF (pinN N (rh N) p0.toNat x11) (m + 1) := WF_pin (WF_up (Nat.le_succ m) W) r3 (by omega) ⟨xb.1, by omega⟩
          have rh1 : rh (pinN N (rh N) p0.toNat x11) = rh N := by unfold rh; rw [pin_at _ (by omega)]
          have hr14 : hI h14 438 1 = (rh N : Nat) := by rw [← rh1]; exact hr_ (N := pinN N (rh N) p0.toNat x11) n14.symm wM
          refine ⟨fun x y => ∃ n : Nat, y = (n : Int) ∧ n ≤ 12 ∧ x = (cntN n (fun p => decide (0 < nR (pinN N (rh N) p0.toNat x11) (rh N) (10 + p))) : Nat), fun _ y => (12 - y).toNat, ?_, ?_⟩
          · exact ⟨0, rfl, Nat.zero_le _, rfl⟩
          · intro x16 x17 rx16 rx17 z18
            obtain ⟨n, en, ln, xn⟩ := z18
            have cl := cntN_le (fun p => decide (0 < nR (pinN N (rh N) p0.toNat x11) (rh N) (10 + p))) n
            refine ⟨fun c25 => ?_, fun c25 => ?_⟩
            · have n12 : n = 12 := by omega
              obtain ⟨k1_, k2_, k3_, k4_, k5_, k6_⟩ := keptQ t10 K12 (k := h14) (by rw [eh14]; exact Fr_sV rfl) (by rw [eh14, len_sV]) (by rw [eh14, xhs_sV])
              have ex : x16 = (pinM (pinN N (rh N) p0.toNat x11) : Nat) := by rw [xn, n12]; unfold pinM; rw [rh1]
              rw [ex]
              exact k b_ x11 nd1 PR _ _ _ _ t1 eh1 F8 p10 t8 qh10 t10 k1_ k2_ k3_ n14 k4_ k5_ (by rw [k6_, i10])
            · rw [wr_of (x := 10 + x17) (by omega) (by omega)]
              refine c_X14_rootAt (by omega) hr14 r3 ?_
              intro x19 ex19
              have e19 : x19 = nR (pinN N (rh N) p0.toNat x11) (rh N) (10 + n) := by rw [ex19, n14, show (10 + x17).toNat = 10 + n by omega]; rfl
              intro rx19
              refine ⟨fun x => x = if decide (0 < nR (pinN N (rh N) p0.toNat x11) (rh N) (10 + n)) = true then 1 else 0, ?_, ?_⟩
              · intro x20 rx20 z21
                intro x22 ex22 rx22
                intro x23 ex23 rx23
                refine ⟨⟨n + 1, ?_, by omega, ?_⟩, ?_⟩
                · rw [ex23, wr_of (by omega) (by omega)]; omega
                · rw [cntN_1, ex22, z21, xn]
                  split
                  · rw [wr_of (by omega) (by omega)]; omega
                  · rw [wr_of (by omega) (by omega)]; omega
                · dsimp only
                  rw [ex23, wr_of (by omega) (by omega)]; omega
              · refine ⟨fun c24 => ?_, fun c24 => ?_⟩
                · rw [decide_eq_false (by omega)]; rfl
                · rw [decide_eq_true (by omega)]; rfl
        · refine ⟨fun c28 => ?_, fun c28 => ?_⟩
          · obtain ⟨ne, -, d, rd, Nd, r1, r2, r3_⟩ := z9.resolve_left (fun y => by omega)
            obtain ⟨NT17, D17, Nd17, fr17, -⟩ := keepT t1 Z1 CR1 F8 Nd r1 r2 r3_ qh10
            refine c_X14_keep t10 NT10 D10 Nd17 fr17 (by omega) ?_
            intro h27 K27
            rw [i10] at K27 ⊢
            intro t27 u27
            intro rx26
            rw [wr_of (by omega) (by omega)]
            obtain ⟨k1_, k2_, k3_, k4_, k5_, k6_, k7_⟩ := K27
            rw [Int.toNat_natCast] at k6_
            exact ⟨putN nd m d, .inr ⟨ne, d, rd, rfl, rfl⟩, k1_, k2_, k3_, k4_, by rw [if_neg (by omega)]; exact k5_, k6_, k7_⟩
          · rcases z9 with ⟨e, -⟩ | ⟨-, e, -⟩
            · exact ⟨nd, .inl ⟨e, rfl, rfl⟩, Fr_rf _ _, Nat.le_refl _, Gr_mono (Gr_rf _) (by omega) (by omega), fun _ _ _ => rfl, by rw [if_pos rfl, Int.add_zero], NT10, D10⟩
            · exact absurd e c28
      · refine ⟨fun c38 => ?_, fun c38 => ?_⟩
        · have ne := (bq1 z6).2.1.mp c38
          have n0 : hI h4 438 0 = N 0 := by rw [eN1]; rfl
          have p12 : 0 ≤ p0 ∧ p0 < 12 := ⟨b_.1, by have := b_.2; omega⟩
          refine c_X14_readRangeOf p12 t1 ok Y1 ⟨n0, W.1.1, W.1.2.1⟩ ?_
          intro a29 h30 F30 R30
          intro t30 u30
          refine ⟨fun x => bq x (∃ d, rW (tT L (N 0)) p0 = .inr d), ?_, ?_⟩
          · intro x31 rx31 z32
            refine c_X14_refused z32 ?_
            intro x33 h34 qx33
            intro t34 u34
            intro rx33 vx33
            refine ⟨fun c35 => ?_, fun c35 => ?_⟩
            · obtain ⟨b_3, e_3⟩ : (∃ d, rW (tT L (N 0)) p0 = .inr d) ∧ h34 = h30 := by
                rcases qx33 with ⟨_, y, z⟩ | ⟨y, _⟩
                · exact ⟨y, z⟩
                · omega
              subst e_3
              obtain ⟨d, rd⟩ := b_3
              obtain ⟨d', rd', Nd, p10, al, r1, r2, r3_⟩ := R30.resolve_left (fun ⟨e, y, _⟩ => by rw [rd] at y; cases y)
              obtain rfl : d = d' := Sum.inr.inj (rd.symm.trans rd')
              exact ⟨F30, p10, .inr ⟨ne, c38, d, rd, Nd, r1, r2, r3_⟩⟩
            · have q_3 : ¬ (∃ d, rW (tT L (N 0)) p0 = .inr d) ∧ h34 = sI h30 437 5 2 := by
                rcases qx33 with ⟨y, _⟩ | ⟨_, y, z⟩
                · omega
                · exact ⟨y, z⟩
              rcases R30 with ⟨e, y, y2, y3⟩ | ⟨d, y, -⟩
              · exact kE b_ ne e y _ _ _ t1 eh1 F30 y3 t30 q_3.2
              · exact absurd ⟨d, y⟩ q_3.1
              skip
          · refine ⟨fun c36 => ?_, fun c36 => ?_⟩
            · rcases R30 with ⟨e, y, -⟩ | ⟨d, y, Nd, -, y2, -⟩
              · exact bqF (fun ⟨d, z⟩ => by rw [y] at z; cases z)
              · have := Nd.2.2.2.1; omega
            · rcases R30 with ⟨e, y, y2, -⟩ | ⟨d, y, -⟩
              · exact absurd y2 c36
              · exact bqT ⟨d, y⟩
        · intro h37 eh37 t37 u37
          have e := (bq1 z6).2.2.1.mp c38
          obtain ⟨y1, y2⟩ := RdF_e t1 (zl.mpr e) eh37
          exact ⟨y1, y2, .inl ⟨e, by rcases z6 with y | y; exact y.1; exact absurd e y.2⟩⟩
    · refine ⟨fun c39 => ?_, fun c39 => ?_⟩
      · exact bqF (fun y => c39 (zl.mpr y))
      · exact bqT (zl.mp (Decidable.not_not.mp c39))
  · have q_ : ¬ ((0 ≤ p0 ∧ p0 < N 0)) ∧ h4 = sI h1 437 5 1 := by
      rcases qx3 with ⟨y, _⟩ | ⟨_, y, z⟩
      · omega
      · exact ⟨y, z⟩
    exact k0 q_.1 _ _ t1 eh1 q_.2
