/-! OPTION -/
theorem popc_orN (P : Nat → Bool) {n : Nat} (h : n ≤ 64) : popc (orN n P) = cntN n P := by
  unfold popc
  rw [cntN_cg (g := (orN n P).getLsbD) (k := fun j => decide (j < n) && P j) 64 (fun i _ => orN_at P i n h)]
  rw [cntN_ex (P := fun j => decide (j < n) && P j) (n := n) 64 h (fun i h1 _ => by rw [decide_eq_false (by omega)]; rfl)]
  exact cntN_cg n (fun i hi => by rw [decide_eq_true hi, Bool.true_and])
theorem rM_ok {L : List Int} {np : Int} (ok : LOK L) {k j : Nat} {M : List At1} (e : rM (tT L np) k = .inr (M, j)) : ndOK (0, M) := by
  obtain ⟨a1, a2, a3, a4⟩ := rM_c ok k M j e
  exact ⟨.inl rfl, a4, fun z => by dsimp only at z; omega, fun a ha => ⟨(a1 a ha).1, (a1 a ha).2.2.1, (a1 a ha).2.2.2⟩, by dsimp only; omega⟩
theorem rN_ok {L : List Int} {np : Int} (ok : LOK L) {d : ND} (e : rN (tT L np) = .inr d) : ndOK d := by
  by_cases c : (tT L np 0).1 = 2 ∧ (tT L np 1).1 = 35
  · rw [rN_sw c.1 c.2] at e
    obtain ⟨z, -, -⟩ := tT_k (np := np) ok 0
    have w := (tT_k (np := np) ok 0).2.2.1 c.1
    unfold raS at e
    rw [if_neg (c := ¬ (tT L np 0).1 = 2) (fun y => y c.1)] at e
    by_cases b : isR (tT L np 2).1 = true
    · rw [if_pos b] at e
      cases r : rG (tT L np) 2 200 with
      | inl z => rw [r] at e; cases e
      | inr z =>
        obtain ⟨l, j⟩ := z
        obtain ⟨g1, -⟩ := rG_c ok _ _ _ r
        rw [r] at e
        have e2 : (if (tT L np j).1 = 0 then .inr (1, [((tT L np 0).2.2, l)]) else .inl (tT L np j).2.1 : Int ⊕ ND) = .inr d := e
        by_cases q : (tT L np j).1 = 0
        · rw [if_pos q] at e2
          rw [← Sum.inr.inj e2]
          exact ⟨.inr rfl, by simp, fun _ => rfl, fun a ha => by rw [List.mem_singleton.mp ha]; exact ⟨w.1, w.2.2, g1⟩, by simp⟩
        · rw [if_neg q] at e2; cases e2
    · rw [if_neg b] at e
      have e2 : (if (tT L np 2).1 = 0 then .inr (1, [((tT L np 0).2.2, [])]) else .inl (tT L np 2).2.1 : Int ⊕ ND) = .inr d := e
      by_cases q : (tT L np 2).1 = 0
      · rw [if_pos q] at e2
        rw [← Sum.inr.inj e2]
        exact ⟨.inr rfl, by simp, fun _ => rfl, fun a ha => by rw [List.mem_singleton.mp ha]; exact ⟨w.1, w.2.2, fun q hq => by cases hq⟩, by simp⟩
      · rw [if_neg q] at e2; cases e2
  · rw [rN_ns c] at e
    cases r : rM (tT L np) 200 with
    | inl z => rw [r] at e; cases e
    | inr z =>
      obtain ⟨M, j⟩ := z
      rw [r] at e
      have e2 : (if (tT L np j).1 = 0 then .inr (0, M) else .inl (tT L np j).2.1 : Int ⊕ ND) = .inr d := e
      by_cases q : (tT L np j).1 = 0
      · rw [if_pos q] at e2
        rw [← Sum.inr.inj e2]
        exact rM_ok ok r
      · rw [if_neg q] at e2; cases e2
/-- how many versions of a package have the option -/
def optM (M : Nat → Int) (p : Nat) : Nat := cntN (vc M) (fun v => decide (nV M v 0 = p) && decide (0 < nV M v 6))
theorem DK_put {nd : Nat → ND} {m : Nat} {d : ND} (z : DK nd m) (y : ndOK d) : DK (putN nd m d) (m + 1) := fun i hi => by
  unfold putN
  by_cases c : i = m
  · rw [if_pos c]; exact y
  · rw [if_neg c]; exact z i (by omega)
set_option maxHeartbeats 2000000 in
theorem c_X12_option {p0 p1 : Int} {h : XH} {N : Nat → Int} {nd : Nat → ND} {m : Nat} {o u : Int} (T : HT h) (C : CS h 8 N nd) (W : WF N m) (B0 : 0 ≤ o ∧ o < 10 ∧ 0 ≤ u ∧ u ≤ 10) (Bo : hI h 2 9 = o) (Bu : hI h 2 10 = u) (Bs : hI h 43 2 = 10) {L : List Int} (Z3 : Tape h 3 1 4 L) (ok : LOK L) (dk : DK nd m) {K : Int → XH → Prop} {E : Nat → XH → Prop} (k0 : ¬ ((0 ≤ p0 ∧ p0 < N 0) ∧ ¬ slotF N p0 p1 = -1) → E 2 (nT h)) (k1 : ((0 ≤ p0 ∧ p0 < N 0) ∧ ¬ slotF N p0 p1 = -1) → ¬ (nV N (slotF N p0 p1).toNat 6 = 0 ∧ ¬ inUse N (slotF N p0 p1).toNat) → E 0 (nT h)) (kE : ((0 ≤ p0 ∧ p0 < N 0) ∧ ¬ slotF N p0 p1 = -1) → (nV N (slotF N p0 p1).toNat 6 = 0 ∧ ¬ inUse N (slotF N p0 p1).toNat) → ∀ e, rN (tT L (N 0)) = .inl e → ∀ g, ClF h g → hI g 3 2 = e → HT g → E 1 (nT g)) (k : ((0 ≤ p0 ∧ p0 < N 0) ∧ ¬ slotF N p0 p1 = -1) → (nV N (slotF N p0 p1).toNat 6 = 0 ∧ ¬ inUse N (slotF N p0 p1).toNat) → ∀ d, rN (tT L (N 0)) = .inr d → ∀ g h2 h4, ClF h g → hI g 3 2 = -1 → HT g → Rmb o u g h2 → HT h2 → Fr (fun b => b = 26) h2 h4 → h4.length = h2.length → xhs h4 = xhs h2 → HT h4 → CS h4 8 (optN N (slotF N p0 p1).toNat m) (putN nd m d) → K ((optM (optN N (slotF N p0 p1).toNat m) p0.toNat : Nat)) h4) : w_X12_option p0 p1 K E h := by
  unfold w_X12_option
  refine c_X12_checkedId T C W k0 (fun q => ?_)
  intro _
  have sv := slot_v W.1 q.2
  have sr := slotF_r (N := N) (p := p0) (c := p1) W.1.2.2.1
  have v40 : (slotF N p0 p1).toNat < 40 := by have := W.1.2.2.2.1; have := sv.1; unfold vc at this; omega
  have a7 : nV N (slotF N p0 p1).toNat 6 = 0 ∧ hR h 26 (slotF N p0 p1).toNat = 0 ∨ 0 < nV N (slotF N p0 p1).toNat 6 ∧ AtomR h (hR h 26 (slotF N p0 p1).toNat) (nd (nV N (slotF N p0 p1).toNat 6 - 1).toNat) := (CSV_1 C.1 sv.1).2.2.2.2.2.2.1
  have wv := W.1.2.2.2.2.1 _ sv.1
  refine ⟨(by omega), ?_⟩
  refine ⟨¬ (nV N (slotF N p0 p1).toNat 6 = 0 ∧ ¬ inUse N (slotF N p0 p1).toNat), ?_, ?_⟩
  · intro z3
    exact k1 q z3
  · refine ⟨fun c13 => ?_, fun c13 => ?_⟩
    · intro y
      rcases a7 with z | z
      · exact c13 z.2
      · have := y.1; omega
    · refine c_inUse T C W (by omega) sv.1 ?_
      intro x4 qx4
      intro rx4 vx4
      refine ⟨fun c12 => ?_, fun c12 => ?_⟩
      · have n6 : nV N (slotF N p0 p1).toNat 6 = 0 := by
          rcases a7 with z | z
          · exact z.1
          · exact absurd (Decidable.not_not.mp c13) (AtomR_nz T z.2 (dk _ (by have := wv.2.2.2.2.2.2.2.2.2.2.1; omega)))
        have P2 : (nV N (slotF N p0 p1).toNat 6 = 0 ∧ ¬ inUse N (slotF N p0 p1).toNat) := ⟨n6, (bq1 qx4).2.1.mp c12⟩
        refine c_X12_checkedNeed T C W Z3 ok (fun e g re F p Tg => kE q P2 e (by rw [if_pos rfl] at re; exact re) g F p Tg) ?_
        intro d a5 h6 rd F6 p6 A6 a0 t6 u6
        rw [if_pos rfl] at rd
        have L := HT_len T
        have C6 := ClF_C T F6 W C
        obtain ⟨b1, b2, b3⟩ := ClF_r T F6 Bo Bu Bs
        intro _ _
        refine c_X12_remember B0 t6 b1 b2 b3 ?_
        intro h7 qh7
        intro t7 u7
        have A7 := AtomR_fr (Rmb_txt t6 B0 qh7) A6
        have C7 : CS h7 8 N (putN nd m d) := CS_nd W (fun i hi => by unfold putN; rw [if_neg (by omega)]) (Rmb_CS t6 qh7 B0 W C6)
        have W1 := WF_up (Nat.le_succ m) W
        have od := rN_ok ok rd
        have Am : AtomR h7 a5 (putN nd m d (m : Int).toNat) := by rw [Int.toNat_natCast]; unfold putN; rw [if_pos rfl]; exact A7
        refine ⟨(.inr (Atom_1 t7 A7 od).2.1), ?_⟩
        intro h9 eh9 t9 u9
        obtain ⟨c1, c2⟩ := CS_opt (x := (m : Int)) t7 C7 W1 sv.1 ⟨by omega, by omega⟩ Am eh9
        refine c_X8_withOption t9 c1 c2 (DK_put dk od) (by omega) ?_
        refine c_J13_bitCount_95d88 ?_
        rw [show oMask (optN N (slotF N p0 p1).toNat m) p0.toNat = orN (vc (optN N (slotF N p0 p1).toNat m)) (fun v => decide (nV (optN N (slotF N p0 p1).toNat m) v 0 = p0.toNat) && decide (0 < nV (optN N (slotF N p0 p1).toNat m) v 6)) from rfl, popc_orN _ (by have := (WF_b c2).2.2.2; unfold vc; omega)]
        intro _
        exact k q P2 d rd _ _ _ F6 p6 t6 qh7 t7 (by rw [eh9]; exact Fr_sV rfl) (by rw [eh9, len_sV]) (by rw [eh9, xhs_sV]) t9 c1
      · exact fun y => y.2 ((bq1 qx4).2.2.1.mp c12)
set_option maxHeartbeats 1000000 in
theorem c_L_option {p1 p2 : Int} {h : XH} {N : Nat → Int} {nd : Nat → ND} {m : Nat} {o u : Int} (T : HT h) (C : CS h 8 N nd) (W : WF N m) (B0 : 0 ≤ o ∧ o < 10 ∧ 0 ≤ u ∧ u ≤ 10) (Bo : hI h 2 9 = o) (Bu : hI h 2 10 = u) (Bs : hI h 43 2 = 10) {L : List Int} (Z3 : Tape h 3 1 4 L) (ok : LOK L) (dk : DK nd m) {K : Int → XH → Prop} (k0 : ¬ ((0 ≤ p1 ∧ p1 < N 0) ∧ ¬ slotF N p1 p2 = -1) → K 1 (nT h)) (k1 : ((0 ≤ p1 ∧ p1 < N 0) ∧ ¬ slotF N p1 p2 = -1) → ¬ (nV N (slotF N p1 p2).toNat 6 = 0 ∧ ¬ inUse N (slotF N p1 p2).toNat) → K 2 (nT h)) (kE : ((0 ≤ p1 ∧ p1 < N 0) ∧ ¬ slotF N p1 p2 = -1) → (nV N (slotF N p1 p2).toNat 6 = 0 ∧ ¬ inUse N (slotF N p1 p2).toNat) → ∀ e, rN (tT L (N 0)) = .inl e → ∀ g, ClF h g → hI g 3 2 = e → HT g → K 3 (nT g)) (k : ((0 ≤ p1 ∧ p1 < N 0) ∧ ¬ slotF N p1 p2 = -1) → (nV N (slotF N p1 p2).toNat 6 = 0 ∧ ¬ inUse N (slotF N p1 p2).toNat) → ∀ d, rN (tT L (N 0)) = .inr d → ∀ g h2 h4 h5, ClF h g → hI g 3 2 = -1 → HT g → Rmb o u g h2 → HT h2 → Fr (fun b => b = 26) h2 h4 → h4.length = h2.length → xhs h4 = xhs h2 → HT h4 → CS h4 8 (optN N (slotF N p1 p2).toNat m) (putN nd m d) → h5 = sL h4 467 0 (i2l ((optM (optN N (slotF N p1 p2).toNat m) p1.toNat : Nat))) → K 0 h5) : w_L_option p1 p2 K h := by
  unfold w_L_option
  refine c_X12_option T C W B0 Bo Bu Bs Z3 ok dk (fun q => .inl ⟨rfl, k0 q⟩) (fun q r => .inr (.inl ⟨rfl, k1 q r⟩)) (fun q r e re g F p Tg => .inr (.inr ⟨rfl, kE q r e re g F p Tg⟩)) (fun q r d rd g h2 h4 F p Tg r2 t2 f l x t4 c => ?_)
  intro tx ux _
  intro h5 eh5 t5 u5
  exact k q r d rd _ _ _ _ F p Tg r2 t2 f l x t4 c eh5
set_option maxHeartbeats 4000000 in
theorem c_X14_option {p0 p1 : Int} {h : XH} {N : Nat → Int} {m : Nat} {q u : Int} (T : HT h) (eN : N = nw h) (W : WF N m) (B1 : 0 ≤ q ∧ q < 10 ∧ 0 ≤ u ∧ u ≤ 10) (Rq : hI h 437 3 = q) (Ru : hI h 437 2 = u) {nd : Nat → ND} {L : List Int} (I : ∀ r : Nat, r < 3 → fOK N (inst N r)) (Z : NT h nd) (i7 : hI h 437 7 = (m : Int)) (hm : m ≤ 511) (CR : CaR h N nd) (Z9 : Tape h 437 9 441 L) (ok : LOK L) {K : Int → XH → Prop} (k0 : ¬ ((0 ≤ p0 ∧ p0 < N 0) ∧ ¬ slotF N p0 p1 = -1) → ∀ h1 h2, HT h1 → h1 = sI h 437 5 0 → h2 = sI h1 437 5 1 → K 0 h2) (k1 : ((0 ≤ p0 ∧ p0 < N 0) ∧ ¬ slotF N p0 p1 = -1) → ¬ (nV N (slotF N p0 p1).toNat 6 = 0 ∧ ¬ inUse N (slotF N p0 p1).toNat) → ∀ h1 h2, HT h1 → h1 = sI h 437 5 0 → h2 = sI h1 437 5 2 → K 0 h2) (kE : ((0 ≤ p0 ∧ p0 < N 0) ∧ ¬ slotF N p0 p1 = -1) → (nV N (slotF N p0 p1).toNat 6 = 0 ∧ ¬ inUse N (slotF N p0 p1).toNat) → ∀ e, rN (tT L (N 0)) = .inl e → ∀ h1 h2 h3, HT h1 → h1 = sI h 437 5 0 → RdF h1 h2 → hI h2 437 10 = e → HT h2 → h3 = sI h2 437 5 3 → K 0 h3) (k : ((0 ≤ p0 ∧ p0 < N 0) ∧ ¬ slotF N p0 p1 = -1) → (nV N (slotF N p0 p1).toNat 6 = 0 ∧ ¬ inUse N (slotF N p0 p1).toNat) → ∀ d, rN (tT L (N 0)) = .inr d → ∀ h1 h2 h5 h7, HT h1 → h1 = sI h 437 5 0 → RdF h1 h2 → hI h2 437 10 = -1 → HT h2 → Rrec q u h2 h5 → HT h5 → Fr (fun b => b = 437 ∨ b = 438 ∨ b = 440 ∨ (468 ≤ b ∧ hk h5 b = 106)) h5 h7 → (∀ j, ¬ j = 6 → ¬ j = 7 → el h7 437 j = el h5 437 j) → Gr 1 nKp h5 h7 → nw h7 = optN N (slotF N p0 p1).toNat m → NT h7 (putN nd m d) → DJo h7 → hI h7 437 7 = (m : Int) + 1 → K ((optM (optN N (slotF N p0 p1).toNat m) p0.toNat : Nat)) h7) : w_X14_option p0 p1 K h := by
  unfold w_X14_option
  intro h1 eh1 t1 u1
  have eN1 : N = nw h1 := eN.trans (nw_fr (by rw [eh1]; exact sameC_sV (by decide))).symm
  have Rq1 : hI h1 437 3 = q := by rw [eh1, hI_ni (by decide)]; exact Rq
  have Ru1 : hI h1 437 2 = u := by rw [eh1, hI_ni (by decide)]; exact Ru
  have Z1 := NT_s1 eh1 Z
  have CR1 := CaR_s1 T eh1 CR
  have Y1 := Tape_s1 eh1 Z9
  have j7 : hI h1 437 7 = (m : Int) := by rw [eh1, hI_ni (by decide)]; exact i7
  refine c_X14_isVersion t1 eN1 W ?_
  intro x2 qx2
  intro rx2 vx2
  refine c_X14_refused qx2 ?_
  intro x3 h4 qx3
  intro t4 u4
  intro rx3 vx3
  refine ⟨fun c42 => ?_, fun c42 => ?_⟩
  · obtain ⟨b_, e_⟩ : (((0 ≤ p0 ∧ p0 < N 0) ∧ ¬ slotF N p0 p1 = -1)) ∧ h4 = h1 := by
      rcases qx3 with ⟨_, y, z⟩ | ⟨y, _⟩
      · exact ⟨y, z⟩
      · omega
    subst e_
    have sv := slot_v W.1 b_.2
    have sr := slotF_r (N := N) (p := p0) (c := p1) W.1.2.2.1
    have v40 : (slotF N p0 p1).toNat < 40 := by have := W.1.2.2.2.1; have := sv.1; unfold vc at this; omega
    have wv := W.1.2.2.2.2.1 _ sv.1
    have w12 := W.1.2.1
    have L1 := HT_len t1
    refine c_X14_slotF eN1 W.1 ?_
    intro _
    refine c_X14_ver (by omega) ?_
    intro x6 ex6
    have e6 : x6 = nV N (slotF N p0 p1).toNat 6 := by rw [ex6, eN1]; rfl
    intro rx6
    refine ⟨fun x => bq x (nV N (slotF N p0 p1).toNat 6 = 0 ∧ ¬ inUse N (slotF N p0 p1).toNat), ?_, ?_⟩
    · intro x7 rx7 z8
      refine c_X14_refused z8 ?_
      intro x9 h10 qx9
      intro t10 u10
      intro rx9 vx9
      refine ⟨fun c37 => ?_, fun c37 => ?_⟩
      · obtain ⟨b_2, e_2⟩ : ((nV N (slotF N p0 p1).toNat 6 = 0 ∧ ¬ inUse N (slotF N p0 p1).toNat)) ∧ h10 = h4 := by
          rcases qx9 with ⟨_, y, z⟩ | ⟨y, _⟩
          · exact ⟨y, z⟩
          · omega
        subst e_2
        have n0 : hI h10 438 0 = N 0 := by rw [eN1]; rfl
        refine c_X14_readNeed t1 ok Y1 ⟨n0, W.1.1, W.1.2.1⟩ ?_
        intro a11 h12 F12 R12
        intro t12 u12
        refine ⟨fun x => bq x (∃ d, rN (tT L (N 0)) = .inr d), ?_, ?_⟩
        · intro x13 rx13 z14
          refine c_X14_refused z14 ?_
          intro x15 h16 qx15
          intro t16 u16
          intro rx15 vx15
          refine ⟨fun c35 => ?_, fun c35 => ?_⟩
          · obtain ⟨b_3, e_3⟩ : (∃ d, rN (tT L (N 0)) = .inr d) ∧ h16 = h12 := by
              rcases qx15 with ⟨_, y, z⟩ | ⟨y, _⟩
              · exact ⟨y, z⟩
              · omega
            subst e_3
            obtain ⟨d, rd⟩ := b_3
            obtain ⟨d', rd', Nd, p10, al, r1, r2, r3⟩ := R12.resolve_left (fun ⟨e, y, _⟩ => by rw [rd] at y; cases y)
            obtain rfl : d = d' := Sum.inr.inj (rd.symm.trans rd')
            have gl := F12.2.1
            have q12 : hI h16 437 3 = q := (congrArg gvI (F12.2.2.2.1 3 (by decide) (by decide) (by decide))).trans Rq1
            have u12' : hI h16 437 2 = u := (congrArg gvI (F12.2.2.2.1 2 (by decide) (by decide) (by decide))).trans Ru1
            have eN12 : N = nw h16 := eN1.trans (nw_fr (F12.1 438 (by omega) (by decide))).symm
            refine c_X14_record B1 t12 q12 u12' ?_
            intro h17 qh17
            intro t17 u17
            have eN17 : N = nw h17 := eN12.trans (nw_fr (qh17.1 438 (by omega) (by decide))).symm
            obtain ⟨NT17, D17, Nd17, fr17, i17⟩ := keepT t1 Z1 CR1 F12 Nd r1 r2 r3 qh17
            rw [j7] at i17
            refine c_X14_keep t17 NT17 D17 Nd17 fr17 (by omega) ?_
            intro h19 K19
            rw [i17] at K19 ⊢
            intro t19 u19
            intro rx18
            have eN19 : N = nw h19 := eN17.trans (nw_fr (K19.1 438 (by have := HT_len t17; omega) (by omega))).symm
            rw [wr_of (x := (m : Int) + 1) (by omega) (by omega)]
            refine c_X14_put (by omega) ?_
            intro h20 eh20
            intro t20 u20
            have n20 := W_nw t19 (by omega) ⟨by omega, by omega⟩ eh20 eN19.symm
            obtain ⟨M, eM⟩ : ∃ M, M = optN N (slotF N p0 p1).toNat m := ⟨_, rfl⟩
            have n20M : nw h20 = M := by rw [eM]; exact n20
            have wM : WF M (m + 1) := by rw [eM]; exact (WF_opt (WF_up (Nat.le_succ m) W) sv.1 ⟨by omega, by omega⟩).1
            have m4 : hI h20 438 4 = M 4 := by rw [← n20M]; rfl
            have m40 := wM.1.2.2.2.1
            have m04 := wM.1.2.2.1
            have vcM : vc M = (M 4).toNat := rfl
            refine ⟨fun x y => ∃ n : Nat, y = (n : Int) ∧ n ≤ vc M ∧ x = (cntN n (fun v => decide (nV M v 0 = p0.toNat) && decide (0 < nV M v 6)) : Nat), fun _ y => ((vc M : Int) - y).toNat, ?_, ?_⟩
            · exact ⟨0, rfl, Nat.zero_le _, rfl⟩
            · intro x22 x23 rx22 rx23 z24
              obtain ⟨n, en, ln, xn⟩ := z24
              have cl := cntN_le (fun v => decide (nV M v 0 = p0.toNat) && decide (0 < nV M v 6)) n
              refine ⟨fun c34 => ?_, fun c34 => ?_⟩
              · have : n = vc M := by omega
                obtain ⟨k1_, k2_, k3_, k4_, k5_, k6_⟩ := keptT t17 K19 (k := h20) (by rw [eh20]; exact Fr_sV rfl) (by rw [eh20, len_sV]) (by rw [eh20, xhs_sV])
                rw [Int.toNat_natCast] at k4_
                rw [xn, this, eM]
                exact k b_ b_2 d rd _ _ _ _ t1 eh1 F12 p10 t12 qh17 t17 k1_ k2_ k3_ n20 k4_ k5_ (by rw [k6_, i17])
              · refine c_X14_ver (by omega) ?_
                intro x25 ex25
                have e25 : x25 = nV M n 0 := by
                  rw [ex25, en, ← n20M]; rfl
                intro rx25
                refine ⟨fun x => x = if (decide (nV M n 0 = p0.toNat) && decide (0 < nV M n 6)) = true then 1 else 0, ?_, ?_⟩
                · intro x26 rx26 z27
                  intro x28 ex28 rx28
                  intro x29 ex29 rx29
                  refine ⟨⟨n + 1, ?_, by omega, ?_⟩, ?_⟩
                  · rw [ex29, wr_of (by omega) (by omega)]; omega
                  · rw [cntN_1, ex28, z27, xn]
                    split
                    · rw [wr_of (by omega) (by omega)]; omega
                    · rw [wr_of (by omega) (by omega)]; omega
                  · dsimp only
                    rw [ex29, wr_of (by omega) (by omega)]; omega
                · refine ⟨(decide (nV M n 0 = p0.toNat) && decide (0 < nV M n 6)) = false, ?_, ?_⟩
                  · intro z30
                    rw [z30]; rfl
                  · refine ⟨fun c33 => ?_, fun c33 => ?_⟩
                    · rw [decide_eq_false (by omega)]; rfl
                    · refine c_X14_ver (by omega) ?_
                      intro x31 ex31
                      have e31 : x31 = nV M n 6 := by
                        rw [ex31, en, ← n20M]; rfl
                      intro rx31
                      refine ⟨fun c32 => ?_, fun c32 => ?_⟩
                      · rw [decide_eq_false (p := 0 < nV M n 6) (by omega), Bool.and_false]
                      · rw [decide_eq_true (by omega), decide_eq_true (by omega)]; rfl
          · have q_3 : ¬ (∃ d, rN (tT L (N 0)) = .inr d) ∧ h16 = sI h12 437 5 3 := by
              rcases qx15 with ⟨y, _⟩ | ⟨_, y, z⟩
              · omega
              · exact ⟨y, z⟩
            rcases R12 with ⟨e, y, y2, y3⟩ | ⟨d, y, -⟩
            · exact kE b_ b_2 e y _ _ _ t1 eh1 F12 y3 t12 q_3.2
            · exact absurd ⟨d, y⟩ q_3.1
            skip
        · refine ⟨fun c36 => ?_, fun c36 => ?_⟩
          · rcases R12 with ⟨e, y, -⟩ | ⟨d, y, Nd, -, y2, -⟩
            · exact bqF (fun ⟨d, z⟩ => by rw [y] at z; cases z)
            · have := Nd.2.2.2.1; omega
          · rcases R12 with ⟨e, y, y2, -⟩ | ⟨d, y, -⟩
            · exact absurd y2 c36
            · exact bqT ⟨d, y⟩
      · have q_2 : ¬ ((nV N (slotF N p0 p1).toNat 6 = 0 ∧ ¬ inUse N (slotF N p0 p1).toNat)) ∧ h10 = sI h4 437 5 2 := by
          rcases qx9 with ⟨y, _⟩ | ⟨_, y, z⟩
          · omega
          · exact ⟨y, z⟩
        exact k1 b_ q_2.1 _ _ t1 eh1 q_2.2
    · refine ⟨¬ (nV N (slotF N p0 p1).toNat 6 = 0 ∧ ¬ inUse N (slotF N p0 p1).toNat), ?_, ?_⟩
      · intro z38
        exact bqF z38
      · refine ⟨fun c41 => ?_, fun c41 => ?_⟩
        · intro y
          have := y.1
          omega
        · refine c_isInst t1 eN1 W (by omega) sv.1 I ?_
          intro x39 qx39
          intro rx39 vx39
          refine ⟨fun c40 => ?_, fun c40 => ?_⟩
          · exact fun y => y.2 ((bq1 qx39).2.2.1.mp c40)
          · exact bqT ⟨by omega, (bq1 qx39).2.1.mp (by omega)⟩
  · have q_ : ¬ (((0 ≤ p0 ∧ p0 < N 0) ∧ ¬ slotF N p0 p1 = -1)) ∧ h4 = sI h1 437 5 1 := by
      rcases qx3 with ⟨y, _⟩ | ⟨_, y, z⟩
      · omega
      · exact ⟨y, z⟩
    exact k0 q_.1 _ _ t1 eh1 q_.2
theorem d_option {h : XH} {nd : Nat → ND} {o u p1 p2 : Int} {c : Nat} (T : HT h) (R : Inv h nd o u c) (hc : c < 512)  {K : Int → XH → Prop} {J : XH → Prop} (k : ∀ h' nd' o' u', HT h' → Inv h' nd' o' u' (c + 1) → (∀ i, 5000 ≤ i → nd' i = nd i) → Gr (407 + 1) (nTx + nKp) h h' → J h') : w_L_option p1 p2 (LDw h (fun g Q => w_X14_option p1 p2 Q g) K J) h := by
  have C := R.1.1
  obtain ⟨L, ok, Z3, Z9⟩ := tapes R
  obtain ⟨m, i7⟩ : ∃ m : Nat, hI h 437 7 = (m : Int) := ⟨(hI h 437 7).toNat, by have := R.1.2.2.1.1; omega⟩
  have hm : m ≤ 511 := by have := R.2.1.2.2.1; omega
  have W : WF (nw h) m := by have := R.1.2.1; rw [i7, Int.toNat_natCast] at this; exact this
  have W1 := WF_up (Nat.le_succ m) W
  obtain ⟨b0, q1, q2, -⟩ := id R.1.2.2.2.1
  have I : ∀ r : Nat, r < 3 → fOK (nw h) (inst (nw h) r) := fun r hr => fOK_of (CS_i C hr)
  refine dsetT3 (S := fun b => b = 26) (N' := optN (nw h) (slotF (nw h) p1 p2).toNat m) (x := (optM (optN (nw h) (slotF (nw h) p1 p2).toNat m) p1.toNat : Nat)) (a1 := 1) (a2 := 2) (a3 := 3) (P1 := ((0 ≤ p1 ∧ p1 < nw h 0) ∧ ¬ slotF (nw h) p1 p2 = -1)) (P2 := (nV (nw h) (slotF (nw h) p1 p2).toNat 6 = 0 ∧ ¬ inUse (nw h) (slotF (nw h) p1 p2).toNat)) (r := rN (tT L (nw h 0))) (L := L) (m := m) (wL := fun Q => w_L_option p1 p2 Q h) (wR := fun g Q => w_X14_option p1 p2 Q g) T R (by omega) i7 (fun b y => by omega) Z9 ⟨rgk rfl, rgk rfl, rgk rfl⟩ ⟨by decide, by decide, by decide⟩ (fun y1 y2 b => BdN_vq (WF_opt (x := (m : Int)) W1 (slot_v W.1 y1.2).1 ⟨by omega, by omega⟩).2 W.1 I b) (fun y1 y2 => (WF_opt (x := (m : Int)) W1 (slot_v W.1 y1.2).1 ⟨by omega, by omega⟩).1) (fun Q k0 k1 kE k => ?_) (fun g Tg Z i7' CR Z9' q3' q2' en Q k0 k1 kE k => ?_) k
  · exact c_L_option T C W b0 q1 q2 R.1.2.2.2.2.1 Z3 ok (by have := DK_of (NTm_of R.1); rw [i7, Int.toNat_natCast] at this; exact this) k0 k1 kE k
  · exact c_X14_option Tg en.symm W (by omega) q3' q2' I Z i7' hm CR Z9' ok  k0 k1 kE k
