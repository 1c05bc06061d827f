/-! IN RANGE -/
theorem rW_d {L : List Int} {np p : Int} (ok : LOK L) {d : ND} (e : rW (tT L np) p = .inr d) : ∃ l, d = (0, [(p, l)]) ∧ ¬ l = [] ∧ ∀ q ∈ l, sOK q := by
  unfold rW at e
  cases r : rG (tT L np) 0 200 with
  | inl z => rw [r] at e; cases e
  | inr z =>
    obtain ⟨l, j⟩ := z
    obtain ⟨g1, -, -, -, g5⟩ := rG_c ok _ _ _ r
    rw [r] at e
    have e2 : (if (tT L np j).1 = 0 then .inr (0, [(p, l)]) else .inl (tT L np j).2.1 : Int ⊕ ND) = .inr d := e
    by_cases q : (tT L np j).1 = 0
    · rw [if_pos q] at e2
      exact ⟨l, (Sum.inr.inj e2).symm, g5, g1⟩
    · rw [if_neg q] at e2; cases e2
theorem rW_ok {L : List Int} {np p : Int} (ok : LOK L) (hp : 0 ≤ p ∧ p < 12) {d : ND} (e : rW (tT L np) p = .inr d) : ndOK d := by
  obtain ⟨l, ed, -, g⟩ := rW_d ok e
  rw [ed]
  exact ⟨.inl rfl, by simp, fun _ => rfl, fun a ha => by rw [List.mem_singleton.mp ha]; exact ⟨hp.1, hp.2, g⟩, by simp⟩
theorem insV_cnt {N : Nat → Int} {v : Nat} (q : Nat → Bool) : ∀ l : List Nat, (insV N v l).countP q = l.countP q + (if q v = true then 1 else 0) := by
  intro l
  induction l with
  | nil =>
    unfold insV
    rw [List.countP_cons]
  | cons w l ih =>
    unfold insV
    by_cases c : nV N w 1 > nV N v 1
    · rw [if_pos c, List.countP_cons]
    · rw [if_neg c, List.countP_cons, ih, List.countP_cons]; omega
theorem vslN_cnt {N : Nat → Int} {p : Nat} (q : Nat → Bool) : ∀ n, (vslN N p n).countP q = cntN n (fun v => decide (nV N v 0 = p) && q v) := by
  intro n
  induction n with
  | zero => rfl
  | succ n ih =>
    rw [vslN_s, cntN_1]
    by_cases c : nV N n 0 = p
    · rw [if_pos c, insV_cnt, ih, decide_eq_true c, Bool.true_and]
    · rw [if_neg c, ih, decide_eq_false c, Bool.false_and]; rfl
/-- how many versions of a package a range holds -/
def inR (N : Nat → Int) (d : ND) (p : Nat) : Nat := cntN (vc N) (iP N d p)
theorem inR_vsl {N : Nat → Int} {d : ND} {p : Nat} : (vsl N p).countP (fun v => rmet (rng d) (nV N v 1)) = inR N d p := vslN_cnt _ _
theorem RdF_CaR {h g : XH} {N : Nat → Int} {nd : Nat → ND} (T : HT h) (F : RdF h g) (z : CaR h N nd) : CaR g N nd := CaR_fr (fun b x y => F.1 b y (by omega)) (fun j hj => F.2.2.2.1 j (by omega) (by omega) (by omega)) (HT_len T) z
theorem NeedR_RSt {h1 g k : XH} {nd : Nat → ND} {N : Nat → Int} {a n s : Nat} {d : ND} (T : HT h1) (CR : CaR h1 N nd) (F : RdF h1 g) (Nd : NeedR g a d) (al : h1.length ≤ a) (r1 : h1.length ≤ hR g a 1) (r2 : h1.length ≤ hR g a 2) (r3 : h1.length ≤ hR g a 3) (R : RSt g k nd n s) : NeedR k a d := by
  have L := HT_len T
  have K : ∀ b, b < g.length → h1.length ≤ b → sameC g k b := fun b hb x => R.2.1 b hb (fun q => by
    rcases q with q | q | ⟨-, j, hj, e⟩
    · omega
    · omega
    · have oj := (own_j CR.2.1.1 hj).2.1
      have : hR g 437 j = hR h1 437 j := congrArg gvR (F.2.2.2.1 j (by unfold owP at hj; omega) (by unfold owP at hj; omega) (by unfold owP at hj; omega))
      omega)
  obtain ⟨y1, y2, y3, y4, y5, y6, y7, bg, a1, a2, a3, a4, a5, -⟩ := id Nd
  exact NeedR_fr3 (K _ (hk_lt y1 (by decide)) al) (K _ (hk_lt a1 (by decide)) r1) (K _ (hk_lt a3 (by decide)) r2) (K _ (hk_lt a5 (by decide)) r3) Nd
set_option maxHeartbeats 1000000 in
theorem c_X12_checkedRange {p : Int} {h : XH} {N : Nat → Int} {nd : Nat → ND} {m : Nat} (T : HT h) (C : CS h 8 N nd) (W : WF N m) {L : List Int} (Z3 : Tape h 3 1 4 L) (ok : LOK L) {K : Nat → XH → Prop} {E : Nat → XH → Prop} (kE : ∀ e g, rW (tT L (N 0)) p = .inl e → ClF h g → hI g 3 2 = e → HT g → E 1 (nT g)) (k : ∀ d a g, rW (tT L (N 0)) p = .inr d → ClF h g → hI g 3 2 = -1 → SpanR g a d → ¬ a = 0 → HT g → HX h g → K a g) : w_X12_checkedRange K E h := by
  unfold w_X12_checkedRange
  rw [(V80 C.1).1]
  refine c_X5_readWholeRange (p := p) T Z3 ok ⟨W.1.1, W.1.2.1⟩ ?_
  intro a1 h2 F2 P2
  intro t2 u2
  refine ⟨fun c3 => ?_, fun c3 => ?_⟩
  · rcases P2 with ⟨_, _, y, _⟩ | ⟨d, y1, y2, y3, y4⟩
    · exact absurd y c3
    · exact k d a1 h2 y1 F2 y2 y3 y4 t2 u2
  · rcases P2 with ⟨e, y1, _, y3, _⟩ | ⟨_, _, _, _, y⟩
    · exact kE e h2 y1 F2 y3 t2
    · exact absurd y c3
set_option maxHeartbeats 1000000 in
theorem c_X12_inRange {p0 : Int} {h : XH} {N : Nat → Int} {nd : Nat → ND} {m : Nat} (T : HT h) (C : CS h 8 N nd) (W : WF N m) {L : List Int} (Z3 : Tape h 3 1 4 L) (ok : LOK L) {K : Int → XH → Prop} {E : Nat → XH → Prop} (k0 : ¬ (0 ≤ p0 ∧ p0 < N 0) → E 2 (nT h)) (kE : (0 ≤ p0 ∧ p0 < N 0) → ∀ e, rW (tT L (N 0)) p0 = .inl e → ∀ g, ClF h g → hI g 3 2 = e → HT g → E 1 (nT g)) (k : (0 ≤ p0 ∧ p0 < N 0) → ∀ d, rW (tT L (N 0)) p0 = .inr d → ∀ g, ClF h g → hI g 3 2 = -1 → HT g → K (inR N d p0.toNat : Nat) g) : w_X12_inRange p0 K E h := by
  unfold w_X12_inRange
  refine c_X12_checkPack (fun q => k0 (by rw [(V80 C.1).1] at q; exact q)) (fun q1 q2 => ?_)
  rw [(V80 C.1).1] at q2
  have b12 := W.1.2.1
  refine c_X12_checkedRange (p := p0) T C W Z3 ok (fun e g re F p Tg => kE ⟨q1, q2⟩ e re g F p Tg) ?_
  intro d a1 h2 rd F2 p2 S2 a0 t2 u2
  have od := rW_ok ok ⟨q1, by omega⟩ rd
  intro _ _
  refine c_X8_inRangeOf t2 (ClF_C T F2 W C) W q1 S2 od ?_
  refine c_J13_bitCount_95d88 ?_
  rw [popc_orN _ (by have := (WF_b W).2.2.2; unfold vc; omega)]
  intro _
  exact k ⟨q1, q2⟩ d rd _ F2 p2 t2
set_option maxHeartbeats 1000000 in
theorem c_L_inRange {p1 : Int} {h : XH} {N : Nat → Int} {nd : Nat → ND} {m : Nat} (T : HT h) (C : CS h 8 N nd) (W : WF N m) {L : List Int} (Z3 : Tape h 3 1 4 L) (ok : LOK L) {K : Int → XH → Prop} (k0 : ¬ (0 ≤ p1 ∧ p1 < N 0) → K 1 (nT h)) (kE : (0 ≤ p1 ∧ p1 < N 0) → ∀ e, rW (tT L (N 0)) p1 = .inl e → ∀ g, ClF h g → hI g 3 2 = e → HT g → K 2 (nT g)) (k : (0 ≤ p1 ∧ p1 < N 0) → ∀ d, rW (tT L (N 0)) p1 = .inr d → ∀ g g6, ClF h g → hI g 3 2 = -1 → HT g → g6 = sL g 467 0 (i2l (inR N d p1.toNat : Nat)) → K 0 g6) : w_L_inRange p1 K h := by
  unfold w_L_inRange
  refine c_X12_inRange T C W Z3 ok (fun q => .inl ⟨rfl, k0 q⟩) (fun q e re g F p Tg => .inr ⟨rfl, kE q e re g F p Tg⟩) (fun q d rd g F p Tg => ?_)
  intro tx ux _
  intro h5 eh5 t5 u5
  exact k q d rd _ _ F p Tg eh5
set_option maxHeartbeats 4000000 in
theorem c_X14_inRange {p0 : Int} {h : XH} {N : Nat → Int} {m : Nat} {nd : Nat → ND} (T : HT h) (eN : N = nw h) (W : WF N m) (P8 : P8N N) (CR : CaR h N nd) {L : List Int} (Z9 : Tape h 437 9 441 L) (ok : LOK L) {K : Int → XH → Prop} (k0 : ¬ (0 ≤ p0 ∧ p0 < N 0) → ∀ h1 h2, HT h1 → h1 = sI h 437 5 0 → h2 = sI h1 437 5 1 → K 0 h2) (kE : (0 ≤ p0 ∧ p0 < N 0) → ∀ e, rW (tT L (N 0)) p0 = .inl e → ∀ h1 h2 h3, HT h1 → h1 = sI h 437 5 0 → RdF h1 h2 → hI h2 437 10 = e → HT h2 → h3 = sI h2 437 5 2 → K 0 h3) (k : (0 ≤ p0 ∧ p0 < N 0) → ∀ d, rW (tT L (N 0)) p0 = .inr d → ∀ h1 h2 h3, HT h1 → h1 = sI h 437 5 0 → RdF h1 h2 → hI h2 437 10 = -1 → HT h2 → RSt h2 h3 nd 24 (12 * nA8) → K (inR N d p0.toNat : Nat) h3) : w_X14_inRange p0 K h := by
  unfold w_X14_inRange
  intro h1 eh1 t1 u1
  have eN1 : N = nw h1 := eN.trans (nw_fr (by rw [eh1]; exact sameC_sV (by decide))).symm
  have CR1 : CaR h1 N nd := by rw [eh1]; exact CaR_fr (fun b x _ => sameC_sV (by omega)) (fun j hj => el_ni (by omega)) (HT_len T) CR
  have Y1 := Tape_s1 eh1 Z9
  have L1 := HT_len t1
  refine c_X14_isPack ?_ (by rw [show hI h1 438 0 = N 0 by rw [eN1]; rfl]; exact W.1.1)
  intro x2 qx2
  rw [show hI h1 438 0 = N 0 by rw [eN1]; rfl] at qx2
  have b12 := W.1.2.1
  intro rx2 vx2
  refine c_X14_refused qx2 ?_
  intro x3 h4 qx3
  intro t4 u4
  intro rx3 vx3
  refine ⟨fun c32 => ?_, fun c32 => ?_⟩
  · obtain ⟨b_, e_⟩ : ((0 ≤ p0 ∧ p0 < N 0)) ∧ h4 = h1 := by
      rcases qx3 with ⟨_, y, z⟩ | ⟨y, _⟩
      · exact ⟨y, z⟩
      · omega
    subst e_
    have n0 : hI h4 438 0 = N 0 := by rw [eN1]; rfl
    have p12 : 0 ≤ p0 ∧ p0 < 12 := ⟨b_.1, by have := b_.2; omega⟩
    refine c_X14_readRangeOf p12 t1 ok Y1 ⟨n0, W.1.1, W.1.2.1⟩ ?_
    intro a5 h6 F6 R6
    intro t6 u6
    refine ⟨fun x => bq x (∃ d, rW (tT L (N 0)) p0 = .inr d), ?_, ?_⟩
    · intro x7 rx7 z8
      refine c_X14_refused z8 ?_
      intro x9 h10 qx9
      intro t10 u10
      intro rx9 vx9
      refine ⟨fun c30 => ?_, fun c30 => ?_⟩
      · obtain ⟨b_3, e_3⟩ : (∃ d, rW (tT L (N 0)) p0 = .inr d) ∧ h10 = h6 := by
          rcases qx9 with ⟨_, y, z⟩ | ⟨y, _⟩
          · exact ⟨y, z⟩
          · omega
        subst e_3
        obtain ⟨d, rd⟩ := b_3
        obtain ⟨d', rd', Nd, p10, al, r1, r2, r3⟩ := R6.resolve_left (fun ⟨e, y, _⟩ => by rw [rd] at y; cases y)
        obtain rfl : d = d' := Sum.inr.inj (rd.symm.trans rd')
        obtain ⟨l, ed, l0, lo⟩ := rW_d ok rd
        have gl := F6.2.1
        have eN6 : N = nw h10 := eN1.trans (nw_fr (F6.1 438 (by omega) (by decide))).symm
        refine c_X14_versionsOf p12 t6 eN6 W P8 (RdF_CaR t1 F6 CR1) ?_
        intro a11 h12 r12 V12
        intro t12 u12
        have Nd12 := NeedR_RSt t1 CR1 F6 Nd al r1 r2 r3 r12
        have eN12 : N = nw h12 := eN6.trans (RSt_nw t6 r12).symm
        obtain ⟨v1, v2, v3, v4⟩ := V12
        have v8 := P8 p0.toNat (by omega)
        rw [v3]
        refine ⟨v1, ?_⟩
        refine ⟨(by omega), ?_⟩
        intro x15 ex15 rx15
        refine ⟨fun x y => ∃ n : Nat, y = (n : Int) ∧ n ≤ (vsl N p0.toNat).length ∧ x = (((vsl N p0.toNat).take n).countP (fun v => rmet (rng d) (nV N v 1)) : Nat), fun _ y => (((vsl N p0.toNat).length : Int) - y).toNat, ?_, ?_⟩
        · exact ⟨0, rfl, Nat.zero_le _, rfl⟩
        · intro x16 x17 rx16 rx17 z19
          obtain ⟨n, en, ln, xn⟩ := z19
          have cl : ((vsl N p0.toNat).take n).countP (fun v => rmet (rng d) (nV N v 1)) ≤ n := Nat.le_trans List.countP_le_length (by rw [List.length_take]; omega)
          refine ⟨fun c29 => ?_, fun c29 => ?_⟩
          · have : n = (vsl N p0.toNat).length := by omega
            rw [xn, this, List.take_length, inR_vsl]
            exact k b_ d rd _ _ _ t1 eh1 F6 p10 t6 r12
          · refine ⟨(by omega), ?_⟩
            intro x21 ex21 rx21
            have nl : n < (vsl N p0.toNat).length := by omega
            have e21 : x21 = ((vsl N p0.toNat).getD n 0 : Nat) := by rw [ex21, show x17.toNat = n by omega]; exact v4 n nl
            have sv : (vsl N p0.toNat).getD n 0 < vc N ∧ nV N ((vsl N p0.toNat).getD n 0) 0 = p0.toNat := by
              have : (vsl N p0.toNat).getD n 0 ∈ vsl N p0.toNat := by
                rw [List.getD_eq_getElem?_getD, List.getElem?_eq_getElem nl]
                exact List.getElem_mem nl
              exact vsl_mem.mp this
            have v40 := (WF_b W).2.2.2
            have vcN : vc N = (N 4).toNat := rfl
            have wv := W.1.2.2.2.2.1 _ sv.1
            refine c_X14_ver (by omega) ?_
            intro x22 ex22
            have e22 : x22 = nV N ((vsl N p0.toNat).getD n 0) 1 := by rw [ex22, e21, Int.toNat_natCast, eN12]; rfl
            intro rx22
            refine c_X14_meetsRange Nd12 (by rw [ed]; exact ⟨by decide, by simp⟩) (by rw [e22]; exact ⟨wv.2.2.1, wv.2.2.2.1⟩) ?_
            intro x23 qx23
            have em : (d.2[(0 : Int).toNat]'(by rw [ed]; simp)).2 = rng d := by subst ed; rfl
            rw [em, e22] at qx23
            intro rx23 vx23
            refine ⟨fun x => x = if rmet (rng d) (nV N ((vsl N p0.toNat).getD n 0) 1) = true then 1 else 0, ?_, ?_⟩
            · intro x24 rx24 z25
              intro x26 ex26 rx26
              intro x27 ex27 rx27
              refine ⟨⟨n + 1, ?_, by omega, ?_⟩, ?_⟩
              · rw [ex27, wr_of (by omega) (by omega)]; omega
              · have tk : (vsl N p0.toNat).take (n + 1) = (vsl N p0.toNat).take n ++ [(vsl N p0.toNat).getD n 0] := by
                  rw [List.take_succ, List.getD_eq_getElem?_getD, List.getElem?_eq_getElem nl]; rfl
                rw [tk, List.countP_append, List.countP_singleton, ex26, z25, xn]
                split
                · rw [wr_of (by omega) (by omega)]; omega
                · rw [wr_of (by omega) (by omega)]; omega
              · dsimp only
                rw [ex27, wr_of (by omega) (by omega)]; omega
            · refine ⟨fun c28 => ?_, fun c28 => ?_⟩
              · rw [if_neg ((bq1 qx23).2.1.mp c28)]
              · rw [if_pos ((bq1 qx23).2.2.1.mp c28)]
      · have q_3 : ¬ (∃ d, rW (tT L (N 0)) p0 = .inr d) ∧ h10 = sI h6 437 5 2 := by
          rcases qx9 with ⟨y, _⟩ | ⟨_, y, z⟩
          · omega
          · exact ⟨y, z⟩
        rcases R6 with ⟨e, y, y2, y3⟩ | ⟨d, y, -⟩
        · exact kE b_ e y _ _ _ t1 eh1 F6 y3 t6 q_3.2
        · exact absurd ⟨d, y⟩ q_3.1
        skip
    · refine ⟨fun c31 => ?_, fun c31 => ?_⟩
      · rcases R6 with ⟨e, y, -⟩ | ⟨d, y, Nd, -, y2, -⟩
        · exact bqF (fun ⟨d, z⟩ => by rw [y] at z; cases z)
        · have := Nd.2.2.2.1; omega
      · rcases R6 with ⟨e, y, y2, -⟩ | ⟨d, y, -⟩
        · exact absurd y2 c31
        · exact bqT ⟨d, y⟩
  · have q_ : ¬ ((0 ≤ p0 ∧ p0 < N 0)) ∧ h4 = sI h1 437 5 1 := by
      rcases qx3 with ⟨y, _⟩ | ⟨_, y, z⟩
      · omega
      · exact ⟨y, z⟩
    exact k0 q_.1 _ _ t1 eh1 q_.2
theorem d_inRange {h : XH} {nd : Nat → ND} {o u p1 : Int} {c : Nat} (T : HT h) (R : Inv h nd o u c) {K : Int → XH → Prop} {J : XH → Prop} (k : ∀ h' o' u', HT h' → Inv h' nd o' u' (c + 1) → Gr (407 + 24) (nTx + 12 * nA8) h h' → J h') : w_L_inRange p1 (LDw h (fun g Q => w_X14_inRange p1 Q g) K J) h := by
  have C := R.1.1
  have W := R.1.2.1
  have L0 := HT_len T
  obtain ⟨L, ok, Z3, Z9⟩ := tapes R
  have BB : ∀ {g}, Fr (fun b => b < 437 ∨ b = 467) h g → CaR g (nw h) nd ∧ Tape g 437 9 441 L ∧ nw g = nw h := fun {g} f => by
    have s37 : sameC h g 437 := f 437 (by omega) (by omega)
    have s41 : sameC h g 441 := f 441 (by omega) (by omega)
    exact ⟨CaR_fr (fun b x y => f b y (by omega)) (fun j _ => sameC_el s37 j) L0 R.2.2.2, ⟨(sameC_I s37 9).trans Z9.1, fun j hj => (sameC_I s41 j).trans (Z9.2 j hj)⟩, nw_fr (f 438 (by omega) (by omega))⟩
  refine c_L_inRange T C W Z3 ok (fun p => ?_) (fun p e re g F hp Tg => ?_) (fun p d rd g g6 F hp Tg e6 => ?_)
  · intro t1 u1 rx
    obtain ⟨q3, q4, q7⟩ := BB (g := nT h) (fun b hb _ => nT_s h hb)
    refine c_X14_inRange t1 q7.symm W (P8_of R) q3 q4 ok (fun _ g1 g2 tg e1 e2 => ?_) (fun y => (p y).elim) (fun y => (p y).elim)
    intro t2 u2 ry
    obtain ⟨w1, w2, w3⟩ := bad_ T t1 R tg (rgk rfl) e1 e2
    exact fin_ w2 (fun z => absurd z (by decide)) (k g2 o u t2 (Inv_mono (Nat.le_succ c) w1) (Gr_mono w3 (by omega) (by unfold nTx; omega)))
  · intro t1 u1 rx
    have gl := F.2.2.2.2.1
    obtain ⟨q3, q4, q7⟩ := BB (g := nT g) (fun b hb n => sameC_tr (F.1 b hb (by omega)) (nT_s g (by omega)))
    refine c_X14_inRange t1 q7.symm W (P8_of R) q3 q4 ok (fun y => (y p).elim) (fun _ e' re' g1 g2 g3 tg e1 rr p2 t2 e3 => ?_) (fun _ d rd => by rw [re] at rd; cases rd)
    intro t3 u3 ry
    have ee : e' = e := Sum.inl.inj (re'.symm.trans re)
    obtain ⟨w1, w2, w3⟩ := badT T R F (hp.trans ee.symm) e1 t1 rr p2 t2 (rgk rfl) e3
    exact fin_ w2 (fun z => absurd z (by decide)) (k g3 o u t3 (Inv_mono (Nat.le_succ c) w1) (Gr_mono w3 (by omega) (by omega)))
  · intro t1 u1 rx
    have gl := F.2.2.2.2.1
    have s6 : ∀ b, ¬ b = 467 → sameC g g6 b := fun b n => by rw [e6]; exact sameC_sV (fun z => n z.symm)
    obtain ⟨q3, q4, q7⟩ := BB (g := g6) (fun b hb n => sameC_tr (F.1 b hb (by omega)) (s6 b (by omega)))
    refine c_X14_inRange t1 q7.symm W (P8_of R) q3 q4 ok (fun y => (y p).elim) (fun _ e re => by rw [rd] at re; cases re) (fun _ d' rd' g1 g2 g3 tg e1 rr p2 t2 rs => ?_)
    intro t3 u3 ry
    have ed : d' = d := Sum.inr.inj (rd'.symm.trans rd)
    have s1 : ∀ b, ¬ b = 437 → sameC g6 g1 b := fun b n => by rw [e1]; exact sameC_sV (fun z => n z.symm)
    have I2 : Inv g2 nd o u c := bothT (S := fun b => b = 437 ∨ b = 467) (g1 := g1) T R F hp (fun b hb n => sameC_tr (s6 b (fun z => n (.inr z))) (s1 b (fun z => n (.inl z)))) (fun b y => y) (by rw [e1, len_sV, e6, len_sV]; exact Nat.le_refl _) (fun j n => by rw [e1, el_ni (fun z => n z.symm), e6, el_ne (by decide)]) rr p2
    have I3 := RSt_Inv t2 I2 rs
    have l1 : g1.length = g.length := by rw [e1, len_sV, e6, len_sV]
    have x1 : xhs g1 = xhs g := by rw [e1, xhs_sV, e6, xhs_sV]
    have v5 : hI g3 437 5 = 0 := by
      rw [show hI g3 437 5 = hI g2 437 5 from congrArg gvI (rs.2.2.1 5 (by decide)), show hI g2 437 5 = hI g1 437 5 from congrArg gvI (rr.2.2.2.1 5 (by decide) (by decide) (by decide))]
      exact h5_0 t1 (rgk rfl) e1
    have s467 : sameC g6 g3 467 := sameC_tr (s1 467 (by decide)) (sameC_tr (rr.1 467 (by omega) (by decide)) (RSt_s rs (by have := rr.2.1; omega) (by decide) (by decide) (by decide)))
    have G := Gc_Gr F.2.2.2
    have G2 := rr.2.2.1
    have G3 := rs.2.2.2.1
    refine fin_ v5 (fun _ => ?_) (k g3 o u t3 (Inv_mono (Nat.le_succ c) I3) ⟨by have := G.1; have := G2.1; have := G3.1; omega, by have := G.2; have := G2.2; have := G3.2; unfold nTx; omega⟩)
    rw [sameC_L s467, e6, ed]
    exact hL_eq (by rw [lyn (c := 101) (n := 1) Tg rfl]; decide)
