/-! TOKENS, the class -/
/-- one more token lies behind the others -/
def AddT (h g : XH) (m : Nat) (t : Tok) : Prop := Fr (fun b => b = 3 ∨ (5 ≤ b ∧ b < 8)) h g ∧ g.length = h.length ∧ xhs g = xhs h ∧ (∀ j, ¬ j = 6 → el g 3 j = el h 3 j) ∧ hI g 3 6 = (m : Int) + 1 ∧ hI g 5 m = t.1 ∧ hI g 6 m = t.2.1 ∧ hI g 7 m = t.2.2 ∧ ∀ j, ¬ j = m → hI g 5 j = hI h 5 j ∧ hI g 6 j = hI h 6 j ∧ hI g 7 j = hI h 7 j
theorem n3_ {g : XH} (t : HT g) {f : Nat} (hf : Nat.blt (fk 6 f) 9 = true) : f < hn g 3 := hn_obj t (c := 6) (lyk (n := 8) t rfl) rfl hf
set_option maxHeartbeats 1000000 in
theorem c_X5_byteAt {p0 : Int} {L : List Int} {h : XH} (Z : Tape h 3 1 4 L) (l : L.length ≤ 200) (h0 : 0 ≤ p0) {K : Int → Prop} (k : K (L.getD p0.toNat 0)) : w_X5_byteAt p0 K h := by
  unfold w_X5_byteAt
  have z1 := Z.1
  have dz : ∀ j, L.length ≤ j → L.getD j 0 = 0 := fun j hj => by rw [List.getD_eq_getElem?_getD, List.getElem?_eq_none hj]; rfl
  refine ⟨fun y => y = L.getD p0.toNat 0, ?_, ?_⟩
  · intro x1 rx1 z2
    rw [z2]
    exact k
  · refine ⟨(L.length : Int) ≤ p0, ?_, ?_⟩
    · intro z3
      exact (dz _ (by omega)).symm
    · refine ⟨fun c7 => ?_, fun c7 => ?_⟩
      · omega
      · refine ⟨fun c6 => ?_, fun c6 => ?_⟩
        · omega
        · refine ⟨fun c5 => ?_, fun c5 => ?_⟩
          · omega
          · refine ⟨(by omega), ?_⟩
            exact Z.2 _ (by omega)
set_option maxHeartbeats 1000000 in
theorem c_X5_isDigit {p0 : Int} {h : XH} {K : Int → Prop} (k : ∀ x, bq x (dgB p0 = true) → K x) : w_X5_isDigit p0 K h := by
  unfold w_X5_isDigit
  have dd : dgB p0 = true ↔ 48 ≤ p0 ∧ p0 ≤ 57 := by unfold dgB; rw [decide_eq_true_eq]
  refine ⟨fun x => bq x (dgB p0 = true), ?_, ?_⟩
  · intro x1 rx1 z2
    refine ⟨(by rcases z2 with y | y; exact .inr y.1; exact .inl y.1), ?_⟩
    exact k _ z2
  · refine ⟨¬ dgB p0 = true, ?_, ?_⟩
    · intro z4
      exact bqF z4
    · refine ⟨fun c6 => ?_, fun c6 => ?_⟩
      · exact fun y => by have := dd.mp y; omega
      · refine ⟨fun c5 => ?_, fun c5 => ?_⟩
        · exact fun y => by have := dd.mp y; omega
        · exact bqT (dd.mpr (by omega))
set_option maxHeartbeats 1000000 in
theorem c_X5_digitsFrom {a : Nat} {L : List Int} {h : XH} (Z : Tape h 3 1 4 L) (l : L.length ≤ 200) (al : a ≤ L.length) {K : Int → Prop} (k : K ((fE dgB L a : Nat) - (a : Nat) : Int)) : w_X5_digitsFrom (a : Int) K h := by
  unfold w_X5_digitsFrom
  have z1 := Z.1
  refine ⟨fun n p => ∃ q : Nat, p = q ∧ a ≤ q ∧ q ≤ L.length ∧ n = (q : Int) - (a : Int) ∧ fE dgB L q = fE dgB L a, fun _ p => (((L.length : Nat) : Int) - p).toNat, ?_, ?_⟩
  · exact ⟨a, rfl, Nat.le_refl _, al, by omega, rfl⟩
  · intro x2 x3 rx2 rx3 z4
    obtain ⟨q, ep, aq, ql, en, es⟩ := z4
    refine ⟨fE dgB L q = q, ?_, ?_⟩
    · intro z5
      rw [en, show ((q : Int) - (a : Int)) = ((fE dgB L a : Nat) - (a : Nat) : Int) by rw [← es, z5]]
      exact k
    · refine ⟨fun c11 => ?_, fun c11 => ?_⟩
      · rw [fE_end (by omega)]; omega
      · have ql2 : q < L.length := by omega
        refine c_X5_byteAt Z l (by omega) ?_
        intro _
        rw [ep, Int.toNat_natCast]
        refine c_X5_isDigit ?_
        intro x7 qx7
        intro rx7 vx7
        refine ⟨fun c10 => ?_, fun c10 => ?_⟩
        · refine fE_stop ql2 ?_
          cases y : dgB (L.getD q 0) with
          | false => rfl
          | true => exact absurd y ((bq1 qx7).2.1.mp c10)
        · intro x8 ex8 rx8
          intro x9 ex9 rx9
          have y := (bq1 qx7).2.2.1.mp c10
          rw [wr_of (by omega) (by omega)] at ex8 ex9
          exact ⟨⟨q + 1, by omega, by omega, by omega, by omega, (fE_step y).symm.trans es⟩, by dsimp only; omega⟩
set_option maxHeartbeats 1000000 in
theorem c_X5_isSpanSign {p0 : Int} {h : XH} {K : Int → Prop} (k : ∀ x, bq x (¬ skK p0 = 0) → K x) : w_X5_isSpanSign p0 K h := by
  unfold w_X5_isSpanSign
  have kk : ¬ skK p0 = 0 ↔ (p0 = 61 ∨ p0 = 62 ∨ p0 = 60 ∨ p0 = 94 ∨ p0 = 126) := by
    unfold skK
    constructor
    · intro y
      refine Classical.byContradiction fun n => ?_
      rw [if_neg (by omega), if_neg (by omega), if_neg (by omega), if_neg (by omega), if_neg (by omega)] at y
      exact y rfl
    · intro y
      repeat' split
      all_goals omega
  refine ⟨fun x => bq x (¬ skK p0 = 0), ?_, ?_⟩
  · intro x1 rx1 z2
    refine ⟨(by rcases z2 with y | y; exact .inr y.1; exact .inl y.1), ?_⟩
    exact k _ z2
  · refine ⟨¬ skK p0 = 0, ?_, ?_⟩
    · intro z4
      exact bqT z4
    · refine ⟨fun c9 => ?_, fun c9 => ?_⟩
      · exact kk.mpr (by omega)
      · refine ⟨fun c8 => ?_, fun c8 => ?_⟩
        · exact kk.mpr (by omega)
        · refine ⟨fun c7 => ?_, fun c7 => ?_⟩
          · exact kk.mpr (by omega)
          · refine ⟨fun c6 => ?_, fun c6 => ?_⟩
            · exact kk.mpr (by omega)
            · refine ⟨fun c5 => ?_, fun c5 => ?_⟩
              · exact bqF (fun y => by have := kk.mp y; omega)
              · exact kk.mpr (by omega)
set_option maxHeartbeats 1000000 in
theorem c_X5_isSign {p0 : Int} {h : XH} {K : Int → Prop} (k : ∀ x, bq x (sgB p0 = true) → K x) : w_X5_isSign p0 K h := by
  unfold w_X5_isSign
  have ss : sgB p0 = true ↔ (p0 = 35 ∨ p0 = 124 ∨ p0 = 44 ∨ p0 = 42 ∨ p0 = 61 ∨ p0 = 62 ∨ p0 = 60 ∨ p0 = 94 ∨ p0 = 126 ∨ p0 = 46 ∨ p0 = 33) := by unfold sgB; rw [decide_eq_true_eq]
  have kk : ¬ skK p0 = 0 ↔ (p0 = 61 ∨ p0 = 62 ∨ p0 = 60 ∨ p0 = 94 ∨ p0 = 126) := by
    unfold skK
    constructor
    · intro y
      refine Classical.byContradiction fun n => ?_
      rw [if_neg (by omega), if_neg (by omega), if_neg (by omega), if_neg (by omega), if_neg (by omega)] at y
      exact y rfl
    · intro y
      repeat' split
      all_goals omega
  refine ⟨fun x => bq x (sgB p0 = true), ?_, ?_⟩
  · intro x1 rx1 z2
    refine ⟨(by rcases z2 with y | y; exact .inr y.1; exact .inl y.1), ?_⟩
    exact k _ z2
  · refine ⟨sgB p0 = true, ?_, ?_⟩
    · intro z4
      exact bqT z4
    · refine ⟨fun c12 => ?_, fun c12 => ?_⟩
      · exact ss.mpr (by omega)
      · refine ⟨fun c11 => ?_, fun c11 => ?_⟩
        · exact ss.mpr (by omega)
        · refine ⟨fun c10 => ?_, fun c10 => ?_⟩
          · exact ss.mpr (by omega)
          · refine ⟨fun c9 => ?_, fun c9 => ?_⟩
            · exact ss.mpr (by omega)
            · refine ⟨fun c8 => ?_, fun c8 => ?_⟩
              · exact ss.mpr (by omega)
              · refine ⟨fun c7 => ?_, fun c7 => ?_⟩
                · exact ss.mpr (by omega)
                · refine c_X5_isSpanSign ?_
                  intro x5 qx5
                  intro rx5 vx5
                  refine ⟨fun c6 => ?_, fun c6 => ?_⟩
                  · have y := (bq1 qx5).2.1.mp c6
                    exact bqF (fun z => y (kk.mpr (by have := ss.mp z; omega)))
                  · have y := kk.mp ((bq1 qx5).2.2.1.mp c6)
                    exact ss.mpr (by omega)
set_option maxHeartbeats 1000000 in
theorem c_X5_addToken {p0 p1 p2 : Int} {m : Nat} {h : XH} (T : HT h) (e6 : hI h 3 6 = (m : Nat)) (hm : m ≤ 200) (r0 : rg p0) (r1 : rg p1) (r2 : rg p2) {K : XH → Prop} (k : ∀ g, AddT h g m (p0, p1, p2) → K g) : w_X5_addToken p0 p1 p2 K h := by
  unfold w_X5_addToken
  have n5 : ∀ {g a}, HT g → (a = 5 ∨ a = 6 ∨ a = 7) → hn g a = 201 := fun t y => by
    rcases y with y | y | y
    · rw [y]; exact lyn (c := 100) (n := 201) t rfl
    · rw [y]; exact lyn (c := 100) (n := 201) t rfl
    · rw [y]; exact lyn (c := 100) (n := 201) t rfl
  refine ⟨fun g => AddT h g m (p0, p1, p2), ?_, ?_⟩
  · intro h1 t1 s1 z2
    exact k _ z2
  · refine ⟨fun c10 => ?_, fun c10 => ?_⟩
    · omega
    · refine ⟨(by omega), ?_⟩
      intro h4 eh4 t4 u4
      have s4 : ∀ b, ¬ b = 5 → sameC h h4 b := fun b n => by rw [eh4]; exact sameC_sV (fun z => n z.symm)
      rw [sameC_I (s4 3 (by decide)), e6]
      refine ⟨(by omega), ?_⟩
      intro h6 eh6 t6 u6
      have s6 : ∀ b, ¬ b = 6 → sameC h4 h6 b := fun b n => by rw [eh6]; exact sameC_sV (fun z => n z.symm)
      rw [sameC_I (s6 3 (by decide)), sameC_I (s4 3 (by decide)), e6]
      refine ⟨(by omega), ?_⟩
      intro h8 eh8 t8 u8
      intro h9 eh9 t9 u9
      have s8 : ∀ b, ¬ b = 7 → sameC h6 h8 b := fun b n => by rw [eh8]; exact sameC_sV (fun z => n z.symm)
      have e83 : hI h8 3 6 = (m : Nat) := by rw [sameC_I (s8 3 (by decide)), sameC_I (s6 3 (by decide)), sameC_I (s4 3 (by decide))]; exact e6
      rw [e83, wr_of (by omega) (by omega)] at eh9
      have s9 : ∀ b, ¬ b = 3 → sameC h8 h9 b := fun b n => by rw [eh9]; exact sameC_sV (fun z => n z.symm)
      rw [e6, Int.toNat_natCast] at eh4
      rw [Int.toNat_natCast] at eh6 eh8
      refine ⟨fun b _ n => sameC_tr (sameC_tr (sameC_tr (s4 b (by omega)) (s6 b (by omega))) (s8 b (by omega))) (s9 b (by omega)), by rw [eh9, eh8, eh6, eh4, len_sV, len_sV, len_sV, len_sV], by rw [eh9, eh8, eh6, eh4, xhs_sV, xhs_sV, xhs_sV, xhs_sV], fun j hj => ?_, ?_, ?_, ?_, ?_, fun j hj => ⟨?_, ?_, ?_⟩⟩
      · rw [eh9, el_ni (fun z => hj z.symm), sameC_el (s8 3 (by decide)), sameC_el (s6 3 (by decide)), sameC_el (s4 3 (by decide))]
      · rw [eh9]; exact hI_eq (n3_ t8 rfl) (by unfold rg; omega)
      · rw [sameC_I (s9 5 (by decide)), sameC_I (s8 5 (by decide)), sameC_I (s6 5 (by decide)), eh4]; exact hI_eq (by rw [n5 T (.inl rfl)]; omega) r0
      · rw [sameC_I (s9 6 (by decide)), sameC_I (s8 6 (by decide)), eh6]; exact hI_eq (by rw [n5 t4 (.inr (.inl rfl))]; omega) r1
      · rw [sameC_I (s9 7 (by decide)), eh8]; exact hI_eq (by rw [n5 t6 (.inr (.inr rfl))]; omega) r2
      · rw [sameC_I (s9 5 (by decide)), sameC_I (s8 5 (by decide)), sameC_I (s6 5 (by decide)), eh4, hI_ni (fun z => hj z.symm)]
      · rw [sameC_I (s9 6 (by decide)), sameC_I (s8 6 (by decide)), eh6, hI_ni (fun z => hj z.symm), sameC_I (s4 6 (by decide))]
      · rw [sameC_I (s9 7 (by decide)), eh8, hI_ni (fun z => hj z.symm), sameC_I (s6 7 (by decide)), sameC_I (s4 7 (by decide))]
set_option maxHeartbeats 2000000 in
theorem c_X5_addNextToken {a m : Nat} {np : Int} {L : List Int} {h : XH} (T : HT h) (Z : Tape h 3 1 4 L) (ok : LOK L) (al : a < L.length) (e6 : hI h 3 6 = (m : Nat)) (hm : m ≤ 200) (hnp : 0 ≤ np ∧ np ≤ 12) {K : Int → XH → Prop} (k : ∀ x g, (wsB (L.getD a 0) = true ∧ x = (a : Int) + 1 ∧ g = h) ∨ (wsB (L.getD a 0) = false ∧ x = (te L a : Nat) ∧ AddT h g m (tk L np a)) → K x g) : w_X5_addNextToken (a : Int) np K h := by
  unfold w_X5_addNextToken
  have l := ok.1
  have rr := ok.2 a
  have rr1 := ok.2 (a + 1)
  have teU : te L a = _ := if_neg (show ¬ L.length ≤ a by omega)
  have tkU : tk L np a = _ := if_neg (show ¬ L.length ≤ a by omega)
  have ww : wsB (L.getD a 0) = true ↔ L.getD a 0 = 32 ∨ L.getD a 0 = 10 := by unfold wsB; rw [decide_eq_true_eq]
  have wf : ¬ L.getD a 0 = 32 → ¬ L.getD a 0 = 10 → wsB (L.getD a 0) = false := fun n1 n2 => by
    cases y : wsB (L.getD a 0) with
    | false => rfl
    | true => rcases ww.mp y with z | z; exact absurd z n1; exact absurd z n2
  have dz : L.length ≤ a + 1 → L.getD (a + 1) 0 = 0 := fun y => by rw [List.getD_eq_getElem?_getD, List.getElem?_eq_none y]; rfl
  have dd : dgB (L.getD a 0) = true ↔ 48 ≤ L.getD a 0 ∧ L.getD a 0 ≤ 57 := by unfold dgB; rw [decide_eq_true_eq]
  refine c_X5_byteAt Z l (by omega) ?_
  rw [Int.toNat_natCast]
  intro _
  refine ⟨wsB (L.getD a 0) = true, ?_, ?_⟩
  · intro z2
    rw [wr_of (by omega) (by omega)]
    exact k _ _ (.inl ⟨z2, rfl, rfl⟩)
  · refine ⟨fun c32 => ?_, fun c32 => ?_⟩
    · exact ww.mpr (.inl c32)
    · refine ⟨fun c31 => ?_, fun c31 => ?_⟩
      · have nw_ := wf c32 c31
        refine c_X5_isDigit ?_
        intro x3 qx3
        intro rx3 vx3
        refine ⟨fun c30 => ?_, fun c30 => ?_⟩
        · have nd_ := (bq1 qx3).2.1.mp c30
          rw [if_neg nd_] at teU tkU
          refine ⟨¬ (L.getD a 0 = 46 ∧ a + 1 < L.length ∧ L.getD (a + 1) 0 = 46), ?_, ?_⟩
          · intro z4
            refine ⟨¬ (97 ≤ L.getD a 0 ∧ L.getD a 0 ≤ 108), ?_, ?_⟩
            · intro z5
              rw [if_neg z4] at teU tkU
              rw [if_neg z5] at tkU
              refine c_X5_isSign ?_
              intro x6 qx6
              intro rx6 vx6
              refine ⟨fun y => y = 1 ∧ ¬ sgB (L.getD a 0) = true ∨ y = L.getD a 0 ∧ sgB (L.getD a 0) = true, ?_, ?_⟩
              · intro x7 rx7 z8
                refine c_X5_addToken T e6 hm (by unfold rg; omega) (by unfold rg; omega) (rgk rfl) ?_
                intro h9 A9
                intro t9 u9
                rw [wr_of (by omega) (by omega)]
                refine k _ _ (.inr ⟨nw_, by rw [teU]; rfl, ?_⟩)
                rcases z8 with ⟨y1, y2⟩ | ⟨y1, y2⟩
                · rw [if_neg y2] at tkU
                  rw [tkU, ← y1]; exact A9
                · rw [if_pos y2, ← y1] at tkU
                  rw [tkU]; exact A9
              · refine ⟨fun c10 => ?_, fun c10 => ?_⟩
                · exact .inl ⟨rfl, (bq1 qx6).2.1.mp c10⟩
                · exact .inr ⟨rfl, (bq1 qx6).2.2.1.mp c10⟩
            · refine ⟨fun c16 => ?_, fun c16 => ?_⟩
              · omega
              · refine ⟨fun c15 => ?_, fun c15 => ?_⟩
                · omega
                · skip
                  refine ⟨fun y => y = (if L.getD a 0 - 97 < np then 2 else 1), ?_, ?_⟩
                  · intro x11 rx11 z12
                    have r12 : 1 ≤ x11 ∧ x11 ≤ 2 := by rw [z12]; split <;> omega
                    refine c_X5_addToken T e6 hm (by unfold rg; omega) (by unfold rg; omega) (by rw [wr_of (by omega) (by omega)]; unfold rg; omega) ?_
                    intro h13 A13
                    intro t13 u13
                    rw [wr_of (by omega) (by omega)] at A13 ⊢
                    rw [if_neg (by omega)] at teU tkU
                    rw [if_pos (by omega)] at tkU
                    exact k _ _ (.inr ⟨nw_, by rw [teU]; rfl, by rw [tkU, ← z12]; exact A13⟩)
                  · refine ⟨fun c14 => ?_, fun c14 => ?_⟩
                    · rw [wr_of (by omega) (by omega)] at c14
                      rw [if_neg (by omega)]
                    · rw [wr_of (by omega) (by omega)] at c14
                      rw [if_pos (by omega)]
          · refine ⟨fun c20 => ?_, fun c20 => ?_⟩
            · exact fun y => c20 y.1
            · rw [wr_of (by omega) (by omega)]
              refine c_X5_byteAt Z l (by omega) ?_
              rw [show ((a : Int) + 1).toNat = a + 1 by omega]
              intro _
              refine ⟨fun c19 => ?_, fun c19 => ?_⟩
              · exact fun y => c19 y.2.2
              · have a1l : a + 1 < L.length := Classical.byContradiction fun y => by have := dz (by omega); omega
                rw [if_pos ⟨Decidable.not_not.mp c20, a1l, Decidable.not_not.mp c19⟩] at teU tkU
                refine c_X5_addToken T e6 hm (rgk rfl) (by unfold rg; omega) (rgk rfl) ?_
                intro h18 A18
                intro t18 u18
                rw [wr_of (by omega) (by omega)]
                exact k _ _ (.inr ⟨nw_, by rw [teU]; rfl, by rw [tkU]; exact A18⟩)
        · have dg_ := (bq1 qx3).2.2.1.mp c30
          have dn := dd.mp dg_
          rw [if_pos dg_] at teU tkU
          have st := fE_step (P := dgB) (L := L) (a := a) dg_
          have ge := fE_ge (P := dgB) (L := L) (a := a + 1) (by omega)
          have le := fE_le dgB L a
          refine c_X5_digitsFrom Z l (by omega) ?_
          intro _
          refine ⟨fun y => y = nvl L a, ?_, ?_⟩
          · intro x22 rx22 z23
            refine ⟨fun y => y = (if fE dgB L a ≤ a + 2 then 3 else 1), ?_, ?_⟩
            · intro x24 rx24 z25
              have r13 : 1 ≤ x24 ∧ x24 ≤ 3 := by rw [z25]; split <;> omega
              refine c_X5_addToken T e6 hm (by unfold rg; omega) (by unfold rg; omega) rx22 ?_
              intro h26 A26
              intro t26 u26
              rw [wr_of (by omega) (by omega)]
              refine k _ _ (.inr ⟨nw_, by rw [teU]; omega, ?_⟩)
              rw [tkU, ← z25, ← z23]; exact A26
            · refine ⟨fun c27 => ?_, fun c27 => ?_⟩
              · rw [if_neg (by omega)]
              · rw [if_pos (by omega)]
          · refine ⟨fun c29 => ?_, fun c29 => ?_⟩
            · rw [wr_of (by omega) (by omega)]
              unfold nvl
              rw [if_neg (by omega)]
            · rw [wr_of (x := (a : Int) + 1) (by omega) (by omega)]
              refine c_X5_byteAt Z l (by omega) ?_
              rw [show ((a : Int) + 1).toNat = a + 1 by omega]
              intro _
              rw [wr_of (x := L.getD a 0 - 48) (by omega) (by omega), wr_of (x := 10 * (L.getD a 0 - 48)) (by omega) (by omega), wr_of (x := 10 * (L.getD a 0 - 48) + L.getD (a + 1) 0) (by omega) (by omega), wr_of (by omega) (by omega)]
              unfold nvl
              rw [if_pos (by omega)]; omega
      · exact ww.mpr (.inr (Decidable.not_not.mp c31))
