/-! WHAT A TEXT SAYS -/
def tpo (L : List Int) : Nat → Nat
  | 0 => 0
  | i + 1 => te L (skp L (tpo L i))
def tT (L : List Int) (np : Int) (i : Nat) : Tok := tk L np (skp L (tpo L i))
def rV (T : Nat → Tok) (i : Nat) : Int ⊕ (Int × Nat) :=
  if ¬ (T i).1 = 3 then .inl (T i).2.1 else if ¬ (T (i + 1)).1 = 46 then .inl (T (i + 1)).2.1 else if ¬ (T (i + 2)).1 = 3 then .inl (T (i + 2)).2.1 else
  if ¬ (T (i + 3)).1 = 33 then .inr (10000 * (T i).2.2 + 100 * (T (i + 2)).2.2 + 99, i + 3) else
  if ¬ ((T (i + 4)).1 = 3 ∧ 1 ≤ (T (i + 4)).2.2 ∧ (T (i + 4)).2.2 ≤ 98) then .inl (T (i + 4)).2.1 else .inr (10000 * (T i).2.2 + 100 * (T (i + 2)).2.2 + (T (i + 4)).2.2, i + 5)
def skK (k : Int) : Int := if k = 61 then 1 else if k = 62 then 2 else if k = 60 then 3 else if k = 94 then 4 else if k = 126 then 5 else 0
def rS (T : Nat → Tok) (i : Nat) : Int ⊕ ((Int × Int × Int) × Nat) :=
  if (T i).1 = 42 then .inr ((0, 0, 0), i + 1) else
  if ¬ skK (T i).1 = 0 then (match rV T (i + 1) with | .inl e => .inl e | .inr (c, j) => .inr ((skK (T i).1, c, c), j)) else
  match rV T i with
  | .inl e => .inl e
  | .inr (c, j) => if ¬ (T j).1 = 4 then .inr ((1, c, c), j) else match rV T (j + 1) with
    | .inl e => .inl e
    | .inr (d, l) => if d < c then .inl (T j).2.1 else .inr ((6, c, d), l)
def rG (T : Nat → Tok) (i : Nat) : Nat → Int ⊕ (List (Int × Int × Int) × Nat)
  | 0 => match rS T i with | .inl e => .inl e | .inr (q, j) => .inr ([q], j)
  | k + 1 => match rG T i k with
    | .inl e => .inl e
    | .inr (l, j) => if (T j).1 = 44 then (match rS T (j + 1) with | .inl e => .inl e | .inr (q, m) => .inr (l ++ [q], m)) else .inr (l, j)
def isR (k : Int) : Bool := decide (k = 3 ∨ k = 42 ∨ ¬ skK k = 0)
abbrev At1 : Type := Int × List (Int × Int × Int)
def rA (T : Nat → Tok) (i : Nat) : Int ⊕ (At1 × Nat) :=
  if ¬ (T i).1 = 2 then .inl (T i).2.1 else
  if isR (T (i + 1)).1 = true then (match rG T (i + 1) 200 with | .inl e => .inl e | .inr (l, j) => .inr (((T i).2.2, l), j)) else .inr (((T i).2.2, []), i + 1)
def rM (T : Nat → Tok) : Nat → Int ⊕ (List At1 × Nat)
  | 0 => match rA T 0 with | .inl e => .inl e | .inr (a, j) => .inr ([a], j)
  | k + 1 => match rM T k with
    | .inl e => .inl e
    | .inr (l, j) => if (T j).1 = 124 then (match rA T (j + 1) with | .inl e => .inl e | .inr (a, m) => .inr (l ++ [a], m)) else .inr (l, j)
def rE (T : Nat → Tok) (w : Int) : Int ⊕ (List At1 × Nat) → Int ⊕ ND
  | .inl e => .inl e
  | .inr (l, j) => if (T j).1 = 0 then .inr (w, l) else .inl (T j).2.1
def rN1 (T : Nat → Tok) : Int ⊕ (List At1 × Nat) := if (T 2).1 = 0 then .inr ([((T 0).2.2, [])], 2) else match rG T 2 200 with | .inl e => .inl e | .inr (l, j) => .inr ([((T 0).2.2, l)], j)
def rN (T : Nat → Tok) : Int ⊕ ND :=
  if (T 0).1 = 2 ∧ (T 1).1 = 35 then rE T 1 (rN1 T)
  else rE T 0 (rM T 200)
def rB (T : Nat → Tok) : Int ⊕ ND := rE T 0 (rM T 0)
def rW (T : Nat → Tok) (p : Int) : Int ⊕ ND := rE T 0 (match rG T 0 200 with | .inl e => .inl e | .inr (l, j) => .inr ([(p, l)], j))
/-! facts of tokens -/
theorem skp_le (L : List Int) (a : Nat) : skp L a ≤ L.length := fE_le _ _ _
theorem te_le (L : List Int) (b : Nat) : te L b ≤ L.length := by
  unfold te
  split
  · exact Nat.le_refl _
  · split
    · exact fE_le _ _ _
    · split <;> omega
theorem te_gt {L : List Int} {b : Nat} (h : b < L.length) : b < te L b := by
  unfold te
  rw [if_neg (by omega)]
  by_cases d : dgB (L.getD b 0) = true
  · rw [if_pos d, fE_step d]
    have := fE_ge (P := dgB) (L := L) (a := b + 1) (by omega)
    omega
  · rw [if_neg d]; split <;> omega
theorem tpo_le (L : List Int) : ∀ i, tpo L i ≤ L.length
  | 0 => Nat.zero_le _
  | _ + 1 => te_le _ _
theorem tpo_ge (L : List Int) : ∀ i, min i L.length ≤ tpo L i := by
  intro i
  induction i with
  | zero => show min 0 L.length ≤ 0; omega
  | succ i ih =>
    show _ ≤ te L (skp L (tpo L i))
    have h1 := fE_ge (P := wsB) (L := L) (tpo_le L i)
    by_cases c : skp L (tpo L i) < L.length
    · have := te_gt c
      unfold skp at this c ⊢
      omega
    · have : te L (skp L (tpo L i)) = L.length := by unfold te; rw [if_pos (by omega)]
      omega
theorem tk_k {L : List Int} {np : Int} {b : Nat} (r : ∀ j, 0 ≤ L.getD j 0 ∧ L.getD j 0 ≤ 255) (hb : b ≤ L.length) : (tk L np b).2.1 = (b : Nat) ∧ ((tk L np b).1 = 0 → b = L.length) ∧ ((tk L np b).1 = 2 → 0 ≤ (tk L np b).2.2 ∧ (tk L np b).2.2 < np ∧ (tk L np b).2.2 < 12) ∧ ((tk L np b).1 = 3 → 0 ≤ (tk L np b).2.2 ∧ (tk L np b).2.2 ≤ 99) := by
  have ss : ∀ c, sgB c = true → 33 ≤ c := fun c y => by unfold sgB at y; rw [decide_eq_true_eq] at y; omega
  have dd : ∀ c, dgB c = true → 48 ≤ c ∧ c ≤ 57 := fun c y => by unfold dgB at y; rw [decide_eq_true_eq] at y; exact y
  unfold tk
  by_cases c1 : L.length ≤ b
  · rw [if_pos c1]; exact ⟨by dsimp only; omega, fun _ => by omega, (fun y => by dsimp only at y; omega), (fun y => by dsimp only at y; omega)⟩
  · rw [if_neg c1]
    by_cases c2 : dgB (L.getD b 0) = true
    · rw [if_pos c2]
      by_cases c3 : fE dgB L b ≤ b + 2
      · rw [if_pos c3]
        refine ⟨rfl, (fun y => by dsimp only at y; omega), (fun y => by dsimp only at y; omega), fun _ => ?_⟩
        have d1 := dd _ c2
        show 0 ≤ nvl L b ∧ nvl L b ≤ 99
        unfold nvl
        by_cases c4 : fE dgB L b = b + 2
        · rw [if_pos c4]
          have d2 : dgB (L.getD (b + 1) 0) = true := by
            rcases fE_cs dgB L b with ⟨e, q⟩ | ⟨q1, q2, q3, q4⟩
            · exact q (b + 1) (by omega) (by omega)
            · exact q4 (b + 1) (by omega) (by omega)
          have d3 := dd _ d2
          omega
        · rw [if_neg c4]; omega
      · rw [if_neg c3]; exact ⟨rfl, (fun y => by dsimp only at y; omega), (fun y => by dsimp only at y; omega), (fun y => by dsimp only at y; omega)⟩
    · rw [if_neg c2]
      by_cases c3 : L.getD b 0 = 46 ∧ b + 1 < L.length ∧ L.getD (b + 1) 0 = 46
      · rw [if_pos c3]; exact ⟨rfl, (fun y => by dsimp only at y; omega), (fun y => by dsimp only at y; omega), (fun y => by dsimp only at y; omega)⟩
      · rw [if_neg c3]
        by_cases c4 : 97 ≤ L.getD b 0 ∧ L.getD b 0 ≤ 108
        · rw [if_pos c4]
          by_cases c5 : L.getD b 0 - 97 < np
          · rw [if_pos c5]; exact ⟨rfl, (fun y => by dsimp only at y; omega), fun _ => ⟨by dsimp only; omega, c5, by dsimp only; omega⟩, (fun y => by dsimp only at y; omega)⟩
          · rw [if_neg c5]; exact ⟨rfl, (fun y => by dsimp only at y; omega), (fun y => by dsimp only at y; omega), (fun y => by dsimp only at y; omega)⟩
        · rw [if_neg c4]
          by_cases c5 : sgB (L.getD b 0) = true
          · rw [if_pos c5]
            have := ss _ c5
            exact ⟨rfl, (fun y => by dsimp only at y; omega), (fun y => by dsimp only at y; omega), (fun y => by dsimp only at y; omega)⟩
          · rw [if_neg c5]; exact ⟨rfl, (fun y => by dsimp only at y; omega), (fun y => by dsimp only at y; omega), (fun y => by dsimp only at y; omega)⟩
def LOK (L : List Int) : Prop := L.length ≤ 200 ∧ ∀ j, 0 ≤ L.getD j 0 ∧ L.getD j 0 ≤ 255
theorem tT_k {L : List Int} {np : Int} (ok : LOK L) (i : Nat) : (tT L np i).2.1 = (skp L (tpo L i) : Nat) ∧ (¬ (tT L np i).1 = 0 → i < L.length ∧ i < 200) ∧ ((tT L np i).1 = 2 → 0 ≤ (tT L np i).2.2 ∧ (tT L np i).2.2 < np ∧ (tT L np i).2.2 < 12) ∧ ((tT L np i).1 = 3 → 0 ≤ (tT L np i).2.2 ∧ (tT L np i).2.2 ≤ 99) := by
  obtain ⟨a, -, c, d⟩ := tk_k (np := np) ok.2 (skp_le L (tpo L i))
  refine ⟨a, fun y => ?_, c, d⟩
  have g := tpo_ge L i
  have l := ok.1
  have : skp L (tpo L i) < L.length := Classical.byContradiction fun z => y (by show (tk L np (skp L (tpo L i))).1 = 0; unfold tk; rw [if_pos (by omega)])
  have h1 := fE_ge (P := wsB) (L := L) (tpo_le L i)
  unfold skp at this
  omega
theorem rV_c {L : List Int} {np : Int} (ok : LOK L) {i j : Nat} {c : Int} (e : rV (tT L np) i = .inr (c, j)) : 0 ≤ c ∧ c < 1000000 ∧ i < j ∧ j ≤ 200 := by
  unfold rV at e
  have v0 := (tT_k (np := np) ok i).2.2.2
  have v2 := (tT_k (np := np) ok (i + 2)).2.2.2
  have n2 := (tT_k (np := np) ok (i + 2)).2.1
  have n4 := (tT_k (np := np) ok (i + 4)).2.1
  have v4 := (tT_k (np := np) ok (i + 4)).2.2.2
  by_cases c0 : (tT L np i).1 = 3
  · rw [if_neg (fun y => y c0)] at e
    by_cases c1 : (tT L np (i + 1)).1 = 46
    · rw [if_neg (fun y => y c1)] at e
      by_cases c2 : (tT L np (i + 2)).1 = 3
      · rw [if_neg (fun y => y c2)] at e
        have := v0 c0
        have := v2 c2
        by_cases c3 : (tT L np (i + 3)).1 = 33
        · rw [if_neg (fun y => y c3)] at e
          by_cases c4 : (tT L np (i + 4)).1 = 3 ∧ 1 ≤ (tT L np (i + 4)).2.2 ∧ (tT L np (i + 4)).2.2 ≤ 98
          · rw [if_neg (fun y => y c4)] at e
            have e2 := Prod.mk.inj (Sum.inr.inj e)
            have := n4 (by omega)
            omega
          · rw [if_pos c4] at e; cases e
        · rw [if_pos c3] at e
          have e2 := Prod.mk.inj (Sum.inr.inj e)
          have := n2 (by omega)
          omega
      · rw [if_pos c2] at e; cases e
    · rw [if_pos c1] at e; cases e
  · rw [if_pos c0] at e; cases e
/-- the reference stands at the token i -/
def RB (g : XH) (L : List Int) (np : Int) (i : Nat) : Prop := Tape g 437 9 441 L ∧ (hI g 438 0 = np ∧ 0 ≤ np ∧ np ≤ 12) ∧ hI g 437 13 = (tpo L (i + 1) : Nat) ∧ hI g 437 14 = (tT L np i).2.1 ∧ TKR (hI g 437 15) (hI g 437 16) (tT L np i)
/-- nothing that the reader stands on has changed -/
theorem RB_fr {h g : XH} {L : List Int} {np : Int} {i : Nat} (B : RB h L np i) (s1 : sameC h g 441) (s2 : sameC h g 438) (e : ∀ j, j = 9 ∨ (13 ≤ j ∧ j ≤ 16) → el g 437 j = el h 437 j) : RB g L np i := by
  have q : ∀ j, j = 9 ∨ (13 ≤ j ∧ j ≤ 16) → hI g 437 j = hI h 437 j := fun j hj => congrArg gvI (e j hj)
  obtain ⟨b1, b2, b3, b4, b5⟩ := B
  refine ⟨⟨(q 9 (by omega)).trans b1.1, fun j hj => (sameC_I s1 j).trans (b1.2 j hj)⟩, by rw [sameC_I s2]; exact b2, (q 13 (by omega)).trans b3, (q 14 (by omega)).trans b4, ?_⟩
  rw [q 15 (by omega), q 16 (by omega)]
  exact b5
theorem c_nx {L : List Int} {h : XH} {np : Int} {i : Nat} (T : HT h) (ok : LOK L) (B : RB h L np i) {K : XH → Prop} (k : ∀ g, NxT h g → RB g L np (i + 1) → K g) : w_X14_next K h := by
  obtain ⟨b1, b2, b3, b4, b5⟩ := B
  have L0 := HT_len T
  refine c_X14_next (N := fun _ => np) T b1 ok.1 ok.2 b2 b3 (tpo_le L (i + 1)) (fun g F e13 e14 tr => k g F ?_)
  refine ⟨NxT_Z T F b1, ?_, e13, e14.trans (tT_k (np := np) ok (i + 1)).1.symm, tr⟩
  rw [sameC_I (F.1 438 (by omega) (by decide))]
  exact b2
/-- a version is read: what may change -/
def VFr (h g : XH) : Prop := Fr (fun b => b = 437) h g ∧ g.length = h.length ∧ xhs g = xhs h ∧ ∀ j, ¬ (13 ≤ j ∧ j ≤ 17) → ¬ j = 23 → el g 437 j = el h 437 j
theorem VFr_rf (h : XH) : VFr h h := ⟨Fr_rf _ _, rfl, rfl, fun _ _ _ => rfl⟩
theorem VFr_tr {h g k : XH} (a : VFr h g) (b : VFr g k) : VFr h k := ⟨Fr_tr a.1 (by rw [a.2.1]; exact Nat.le_refl _) b.1, b.2.1.trans a.2.1, b.2.2.1.trans a.2.2.1, fun j hj n => (b.2.2.2 j hj n).trans (a.2.2.2 j hj n)⟩
theorem VFr_n {h g : XH} (a : NxT h g) : VFr h g := ⟨a.1, a.2.1, a.2.2.1, fun j hj _ => a.2.2.2 j (by omega)⟩
theorem VFr_s {g g1 : XH} {i : Nat} {x : Int} (hi : i = 17 ∨ i = 23) (e : g1 = sI g 437 i x) : VFr g g1 := ⟨by rw [e]; exact Fr_sV rfl, by rw [e, len_sV], by rw [e, xhs_sV], fun j hj n => by rw [e, el_ni (by omega)]⟩
theorem RB_s {g g1 : XH} {L : List Int} {np : Int} {i j : Nat} {x : Int} (B : RB g L np i) (hj : 17 ≤ j) (e : g1 = sI g 437 j x) : RB g1 L np i := RB_fr B (by rw [e]; exact sameC_sV (by decide)) (by rw [e]; exact sameC_sV (by decide)) (fun k hk => by rw [e, el_ni (by omega)])
theorem RB_sg {g : XH} {L : List Int} {np : Int} {i : Nat} (B : RB g L np i) {s : Int} (hs : 33 ≤ s) : (hI g 437 15 = 2 ∧ hI g 437 16 = s) ↔ (tT L np i).1 = s := by
  have := B.2.2.2.2
  unfold TKR at this
  constructor
  · intro y; omega
  · intro y; omega
theorem RB_kd {g : XH} {L : List Int} {np : Int} {i : Nat} (B : RB g L np i) : (hI g 437 15 = 5 ↔ (tT L np i).1 = 0) ∧ (hI g 437 15 = 0 ↔ (tT L np i).1 = 2) ∧ (hI g 437 15 = 1 ↔ (tT L np i).1 = 3) ∧ (hI g 437 15 = 3 ↔ (tT L np i).1 = 4) ∧ ((tT L np i).1 = 2 ∨ (tT L np i).1 = 3 → hI g 437 16 = (tT L np i).2.2) := by
  have := B.2.2.2.2
  unfold TKR at this
  omega
theorem rg16 (g : XH) (a i : Nat) : rg (hI g a i) := by
  unfold hI gvI rg
  split
  · next x _ => exact ⟨by have := x.le_toInt; omega, by have := x.toInt_lt; omega⟩
  · decide
set_option maxHeartbeats 1000000 in
theorem c_X14_isSign {s : Int} {L : List Int} {h : XH} {np : Int} {i : Nat} (B : RB h L np i) (hs : 33 ≤ s) {K : Int → Prop} (k : ∀ x, bq x ((tT L np i).1 = s) → K x) : w_X14_isSign s K h := by
  unfold w_X14_isSign
  have bs := RB_sg B hs
  refine ⟨fun x => bq x ((tT L np i).1 = s), ?_, ?_⟩
  · intro x1 rx1 z2
    refine ⟨(by rcases z2 with y | y; exact .inr y.1; exact .inl y.1), ?_⟩
    exact k _ z2
  · refine ⟨¬ (tT L np i).1 = s, ?_, ?_⟩
    · intro z4
      exact bqF z4
    · refine ⟨fun c6 => ?_, fun c6 => ?_⟩
      · exact fun y => c6 (bs.mpr y).1
      · refine ⟨fun c5 => ?_, fun c5 => ?_⟩
        · exact fun y => c5 (bs.mpr y).2
        · exact bqT (bs.mp ⟨Decidable.not_not.mp c6, Decidable.not_not.mp c5⟩)
set_option maxHeartbeats 1000000 in
theorem c_X14_wrong {h : XH} {K : Int → XH → Prop} (k : ∀ g, g = sI h 437 17 (hI h 437 14) → K 0 g) : w_X14_wrong K h := by
  unfold w_X14_wrong
  intro h1 eh1 t1 u1
  exact k _ eh1
set_option maxHeartbeats 1000000 in
theorem c_X14_readVersion {L : List Int} {h : XH} {np : Int} {i : Nat} (T : HT h) (ok : LOK L) (B : RB h L np i) {K : Int → XH → Prop} (k0 : ∀ e g, rV (tT L np) i = .inl e → VFr h g → hI g 437 17 = e → K 0 g) (k1 : ∀ c j g, rV (tT L np) i = .inr (c, j) → VFr h g → hI g 437 23 = c → RB g L np j → K 1 g) : w_X14_readVersion K h := by
  unfold w_X14_readVersion
  have kd := RB_kd B
  have v0 := (tT_k (np := np) ok i).2.2.2
  have v2 := (tT_k (np := np) ok (i + 2)).2.2.2
  have v4 := (tT_k (np := np) ok (i + 4)).2.2.2
  have wrg : ∀ {g g1 : XH} {n : Nat}, HT g → RB g L np n → g1 = sI g 437 17 (hI g 437 14) → hI g1 437 17 = (tT L np n).2.1 := fun {g g1 n} tg Bg e => by
    rw [(at37 tg (by decide) (rg16 _ _ _) e).1]; exact Bg.2.2.2.1
  unfold rV at k0 k1
  refine ⟨fun c30 => ?_, fun c30 => ?_⟩
  · have k3 := kd.2.2.1.mp c30
    rw [if_neg (fun y => y k3)] at k0 k1
    have w0 := v0 k3
    have e16 := kd.2.2.2.2 (.inr k3)
    intro x1 ex1 rx1
    rw [e16, wr_of (by omega) (by omega)] at ex1
    refine c_nx T ok B ?_
    intro h2 F2 B2
    intro t2 u2
    refine c_X14_isSign B2 (by decide) ?_
    intro x3 qx3
    intro rx3 vx3
    refine ⟨fun c27 => ?_, fun c27 => ?_⟩
    · have k46 := (bq1 qx3).2.2.1.mp c27
      rw [if_neg (fun y => y k46)] at k0 k1
      refine c_nx t2 ok B2 ?_
      intro h4 F4 B4_
      have B4 : RB h4 L np (i + 2) := B4_
      intro t4 u4
      have kd4 := RB_kd B4
      refine ⟨fun c24 => ?_, fun c24 => ?_⟩
      · have k34 := kd4.2.2.1.mp c24
        rw [if_neg (fun y => y k34)] at k0 k1
        have w2 := v2 k34
        have e164 := kd4.2.2.2.2 (.inr k34)
        have w2 := v2 k34
        intro x5 ex5 rx5
        rw [e164, wr_of (x := 100 * (tT L np (i + 2)).2.2) (by omega) (by omega), wr_of (x := 100 * (tT L np (i + 2)).2.2 + 99) (by omega) (by omega), wr_of (by omega) (by omega)] at ex5
        refine c_nx t4 ok B4 ?_
        intro h6 F6 B6_
        have B6 : RB h6 L np (i + 3) := B6_
        intro t6 u6
        have F06 : VFr h h6 := VFr_tr (VFr_tr (VFr_n F2) (VFr_n F4)) (VFr_n F6)
        refine c_X14_isSign B6 (by decide) ?_
        intro x7 qx7
        intro rx7 vx7
        refine ⟨fun x g => ∃ c j, x = c ∧ rV (tT L np) i = .inr (c, j) ∧ VFr h g ∧ RB g L np j ∧ rg c, ?_, ?_⟩
        · intro x8 h9 t9 s9 rx8 z10
          intro h11 eh11 t11 u11
          obtain ⟨c, j, ec, er, F, B_, rc_⟩ := z10
          unfold rV at er
          rw [if_neg (fun y => y k3), if_neg (fun y => y k46), if_neg (fun y => y k34)] at er
          exact k1 c j _ er (VFr_tr F (VFr_s (.inr rfl) eh11)) (by rw [(at37 t9 (by decide) (by rw [ec]; exact rc_) eh11).1]; exact ec) (RB_s B_ (by decide) eh11)
        · refine ⟨fun c21 => ?_, fun c21 => ?_⟩
          · have n33 := (bq1 qx7).2.1.mp c21
            refine ⟨x5, i + 3, rfl, ?_, F06, B6, by unfold rg; omega⟩
            unfold rV
            rw [if_neg (fun y => y k3), if_neg (fun y => y k46), if_neg (fun y => y k34), if_pos n33, show x5 = 10000 * (tT L np i).2.2 + 100 * (tT L np (i + 2)).2.2 + 99 by rw [ex5, ex1]; omega]
          · have k33 := (bq1 qx7).2.2.1.mp c21
            rw [if_neg (fun y => y k33)] at k0 k1
            refine c_nx t6 ok B6 ?_
            intro h12 F12 B12_
            have B12 : RB h12 L np (i + 4) := B12_
            intro t12 u12
            have kd12 := RB_kd B12
            have F012 := VFr_tr F06 (VFr_n F12)
            refine ⟨¬ ((tT L np (i + 4)).1 = 3 ∧ 1 ≤ (tT L np (i + 4)).2.2 ∧ (tT L np (i + 4)).2.2 ≤ 98), ?_, ?_⟩
            · intro z13
              refine c_X14_wrong ?_
              intro h15 eq15
              intro t15 u15
              intro rx14 vx14
              rw [if_pos z13] at k0
              exact k0 _ _ rfl (VFr_tr F012 (VFr_s (.inl rfl) eq15)) (wrg t12 B12 eq15)
            · refine ⟨fun c20 => ?_, fun c20 => ?_⟩
              · exact fun y => c20 (kd12.2.2.1.mpr y.1)
              · have k3_4 := kd12.2.2.1.mp (Decidable.not_not.mp c20)
                have w4 := v4 k3_4
                have e1612 := kd12.2.2.2.2 (.inr k3_4)
                refine c_X14_within ?_
                intro x16 qx16
                rw [e1612] at qx16
                intro rx16 vx16
                refine ⟨fun c19 => ?_, fun c19 => ?_⟩
                · have rr := (bq1 qx16).2.2.1.mp c19
                  intro x17 ex17 rx17
                  rw [e1612, wr_of (x := (tT L np (i + 4)).2.2 - 99) (by omega) (by omega), wr_of (by omega) (by omega)] at ex17
                  refine c_nx t12 ok B12 ?_
                  intro h18 F18 B18_
                  have B18 : RB h18 L np (i + 5) := B18_
                  intro t18 u18
                  refine ⟨x17, i + 5, rfl, ?_, VFr_tr F012 (VFr_n F18), B18, by unfold rg; omega⟩
                  unfold rV
                  rw [if_neg (fun y => y k3), if_neg (fun y => y k46), if_neg (fun y => y k34), if_neg (fun y => y k33), if_neg (fun y => y ⟨k3_4, rr⟩), show x17 = 10000 * (tT L np i).2.2 + 100 * (tT L np (i + 2)).2.2 + (tT L np (i + 4)).2.2 by rw [ex17, ex5, ex1]; omega]
                · exact fun y => ((bq1 qx16).2.1.mp (Decidable.not_not.mp c19)) y.2
      · have n3 : ¬ (tT L np (i + 2)).1 = 3 := fun y => c24 (kd4.2.2.1.mpr y)
        rw [if_pos n3] at k0
        refine c_X14_wrong ?_
        intro h23 eq23
        intro t23 u23
        intro rx22 vx22
        exact k0 _ _ rfl (VFr_tr (VFr_tr (VFr_n F2) (VFr_n F4)) (VFr_s (.inl rfl) eq23)) (wrg t4 B4 eq23)
    · have n46 := (bq1 qx3).2.1.mp (Decidable.not_not.mp c27)
      rw [if_pos n46] at k0
      refine c_X14_wrong ?_
      intro h26 eq26
      intro t26 u26
      intro rx25 vx25
      exact k0 _ _ rfl (VFr_tr (VFr_n F2) (VFr_s (.inl rfl) eq26)) (wrg t2 B2 eq26)
  · have n3 : ¬ (tT L np i).1 = 3 := fun y => c30 (kd.2.2.1.mpr y)
    rw [if_pos n3] at k0
    refine c_X14_wrong ?_
    intro h29 eq29
    intro t29 u29
    intro rx28 vx28
    exact k0 _ _ rfl (VFr_s (.inl rfl) eq29) (wrg T B eq29)
