/-! TOKENS -/
abbrev Tok : Type := Int × Int × Int
def wsB (c : Int) : Bool := decide (c = 32 ∨ c = 10)
def dgB (c : Int) : Bool := decide (48 ≤ c ∧ c ≤ 57)
def sgB (c : Int) : Bool := decide (c = 35 ∨ c = 124 ∨ c = 44 ∨ c = 42 ∨ c = 61 ∨ c = 62 ∨ c = 60 ∨ c = 94 ∨ c = 126 ∨ c = 46 ∨ c = 33)
/-- the first place from a on that is not of P -/
def fE (P : Int → Bool) (L : List Int) (a : Nat) : Nat := if fnd L.length (fun j => decide (a ≤ j) && !P (L.getD j 0)) = -1 then L.length else (fnd L.length (fun j => decide (a ≤ j) && !P (L.getD j 0))).toNat
theorem fE_cs (P : Int → Bool) (L : List Int) (a : Nat) : (fE P L a = L.length ∧ ∀ j, a ≤ j → j < L.length → P (L.getD j 0) = true) ∨ (a ≤ fE P L a ∧ fE P L a < L.length ∧ P (L.getD (fE P L a) 0) = false ∧ ∀ j, a ≤ j → j < fE P L a → P (L.getD j 0) = true) := by
  unfold fE
  rcases fnd_cs (fun j => decide (a ≤ j) && !P (L.getD j 0)) L.length with ⟨e, n⟩ | ⟨i, e, hi, p, n⟩
  · rw [if_pos e]
    refine .inl ⟨rfl, fun j h1 h2 => ?_⟩
    have := n j h2
    rw [dt h1, Bool.true_and] at this
    cases c : P (L.getD j 0) with
    | true => rfl
    | false => rw [c] at this; cases this
  · rw [e, if_neg (by omega), Int.toNat_natCast]
    rw [Bool.and_eq_true, decide_eq_true_eq] at p
    refine .inr ⟨p.1, hi, ?_, fun j h1 h2 => ?_⟩
    · cases c : P (L.getD i 0) with
      | false => rfl
      | true => rw [c] at p; cases p.2
    · have := n j h2
      rw [dt h1, Bool.true_and] at this
      cases c : P (L.getD j 0) with
      | true => rfl
      | false => rw [c] at this; cases this
theorem fE_le (P : Int → Bool) (L : List Int) (a : Nat) : fE P L a ≤ L.length := by
  rcases fE_cs P L a with h | h
  · omega
  · omega
theorem fE_ge {P : Int → Bool} {L : List Int} {a : Nat} (h : a ≤ L.length) : a ≤ fE P L a := by
  rcases fE_cs P L a with c | c
  · omega
  · exact c.1
theorem fE_stop {P : Int → Bool} {L : List Int} {a : Nat} (h : a < L.length) (n : P (L.getD a 0) = false) : fE P L a = a := by
  rcases fE_cs P L a with ⟨-, c⟩ | ⟨c1, c2, c3, c4⟩
  · rw [c a (Nat.le_refl _) h] at n; cases n
  · refine Classical.byContradiction fun y => ?_
    rw [c4 a (Nat.le_refl _) (by omega)] at n; cases n
theorem fE_end {P : Int → Bool} {L : List Int} {a : Nat} (h : L.length ≤ a) : fE P L a = L.length := by
  rcases fE_cs P L a with c | c
  · exact c.1
  · omega
theorem fE_step {P : Int → Bool} {L : List Int} {a : Nat} (p : P (L.getD a 0) = true) : fE P L a = fE P L (a + 1) := by
  have e : fnd L.length (fun j => decide (a ≤ j) && !P (L.getD j 0)) = fnd L.length (fun j => decide (a + 1 ≤ j) && !P (L.getD j 0)) := fnd_cg _ (fun j hj => by
    by_cases c : j = a
    · subst c; rw [p, df (show ¬ j + 1 ≤ j by omega)]; simp
    · rw [show decide (a ≤ j) = decide (a + 1 ≤ j) from decide_eq_decide.mpr (by omega)])
  unfold fE
  rw [e]
def skp (L : List Int) (a : Nat) : Nat := fE wsB L a
def te (L : List Int) (b : Nat) : Nat := if L.length ≤ b then L.length else if dgB (L.getD b 0) = true then fE dgB L b else if L.getD b 0 = 46 ∧ b + 1 < L.length ∧ L.getD (b + 1) 0 = 46 then b + 2 else b + 1
def nvl (L : List Int) (b : Nat) : Int := if fE dgB L b = b + 2 then 10 * (L.getD b 0 - 48) + (L.getD (b + 1) 0 - 48) else L.getD b 0 - 48
def tk (L : List Int) (np : Int) (b : Nat) : Tok := if L.length ≤ b then (0, (L.length : Nat), 0) else
  if dgB (L.getD b 0) = true then (if fE dgB L b ≤ b + 2 then 3 else 1, (b : Int), nvl L b) else
  if L.getD b 0 = 46 ∧ b + 1 < L.length ∧ L.getD (b + 1) 0 = 46 then (4, (b : Int), 0) else
  if 97 ≤ L.getD b 0 ∧ L.getD b 0 ≤ 108 then (if L.getD b 0 - 97 < np then 2 else 1, (b : Int), L.getD b 0 - 97) else
  if sgB (L.getD b 0) = true then (L.getD b 0, (b : Int), 0) else (1, (b : Int), 0)
/-- how the reference tells a token -/
def TKR (x y : Int) (t : Tok) : Prop := (t.1 = 0 ∧ x = 5) ∨ (t.1 = 1 ∧ x = 4) ∨ (t.1 = 2 ∧ x = 0 ∧ y = t.2.2) ∨ (t.1 = 3 ∧ x = 1 ∧ y = t.2.2) ∨ (t.1 = 4 ∧ x = 3) ∨ (33 ≤ t.1 ∧ x = 2 ∧ y = t.1)
def NxT (h g : XH) : Prop := Fr (fun b => b = 437) h g ∧ g.length = h.length ∧ xhs g = xhs h ∧ ∀ j, ¬ (13 ≤ j ∧ j ≤ 16) → el g 437 j = el h 437 j
theorem NxT_rf (h : XH) : NxT h h := ⟨Fr_rf _ _, rfl, rfl, fun _ _ => rfl⟩
theorem NxT_tr {h g k : XH} (a : NxT h g) (b : NxT g k) : NxT h k := ⟨Fr_tr a.1 (by rw [a.2.1]; exact Nat.le_refl _) b.1, b.2.1.trans a.2.1, b.2.2.1.trans a.2.2.1, fun j hj => (b.2.2.2 j hj).trans (a.2.2.2 j hj)⟩
theorem NxT_s {g g1 : XH} {i : Nat} {x : Int} (hi : 13 ≤ i ∧ i ≤ 16) (e : g1 = sI g 437 i x) : NxT g g1 := ⟨by rw [e]; exact Fr_sV rfl, by rw [e, len_sV], by rw [e, xhs_sV], fun j hj => by rw [e, el_ni (by omega)]⟩
theorem NxT_Z {h g : XH} {L : List Int} (T : HT h) (f : NxT h g) (z : Tape h 437 9 441 L) : Tape g 437 9 441 L := by
  have l := HT_len T
  exact ⟨(congrArg gvI (f.2.2.2 9 (by omega))).trans z.1, fun j hj => (sameC_I (f.1 441 (by omega) (by decide)) j).trans (z.2 j hj)⟩
theorem at37 {g g1 : XH} {i : Nat} {x : Int} (t : HT g) (hi : i < 64) (rx : rg x) (e : g1 = sI g 437 i x) : hI g1 437 i = x ∧ ∀ j, ¬ j = i → hI g1 437 j = hI g 437 j := by
  rw [e]
  exact ⟨hI_eq (by rw [(lstn t).2.2.2.2.1]; omega) rx, fun j hj => hI_ni (fun z => hj z.symm)⟩
set_option maxHeartbeats 1000000 in
theorem c_X14_isDigitAt {p0 : Int} {L : List Int} {h : XH} (Z : Tape h 437 9 441 L) (l : L.length ≤ 200) (h0 : 0 ≤ p0) {K : Int → Prop} (k : ∀ x, bq x (p0 < (L.length : Nat) ∧ dgB (L.getD p0.toNat 0) = true) → K x) : w_X14_isDigitAt p0 K h := by
  unfold w_X14_isDigitAt
  have z1 := Z.1
  have dd : ∀ c, dgB c = true ↔ 48 ≤ c ∧ c ≤ 57 := fun c => by unfold dgB; rw [decide_eq_true_eq]
  refine ⟨fun x => bq x (p0 < (L.length : Nat) ∧ dgB (L.getD p0.toNat 0) = true), ?_, ?_⟩
  · intro x1 rx1 z2
    refine ⟨(by rcases z2 with y | y; exact .inr y.1; exact .inl y.1), ?_⟩
    exact k _ z2
  · refine ⟨¬ (p0 < (L.length : Nat) ∧ dgB (L.getD p0.toNat 0) = true), ?_, ?_⟩
    · intro z4
      exact bqF z4
    · refine ⟨fun c8 => ?_, fun c8 => ?_⟩
      · exact fun y => by omega
      · refine ⟨(by omega), ?_⟩
        refine c_X14_within ?_
        intro x6 qx6
        rw [Z.2 _ (by omega)] at qx6
        replace qx6 := bq_iff qx6 (dd _).symm
        intro rx6 vx6
        refine ⟨fun c7 => ?_, fun c7 => ?_⟩
        · exact fun y => (bq1 qx6).2.1.mp c7 y.2
        · exact bqT ⟨by omega, (bq1 qx6).2.2.1.mp c7⟩
set_option maxHeartbeats 4000000 in
theorem c_X14_next {a : Nat} {N : Nat → Int} {L : List Int} {h : XH} (T : HT h) (Z : Tape h 437 9 441 L) (l : L.length ≤ 200) (r : ∀ j, 0 ≤ L.getD j 0 ∧ L.getD j 0 ≤ 255) (n0 : hI h 438 0 = N 0 ∧ 0 ≤ N 0 ∧ N 0 ≤ 12) (ha : hI h 437 13 = (a : Nat)) (al : a ≤ L.length) {K : XH → Prop} (k : ∀ g, NxT h g → hI g 437 13 = (te L (skp L a) : Nat) → hI g 437 14 = (skp L a : Nat) → TKR (hI g 437 15) (hI g 437 16) (tk L (N 0) (skp L a)) → K g) : w_X14_next K h := by
  unfold w_X14_next
  have L0 := HT_len T
  have dd : ∀ c, dgB c = true ↔ 48 ≤ c ∧ c ≤ 57 := fun c => by unfold dgB; rw [decide_eq_true_eq]
  have ww : ∀ c, wsB c = true ↔ c = 32 ∨ c = 10 := fun c => by unfold wsB; rw [decide_eq_true_eq]
  have ss : ∀ c, sgB c = true ↔ (c = 35 ∨ c = 124 ∨ c = 44 ∨ c = 42 ∨ c = 61 ∨ c = 62 ∨ c = 60 ∨ c = 94 ∨ c = 126 ∨ c = 46 ∨ c = 33) := fun c => by unfold sgB; rw [decide_eq_true_eq]
  refine ⟨fun g => NxT h g ∧ ∃ p : Nat, p ≤ L.length ∧ hI g 437 13 = (p : Nat) ∧ fE wsB L p = fE wsB L a, fun g => (((L.length : Nat) : Int) - hI g 437 13).toNat, ?_, ?_⟩
  · exact ⟨NxT_rf h, a, al, ha, rfl⟩
  · intro h1 t1 s1 z2
    obtain ⟨F, p, hp, ep, es⟩ := z2
    have Z1 := NxT_Z T F Z
    have z9 := Z1.1
    have rp := r p
    have rp1 := r (p + 1)
    refine ⟨fE wsB L p = p, ?_, ?_⟩
    · intro z3
      intro h4 eh4 t4 u4
      rw [ep] at eh4
      obtain ⟨b1, b2⟩ := at37 t1 (by decide) (by unfold rg; omega) eh4
      have F4 := NxT_tr F (NxT_s (by decide) eh4)
      have Z4 := NxT_Z T F4 Z
      have z49 := Z4.1
      have p13 : hI h4 437 13 = (p : Nat) := (b2 13 (by decide)).trans ep
      have sk : skp L a = p := es.symm.trans z3
      rw [sk] at k
      refine ⟨fun c64 => ?_, fun c64 => ?_⟩
      · have pl : p < L.length := by omega
        have teU : te L p = _ := if_neg (show ¬ L.length ≤ p by omega)
        have tkU : tk L (N 0) p = _ := if_neg (show ¬ L.length ≤ p by omega)
        intro x5 ex5 rx5
        refine ⟨(by omega), ?_⟩
        intro x7 ex7 rx7
        rw [ex5, p13, Int.toNat_natCast, Z4.2 p pl] at ex7
        refine c_X14_isDigitAt Z4 l (by omega) ?_
        intro x8 qx8
        rw [p13, Int.toNat_natCast, ← ex7] at qx8
        replace qx8 := bq_iff qx8 (show _ ↔ dgB x7 = true from ⟨fun y => y.2, fun y => ⟨by omega, y⟩⟩)
        rw [← ex7] at teU tkU rp
        intro rx8 vx8
        refine ⟨fun c62 => ?_, fun c62 => ?_⟩
        · have nd_ := (bq1 qx8).2.1.mp c62
          rw [if_neg nd_] at teU tkU
          intro h9 eh9 t9 u9
          rw [p13, wr_of (by omega) (by omega)] at eh9
          obtain ⟨d1, d2⟩ := at37 t4 (by decide) (by unfold rg; omega) eh9
          have F9 := NxT_tr F4 (NxT_s (by decide) eh9)
          have Z9 := NxT_Z T F9 Z
          have z99 := Z9.1
          have d14 : hI h9 437 14 = (p : Nat) := (d2 14 (by decide)).trans b1
          have nd2 : ¬ (48 ≤ x7 ∧ x7 ≤ 57) := fun y => nd_ ((dd _).mpr y)
          refine c_X14_within ?_
          intro x10 qx10
          intro rx10 vx10
          refine ⟨fun g => (NxT h g ∧ hI g 437 13 = (te L p : Nat) ∧ hI g 437 14 = (p : Nat) ∧ TKR (hI g 437 15) (hI g 437 16) (tk L (N 0) p)), ?_, ?_⟩
          · intro h13 t13 s13 z14
            exact k _ z14.1 z14.2.1 z14.2.2.1 z14.2.2.2
          · refine ⟨¬ (97 ≤ x7 ∧ x7 ≤ 108 ∧ x7 - 97 < N 0), ?_, ?_⟩
            · intro z15
              refine ⟨¬ (x7 = 46 ∧ p + 1 < L.length ∧ L.getD (p + 1) 0 = 46), ?_, ?_⟩
              · intro z16
                refine ⟨fun x => bq x (x7 = 35 ∨ x7 = 124 ∨ x7 = 44 ∨ x7 = 42 ∨ x7 = 61 ∨ x7 = 62 ∨ x7 = 60 ∨ x7 = 94 ∨ x7 = 126 ∨ x7 = 46 ∨ x7 = 33), ?_, ?_⟩
                · intro x17 rx17 z18
                  refine ⟨fun y => y = 2 ∧ (x7 = 35 ∨ x7 = 124 ∨ x7 = 44 ∨ x7 = 42 ∨ x7 = 61 ∨ x7 = 62 ∨ x7 = 60 ∨ x7 = 94 ∨ x7 = 126 ∨ x7 = 46 ∨ x7 = 33) ∨ y = 4 ∧ ¬ (x7 = 35 ∨ x7 = 124 ∨ x7 = 44 ∨ x7 = 42 ∨ x7 = 61 ∨ x7 = 62 ∨ x7 = 60 ∨ x7 = 94 ∨ x7 = 126 ∨ x7 = 46 ∨ x7 = 33), ?_, ?_⟩
                  · intro x19 rx19 z20
                    intro h21 eh21 t21 u21
                    intro h22 eh22 t22 u22
                    rw [if_neg z16] at teU tkU
                    obtain ⟨e1, e2⟩ := at37 t9 (by decide) (by unfold rg; omega) eh21
                    obtain ⟨f1, f2⟩ := at37 t21 (by decide) (by unfold rg; omega) eh22
                    refine ⟨NxT_tr F9 (NxT_tr (NxT_s (by decide) eh21) (NxT_s (by decide) eh22)), ?_, ?_, ?_⟩
                    · rw [f2 13 (by decide), e2 13 (by decide), d1, teU]; omega
                    · rw [f2 14 (by decide), e2 14 (by decide), d14]
                    · rw [f2 15 (by decide), e1, f1, tkU]
                      rcases z20 with ⟨y1, y2⟩ | ⟨y1, y2⟩
                      · rw [if_neg (by omega), if_pos ((ss _).mpr y2), y1]
                        exact .inr (.inr (.inr (.inr (.inr ⟨by dsimp only; omega, rfl, rfl⟩))))
                      · rw [y1]
                        by_cases w : 97 ≤ x7 ∧ x7 ≤ 108
                        · rw [if_pos w, if_neg (by omega)]; exact .inr (.inl ⟨rfl, rfl⟩)
                        · rw [if_neg w, if_neg (fun q => y2 ((ss _).mp q))]; exact .inr (.inl ⟨rfl, rfl⟩)
                  · refine ⟨fun c23 => ?_, fun c23 => ?_⟩
                    · exact .inr ⟨rfl, (bq1 z18).2.1.mp c23⟩
                    · exact .inl ⟨rfl, (bq1 z18).2.2.1.mp c23⟩
                · refine ⟨x7 = 35 ∨ x7 = 124 ∨ x7 = 44 ∨ x7 = 42 ∨ x7 = 61 ∨ x7 = 62 ∨ x7 = 60 ∨ x7 = 94 ∨ x7 = 126 ∨ x7 = 46 ∨ x7 = 33, ?_, ?_⟩
                  · intro z24
                    exact bqT z24
                  · refine ⟨fun c35 => ?_, fun c35 => ?_⟩
                    · omega
                    · refine ⟨fun c34 => ?_, fun c34 => ?_⟩
                      · omega
                      · refine ⟨fun c33 => ?_, fun c33 => ?_⟩
                        · omega
                        · refine ⟨fun c32 => ?_, fun c32 => ?_⟩
                          · omega
                          · refine ⟨fun c31 => ?_, fun c31 => ?_⟩
                            · omega
                            · refine ⟨fun c30 => ?_, fun c30 => ?_⟩
                              · omega
                              · refine ⟨fun c29 => ?_, fun c29 => ?_⟩
                                · omega
                                · refine ⟨fun c28 => ?_, fun c28 => ?_⟩
                                  · omega
                                  · refine ⟨fun c27 => ?_, fun c27 => ?_⟩
                                    · omega
                                    · refine ⟨fun c26 => ?_, fun c26 => ?_⟩
                                      · omega
                                      · refine ⟨fun c25 => ?_, fun c25 => ?_⟩
                                        · exact bqF (by omega)
                                        · omega
              · refine ⟨fun c42 => ?_, fun c42 => ?_⟩
                · exact fun y => c42 y.1
                · refine ⟨fun c41 => ?_, fun c41 => ?_⟩
                  · exact fun y => by omega
                  · intro x36 ex36 rx36
                    have v36 : hI h9 441 x36.toNat = L.getD (p + 1) 0 := by rw [ex36, d1, show ((p : Int) + 1).toNat = p + 1 by omega]; exact Z9.2 _ (by omega)
                    refine ⟨(by omega), ?_⟩
                    refine ⟨fun c40 => ?_, fun c40 => ?_⟩
                    · exact fun y => c40 (v36.trans y.2.2)
                    · intro h38 eh38 t38 u38
                      intro h39 eh39 t39 u39
                      have dots : x7 = 46 ∧ p + 1 < L.length ∧ L.getD (p + 1) 0 = 46 := ⟨by omega, by omega, v36.symm.trans (Decidable.not_not.mp c40)⟩
                      rw [if_pos dots] at teU tkU
                      rw [d1, wr_of (by omega) (by omega)] at eh38
                      obtain ⟨e1, e2⟩ := at37 t9 (by decide) (by unfold rg; omega) eh38
                      obtain ⟨f1, f2⟩ := at37 t38 (by decide) (rgk rfl) eh39
                      refine ⟨NxT_tr F9 (NxT_tr (NxT_s (by decide) eh38) (NxT_s (by decide) eh39)), ?_, ?_, ?_⟩
                      · rw [f2 13 (by decide), e1, teU]; omega
                      · rw [f2 14 (by decide), e2 14 (by decide), d14]
                      · rw [f1, tkU]; exact .inr (.inr (.inr (.inr (.inl ⟨rfl, rfl⟩))))
            · refine ⟨fun c47 => ?_, fun c47 => ?_⟩
              · skip
                have := (bq1 qx10).2.1.mp c47
                exact fun y => this ⟨y.1, y.2.1⟩
              · have w := (bq1 qx10).2.2.1.mp c47
                rw [wr_of (by omega) (by omega)]
                have n9 : hI h9 438 0 = N 0 := (sameC_I (F9.1 438 (by omega) (by decide)) 0).trans n0.1
                refine c_X14_isPack ?_ (by omega)
                intro x43 qx43
                rw [n9] at qx43
                intro rx43 vx43
                refine ⟨fun c46 => ?_, fun c46 => ?_⟩
                · have := (bq1 qx43).2.1.mp c46
                  exact fun y => this ⟨by omega, y.2.2⟩
                · intro h44 eh44 t44 u44
                  intro h45 eh45 t45 u45
                  have q := (bq1 qx43).2.2.1.mp c46
                  rw [if_neg (by omega)] at teU tkU
                  rw [if_pos w, if_pos q.2] at tkU
                  obtain ⟨e1, e2⟩ := at37 t9 (by decide) (rgk rfl) eh44
                  obtain ⟨f1, f2⟩ := at37 t44 (by decide) (by unfold rg; omega) eh45
                  refine ⟨NxT_tr F9 (NxT_tr (NxT_s (by decide) eh44) (NxT_s (by decide) eh45)), ?_, ?_, ?_⟩
                  · rw [f2 13 (by decide), e2 13 (by decide), d1, teU]; omega
                  · rw [f2 14 (by decide), e2 14 (by decide), d14]
                  · rw [f2 15 (by decide), e1, f1, tkU]; exact .inr (.inr (.inl ⟨rfl, rfl, rfl⟩))
        · have dg_ := (bq1 qx8).2.2.1.mp c62
          rw [if_pos dg_] at teU tkU
          have dgp : dgB (L.getD p 0) = true := by rw [← ex7]; exact dg_
          have dn := (dd _).mp dg_
          have st := fE_step (P := dgB) (L := L) (a := p) dgp
          have ge := fE_ge (P := dgB) (L := L) (a := p + 1) (by omega)
          intro h48 eh48 t48 u48
          obtain ⟨d1, d2⟩ := at37 t4 (by decide) (rgk rfl) eh48
          have F48 := NxT_tr F4 (NxT_s (by decide) eh48)
          refine ⟨fun g => NxT h g ∧ hI g 437 14 = (p : Nat) ∧ ∃ q : Nat, p ≤ q ∧ q ≤ L.length ∧ hI g 437 13 = (q : Nat) ∧ fE dgB L q = fE dgB L p ∧ 0 ≤ hI g 437 16 ∧ hI g 437 16 ≤ 1000 ∧ (q = p → hI g 437 16 = 0) ∧ (q = p + 1 → hI g 437 16 = x7 - 48) ∧ (q = p + 2 → hI g 437 16 = 10 * (x7 - 48) + (L.getD (p + 1) 0 - 48)), fun g => (((L.length : Nat) : Int) - hI g 437 13).toNat, ?_, ?_⟩
          · exact ⟨F48, (d2 14 (by decide)).trans b1, p, Nat.le_refl _, hp, (d2 13 (by decide)).trans p13, rfl, by omega, by omega, fun _ => d1, fun y => by omega, fun y => by omega⟩
          · intro h49 t49 s49 z50
            obtain ⟨G, g14, q, pq, ql, g13, gs, v0, v1, w0, w1, w2⟩ := z50
            have Z49 := NxT_Z T G Z
            have rq := r q
            refine c_X14_isDigitAt Z49 l (by omega) ?_
            intro x51 qx51
            rw [g13, Int.toNat_natCast] at qx51
            intro rx51 vx51
            refine ⟨fun c61 => ?_, fun c61 => ?_⟩
            · have nq := (bq1 qx51).2.1.mp c61
              have fq : fE dgB L q = q := by
                by_cases y : q < L.length
                · refine fE_stop y ?_
                  cases z : dgB (L.getD q 0) with
                  | false => rfl
                  | true => exact absurd ⟨by omega, z⟩ nq
                · rw [fE_end (by omega)]; omega
              have fp : fE dgB L p = q := gs.symm.trans fq
              rw [g13, g14, wr_of (by omega) (by omega)]
              rw [fp] at teU tkU
              refine ⟨fun y => y = 1 ∧ q ≤ p + 2 ∨ y = 4 ∧ ¬ q ≤ p + 2, ?_, ?_⟩
              · intro x52 rx52 z53
                intro h54 eh54 t54 u54
                obtain ⟨e1, e2⟩ := at37 t49 (by decide) (by unfold rg; omega) eh54
                refine k _ (NxT_tr G (NxT_s (by decide) eh54)) ?_ ?_ ?_
                · rw [e2 13 (by decide), g13, teU]
                · rw [e2 14 (by decide)]; exact g14
                · rw [e1, e2 16 (by decide), tkU]
                  rcases z53 with ⟨y1, y2⟩ | ⟨y1, y2⟩
                  · rw [y1, if_pos y2]
                    refine .inr (.inr (.inr (.inl ⟨rfl, rfl, ?_⟩)))
                    show _ = nvl L p
                    unfold nvl
                    rw [fp, ← ex7]
                    by_cases y : q = p + 2
                    · rw [if_pos y]; exact w2 y
                    · rw [if_neg y]; exact w1 (by omega)
                  · rw [y1, if_neg y2]; exact .inr (.inl ⟨rfl, rfl⟩)
              · refine ⟨fun c55 => ?_, fun c55 => ?_⟩
                · exact .inl ⟨rfl, by omega⟩
                · exact .inr ⟨rfl, by omega⟩
            · have yq := (bq1 qx51).2.2.1.mp c61
              have dq := (dd _).mp yq.2
              have yq1 := yq.1
              intro x56 ex56 rx56
              have v56 : hI h49 441 x56.toNat = L.getD q 0 := by rw [ex56, g13, Int.toNat_natCast]; exact Z49.2 q (by omega)
              refine ⟨(by omega), ?_⟩
              rw [v56, wr_of (x := 10 * hI h49 437 16) (by omega) (by omega), wr_of (x := 10 * hI h49 437 16 + L.getD q 0) (by omega) (by omega), wr_of (by omega) (by omega)]
              refine c_J9_min_7cf53 ?_
              intro x58 ex58
              intro rx58
              intro h59 eh59 t59 u59
              intro h60 eh60 t60 u60
              obtain ⟨e1, e2⟩ := at37 t49 (by decide) (by unfold rg; omega) eh59
              rw [e2 13 (by decide), g13, wr_of (by omega) (by omega)] at eh60
              obtain ⟨f1, f2⟩ := at37 t59 (by decide) (by unfold rg; omega) eh60
              have vv : hI h60 437 16 = x58 := (f2 16 (by decide)).trans e1
              refine ⟨⟨NxT_tr G (NxT_tr (NxT_s (by decide) eh59) (NxT_s (by decide) eh60)), (f2 14 (by decide)).trans ((e2 14 (by decide)).trans g14), q + 1, by omega, by omega, by rw [f1]; omega, (fE_step yq.2).symm.trans gs, by omega, by omega, fun y => by omega, fun y => ?_, fun y => ?_⟩, by dsimp only; rw [f1, g13]; omega⟩
              · have qp : q = p := by omega
                have := w0 qp
                rw [qp, ← ex7] at ex58
                omega
              · have qp : q = p + 1 := by omega
                have := w1 qp
                rw [qp] at ex58 dq
                omega
      · intro h63 eh63 t63 u63
        have pe : p = L.length := by omega
        obtain ⟨d1, d2⟩ := at37 t4 (by decide) (rgk rfl) eh63
        refine k _ (NxT_tr F4 (NxT_s (by decide) eh63)) ?_ ?_ ?_
        · rw [d2 13 (by decide), p13]; unfold te; rw [if_pos (by omega)]; omega
        · rw [d2 14 (by decide)]; exact b1
        · rw [d1]; unfold tk; rw [if_pos (by omega)]; exact .inl ⟨rfl, rfl⟩
    · refine ⟨fun c73 => ?_, fun c73 => ?_⟩
      · have pe : p = L.length := by omega
        rw [pe]; exact fE_end (Nat.le_refl _)
      · intro x65 ex65 rx65
        have v65 : hI h1 441 x65.toNat = L.getD p 0 := by rw [ex65, ep, Int.toNat_natCast]; exact Z1.2 p (by omega)
        refine ⟨(by omega), ?_⟩
        refine ⟨wsB (L.getD p 0) = true, ?_, ?_⟩
        · intro z67
          intro h68 eh68 t68 u68
          rw [ep, wr_of (by omega) (by omega)] at eh68
          obtain ⟨a1, a2⟩ := at37 t1 (by decide) (by unfold rg; omega) eh68
          exact ⟨⟨NxT_tr F (NxT_s (by decide) eh68), p + 1, by omega, by rw [a1]; omega, (fE_step z67).symm.trans es⟩, by dsimp only; rw [a1, ep]; omega⟩
        · refine ⟨fun c72 => ?_, fun c72 => ?_⟩
          · exact (ww _).mpr (.inl (v65.symm.trans c72))
          · intro x69 ex69 rx69
            have v69 : hI h1 441 x69.toNat = L.getD p 0 := by rw [ex69, ep, Int.toNat_natCast]; exact Z1.2 p (by omega)
            refine ⟨(by omega), ?_⟩
            refine ⟨fun c71 => ?_, fun c71 => ?_⟩
            · refine fE_stop (by omega) ?_
              cases q : wsB (L.getD p 0) with
              | false => rfl
              | true =>
                rcases (ww _).mp q with y | y
                · exact absurd (v65.trans y) c72
                · exact absurd (v69.trans y) c71
            · exact (ww _).mpr (.inr (v69.symm.trans (Decidable.not_not.mp c71)))
