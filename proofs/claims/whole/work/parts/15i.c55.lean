/-! THE TOKENS LIE READY; versions, the class -/
/-- the tokens, n of them and the end -/
def CTab (g : XH) (L : List Int) (np : Int) (n : Nat) : Prop := n ≤ 200 ∧ (tT L np n).1 = 0 ∧ (∀ k, k < n → ¬ (tT L np k).1 = 0) ∧ ∀ k, k ≤ n → hI g 5 k = (tT L np k).1 ∧ hI g 6 k = (tT L np k).2.1 ∧ hI g 7 k = (tT L np k).2.2
/-- the class stands at the token i -/
def CB (g : XH) (L : List Int) (np : Int) (n i : Nat) : Prop := CTab g L np n ∧ hI g 3 7 = (i : Nat) ∧ i ≤ n ∧ hI g 3 2 = -1
/-- it has found a fault -/
def CE (g : XH) (e : Int) : Prop := hI g 3 2 = e ∧ ¬ e = -1 ∧ 0 ≤ hI g 3 7 ∧ hI g 3 7 ≤ 200
theorem CB_n {g : XH} {L : List Int} {np : Int} {n i : Nat} (B : CB g L np n i) (h : ¬ (tT L np i).1 = 0) : i + 1 ≤ n := by
  refine Classical.byContradiction fun y => h ?_
  have : i = n := by have := B.2.2.1; omega
  rw [this]; exact B.1.2.1
theorem tpo_skp {L : List Int} {np : Int} {a m : Nat} (e : skp L a = skp L (tpo L m)) : tk L np (skp L a) = tT L np m ∧ te L (skp L a) = tpo L (m + 1) := ⟨by unfold tT; rw [e], by rw [e]; rfl⟩
def FTF (h g : XH) : Prop := Fr (fun b => b = 3 ∨ (5 ≤ b ∧ b < 8)) h g ∧ g.length = h.length ∧ xhs g = xhs h ∧ ∀ j, ¬ j = 2 → ¬ j = 6 → ¬ j = 7 → el g 3 j = el h 3 j
set_option maxHeartbeats 2000000 in
theorem c_X5_findTokens {L : List Int} {h : XH} {np : Int} (T : HT h) (Z : Tape h 3 1 4 L) (ok : LOK L) (hnp : 0 ≤ np ∧ np ≤ 12) {K : XH → Prop} (k : ∀ g n, FTF h g → CB g L np n 0 → K g) : w_X5_findTokens np K h := by
  unfold w_X5_findTokens
  have l := ok.1
  have L0 := HT_len T
  intro h1 eh1 t1 u1
  intro h2 eh2 t2 u2
  intro h3 eh3 t3 u3
  have s3 : ∀ b, ¬ b = 3 → sameC h h3 b := fun b n => by
    rw [eh3, eh2, eh1]
    exact sameC_tr (sameC_tr (sameC_sV (fun z => n z.symm)) (sameC_sV (fun z => n z.symm))) (sameC_sV (fun z => n z.symm))
  have g3 : ∀ j, ¬ j = 2 → ¬ j = 6 → ¬ j = 7 → el h3 3 j = el h 3 j := fun j a b c => by rw [eh3, el_ni (fun z => b z.symm), eh2, el_ni (fun z => c z.symm), eh1, el_ni (fun z => a z.symm)]
  have F3 : FTF h h3 := ⟨fun b _ n => s3 b (fun z => n (.inl z)), by rw [eh3, eh2, eh1, len_sV, len_sV, len_sV], by rw [eh3, eh2, eh1, xhs_sV, xhs_sV, xhs_sV], g3⟩
  have v2 : hI h3 3 2 = -1 := by rw [eh3, hI_ni (by decide), eh2, hI_ni (by decide), eh1]; exact hI_eq (n3_ T rfl) (rgk rfl)
  have v7 : hI h3 3 7 = 0 := by rw [eh3, hI_ni (by decide), eh2]; exact hI_eq (n3_ t1 rfl) (rgk rfl)
  have v6 : hI h3 3 6 = 0 := by rw [eh3]; exact hI_eq (n3_ t2 rfl) (rgk rfl)
  refine ⟨fun x y g => ∃ a m : Nat, x = (a : Int) ∧ a ≤ L.length ∧ 0 ≤ y ∧ y ≤ (a : Int) ∧ (m : Int) ≤ y ∧ skp L a = skp L (tpo L m) ∧ FTF h g ∧ hI g 3 2 = -1 ∧ hI g 3 7 = 0 ∧ hI g 3 6 = (m : Nat) ∧ (∀ k, k < m → ¬ (tT L np k).1 = 0) ∧ ∀ k, k < m → hI g 5 k = (tT L np k).1 ∧ hI g 6 k = (tT L np k).2.1 ∧ hI g 7 k = (tT L np k).2.2, fun x _ _ => (((L.length : Nat) : Int) - x).toNat, ?_, ?_⟩
  · exact ⟨0, 0, rfl, Nat.zero_le _, by omega, by omega, by omega, rfl, F3, v2, v7, v6, fun k hk => by omega, fun k hk => by omega⟩
  · intro x4 x5 h6 t6 s6 rx4 rx5 z7
    obtain ⟨a, m, ea, al, y0, ya, my, sk, F6, w2, w7, w6, nz, tb⟩ := z7
    have Z6 : Tape h6 3 1 4 L := ⟨(congrArg gvI (F6.2.2.2 1 (by decide) (by decide) (by decide))).trans Z.1, fun j hj => (sameC_I (F6.1 4 (by omega) (by decide)) j).trans (Z.2 j hj)⟩
    have z61 := Z6.1
    refine ⟨a = L.length, ?_, ?_⟩
    · intro z8
      rw [z61]
      refine c_X5_addToken t6 w6 (by omega) (rgk rfl) (by unfold rg; omega) (rgk rfl) ?_
      intro h9 A9
      obtain ⟨f1, f2, f3, f4, f5, f6, f7, f8, f9⟩ := A9
      intro t9 u9
      have se : skp L a = L.length := by rw [z8]; exact fE_end (Nat.le_refl _)
      have tm : tT L np m = (0, ((L.length : Nat) : Int), 0) := by rw [← (tpo_skp (np := np) sk).1, se]; unfold tk; rw [if_pos (Nat.le_refl _)]
      refine k _ m ⟨Fr_tr F6.1 (by have := F6.2.1; omega) f1, f2.trans F6.2.1, f3.trans F6.2.2.1, fun j n1 n2 n3 => (f4 j n2).trans (F6.2.2.2 j n1 n2 n3)⟩ ⟨⟨by omega, by rw [tm], nz, fun q hq => ?_⟩, (congrArg gvI (f4 7 (by decide))).trans w7, Nat.zero_le _, (congrArg gvI (f4 2 (by decide))).trans w2⟩
      by_cases c : q = m
      · rw [c, tm]; exact ⟨f6, f7, f8⟩
      · obtain ⟨e1, e2, e3⟩ := f9 q c
        rw [e1, e2, e3]
        exact tb q (by omega)
    · refine ⟨fun c14 => ?_, fun c14 => ?_⟩
      · omega
      · refine ⟨fun c13 => ?_, fun c13 => ?_⟩
        · omega
        · have al2 : a < L.length := by omega
          rw [ea]
          refine c_X5_addNextToken t6 Z6 ok al2 w6 (by omega) hnp ?_
          intro x10 h11 q11
          intro t11 u11
          intro rx10
          intro x12 ex12 rx12
          rw [wr_of (by omega) (by omega)] at ex12
          rcases q11 with ⟨ws_, ex, eg⟩ | ⟨ws_, ex, A⟩
          · rw [eg]
            refine ⟨⟨a + 1, m, by omega, by omega, by omega, by omega, by omega, (fE_step ws_).symm.trans sk, F6, w2, w7, w6, nz, tb⟩, by dsimp only; omega⟩
          · obtain ⟨f1, f2, f3, f4, f5, f6, f7, f8, f9⟩ := A
            have sa : skp L a = a := fE_stop al2 ws_
            have tq := tpo_skp (np := np) sk
            rw [sa] at tq
            have gt := te_gt al2
            have le := te_le L a
            have nk : ¬ (tT L np m).1 = 0 := fun y => by
              have := (tk_k (np := np) ok.2 al).2.1 (by rw [tq.1]; exact y)
              omega
            refine ⟨⟨te L a, m + 1, ex, le, by omega, by omega, by omega, by rw [tq.2], ⟨Fr_tr F6.1 (by have := F6.2.1; omega) f1, f2.trans F6.2.1, f3.trans F6.2.2.1, fun j n1 n2 n3 => (f4 j n2).trans (F6.2.2.2 j n1 n2 n3)⟩, (congrArg gvI (f4 2 (by decide))).trans w2, (congrArg gvI (f4 7 (by decide))).trans w7, by rw [f5]; omega, fun q hq => ?_, fun q hq => ?_⟩, by dsimp only; omega⟩
            · by_cases c : q = m
              · rw [c]; exact nk
              · exact nz q (by omega)
            · by_cases c : q = m
              · rw [c, ← tq.1]; exact ⟨f6, f7, f8⟩
              · obtain ⟨e1, e2, e3⟩ := f9 q c
                rw [e1, e2, e3]
                exact tb q (by omega)
/-- reading: what may change of old cells -/
def RFr (h g : XH) : Prop := Fr (fun b => b = 3 ∨ b = 5) h g ∧ h.length ≤ g.length ∧ ∀ j, ¬ j = 2 → ¬ j = 7 → el g 3 j = el h 3 j
theorem RFr_rf (h : XH) : RFr h h := ⟨Fr_rf _ _, Nat.le_refl _, fun _ _ _ => rfl⟩
theorem RFr_tr {h g k : XH} (a : RFr h g) (b : RFr g k) : RFr h k := ⟨Fr_tr a.1 a.2.1 b.1, Nat.le_trans a.2.1 b.2.1, fun j n m => (b.2.2 j n m).trans (a.2.2 j n m)⟩
theorem RFr_s {h g : XH} {j : Nat} {x : Int} (hj : j = 2 ∨ j = 7) (e : g = sI h 3 j x) : RFr h g ∧ g.length = h.length ∧ xhs g = xhs h := ⟨⟨by rw [e]; exact Fr_sV (.inl rfl), by rw [e, len_sV]; exact Nat.le_refl _, fun i n m => by rw [e, el_ni (by omega)]⟩, by rw [e, len_sV], by rw [e, xhs_sV]⟩
theorem RFr_5 {h g : XH} {j : Nat} {x : Int} (e : g = sI h 5 j x) : RFr h g ∧ g.length = h.length ∧ xhs g = xhs h := ⟨⟨by rw [e]; exact Fr_sV (.inr rfl), by rw [e, len_sV]; exact Nat.le_refl _, fun i n m => by rw [e, el_ne (by decide)]⟩, by rw [e, len_sV], by rw [e, xhs_sV]⟩
/-- the same, and nothing new -/
def RF0 (h g : XH) : Prop := RFr h g ∧ g.length = h.length ∧ xhs g = xhs h
theorem RF0_rf (h : XH) : RF0 h h := ⟨RFr_rf h, rfl, rfl⟩
theorem RF0_tr {h g k : XH} (a : RF0 h g) (b : RF0 g k) : RF0 h k := ⟨RFr_tr a.1 b.1, b.2.1.trans a.2.1, b.2.2.trans a.2.2⟩
theorem CTab_fr {h g : XH} {L : List Int} {np : Int} {n : Nat} (z : CTab h L np n) (s5 : sameC h g 5) (s6 : sameC h g 6) (s7 : sameC h g 7) : CTab g L np n := ⟨z.1, z.2.1, z.2.2.1, fun k hk => by rw [sameC_I s5, sameC_I s6, sameC_I s7]; exact z.2.2.2 k hk⟩
theorem CB_s {h g : XH} {L : List Int} {np : Int} {n i j : Nat} {x : Int} (T : HT h) (z : CB h L np n i) (ex : x = (j : Nat)) (hj : j ≤ n) (e : g = sI h 3 7 x) : CB g L np n j := by
  have l := z.1.1
  refine ⟨CTab_fr z.1 (by rw [e]; exact sameC_sV (by decide)) (by rw [e]; exact sameC_sV (by decide)) (by rw [e]; exact sameC_sV (by decide)), ?_, hj, by rw [e, hI_ni (by decide)]; exact z.2.2.2⟩
  rw [e, ex]
  exact hI_eq (n3_ T rfl) (by unfold rg; omega)
theorem tT_b0 {L : List Int} {np : Int} (ok : LOK L) (i : Nat) : 0 ≤ (tT L np i).2.1 ∧ (tT L np i).2.1 ≤ 200 := by
  rw [(tT_k (np := np) ok i).1]
  have := skp_le L (tpo L i)
  have := ok.1
  omega
set_option maxHeartbeats 1000000 in
theorem c_X5_pass {due : Int} {L : List Int} {h : XH} {np : Int} {n i : Nat} (T : HT h) (ok : LOK L) (B : CB h L np n i) {K : Int → XH → Prop} (k : ∀ x g, RF0 h g → (((tT L np i).1 = due ∧ x = (tT L np i).2.2 ∧ CB g L np n (if due = 0 then i else i + 1)) ∨ (¬ (tT L np i).1 = due ∧ x = -1 ∧ CE g (tT L np i).2.1)) → K x g) : w_X5_pass due K h := by
  unfold w_X5_pass
  obtain ⟨e5, e6, e7⟩ := B.1.2.2.2 i B.2.2.1
  have n200 := B.1.1
  have b7 := B.2.1
  have bi := B.2.2.1
  have b0 := tT_b0 (np := np) ok i
  intro x1 ex1 rx1
  rw [b7] at ex1
  rw [ex1, Int.toNat_natCast]
  refine ⟨(by omega), ?_⟩
  refine ⟨fun c16 => ?_, fun c16 => ?_⟩
  · rw [e5] at c16
    intro x3 ex3 rx3
    rw [b7] at ex3
    rw [ex3, Int.toNat_natCast]
    refine ⟨(by omega), ?_⟩
    intro x5 ex5 rx5
    rw [e7] at ex5
    refine ⟨fun y => y = (if due = 0 then 0 else 1), ?_, ?_⟩
    · intro x6 rx6 z7
      intro h8 eh8 t8 u8
      have j01 : (x6 = 0 ∧ due = 0) ∨ (x6 = 1 ∧ ¬ due = 0) := by
        rw [z7]
        by_cases c : due = 0
        · rw [if_pos c]; exact .inl ⟨rfl, c⟩
        · rw [if_neg c]; exact .inr ⟨rfl, c⟩
      rw [b7, wr_of (by omega) (by omega)] at eh8
      refine k _ _ (RFr_s (.inr rfl) eh8) (.inl ⟨c16, ex5, ?_⟩)
      rcases j01 with ⟨y1, y2⟩ | ⟨y1, y2⟩
      · rw [if_pos y2]; exact CB_s T B (by omega) bi eh8
      · rw [if_neg y2]; exact CB_s T B (by omega) (CB_n B (by omega)) eh8
    · refine ⟨fun c9 => ?_, fun c9 => ?_⟩
      · rw [if_neg c9]
      · rw [if_pos (Decidable.not_not.mp c9)]
  · rw [e5] at c16
    have w2 := B.2.2.2
    refine ⟨fun y => y = (tT L np i).2.1, ?_, ?_⟩
    · intro x10 rx10 z11
      intro h12 eh12 t12 u12
      refine k _ _ (RFr_s (.inl rfl) eh12) (.inr ⟨c16, rfl, ?_, by omega, ?_⟩)
      · rw [eh12, z11]; exact hI_eq (n3_ T rfl) (by unfold rg; omega)
      · rw [eh12, hI_ni (by decide), b7]; omega
    · refine ⟨fun c15 => ?_, fun c15 => ?_⟩
      · omega
      · intro x13 ex13 rx13
        rw [b7] at ex13
        rw [ex13, Int.toNat_natCast]
        refine ⟨(by omega), ?_⟩
        exact e6
set_option maxHeartbeats 1000000 in
theorem c_X5_isNext {due : Int} {L : List Int} {h : XH} {np : Int} {n i : Nat} (B : CB h L np n i) {K : Int → Prop} (k : ∀ x, bq x ((tT L np i).1 = due) → K x) : w_X5_isNext due K h := by
  unfold w_X5_isNext
  obtain ⟨e5, e6, e7⟩ := B.1.2.2.2 i B.2.2.1
  have n200 := B.1.1
  have b7 := B.2.1
  have bi := B.2.2.1
  intro x1 ex1 rx1
  rw [b7] at ex1
  rw [ex1, Int.toNat_natCast, e5]
  refine ⟨(by omega), ?_⟩
  refine ⟨fun x => bq x ((tT L np i).1 = due), ?_, ?_⟩
  · intro x3 rx3 z4
    refine ⟨(by rcases z4 with y | y; exact .inr y.1; exact .inl y.1), ?_⟩
    exact k _ z4
  · refine ⟨fun c6 => ?_, fun c6 => ?_⟩
    · exact bqF c6
    · exact bqT (Decidable.not_not.mp c6)
theorem tk_46 {L : List Int} {np : Int} (ok : LOK L) {i : Nat} (h : (tT L np i).1 = 46) : (tT L np i).2.2 = 0 := by
  unfold tT tk at h ⊢
  by_cases c1 : L.length ≤ skp L (tpo L i)
  · rw [if_pos c1]
  · rw [if_neg c1] at h ⊢
    by_cases c2 : dgB (L.getD (skp L (tpo L i)) 0) = true
    · rw [if_pos c2] at h
      dsimp only at h
      split at h <;> omega
    · rw [if_neg c2] at h ⊢
      by_cases c3 : L.getD (skp L (tpo L i)) 0 = 46 ∧ skp L (tpo L i) + 1 < L.length ∧ L.getD (skp L (tpo L i) + 1) 0 = 46
      · rw [if_pos c3]
      · rw [if_neg c3] at h ⊢
        by_cases c4 : 97 ≤ L.getD (skp L (tpo L i)) 0 ∧ L.getD (skp L (tpo L i)) 0 ≤ 108
        · rw [if_pos c4] at h
          dsimp only at h
          split at h <;> omega
        · rw [if_neg c4] at h ⊢
          by_cases c5 : sgB (L.getD (skp L (tpo L i)) 0) = true
          · rw [if_pos c5]
          · rw [if_neg c5]
/-- the trial number is passed, or is a fault -/
theorem c_pass3 {L : List Int} {h : XH} {np : Int} {n i : Nat} (T : HT h) (z : (¬ ((tT L np i).1 = 3 ∧ 1 ≤ (tT L np i).2.2 ∧ (tT L np i).2.2 ≤ 98) ∧ ¬ hI h 5 i = 3 ∧ hI h 6 i = (tT L np i).2.1 ∧ hI h 3 7 = ((i : Nat) : Int) ∧ hI h 3 2 = -1) ∨ (((tT L np i).1 = 3 ∧ 1 ≤ (tT L np i).2.2 ∧ (tT L np i).2.2 ≤ 98) ∧ CB h L np n i)) (ok : LOK L) (hi : i ≤ 200) {K : Int → XH → Prop} (k : ∀ x g, RF0 h g → ((((tT L np i).1 = 3 ∧ 1 ≤ (tT L np i).2.2 ∧ (tT L np i).2.2 ≤ 98) ∧ x = (tT L np i).2.2 ∧ CB g L np n (i + 1)) ∨ (¬ ((tT L np i).1 = 3 ∧ 1 ≤ (tT L np i).2.2 ∧ (tT L np i).2.2 ≤ 98) ∧ x = -1 ∧ CE g (tT L np i).2.1)) → K x g) : w_X5_pass 3 K h := by
  rcases z with ⟨y1, y2, y3, y4, y5⟩ | ⟨y1, y2⟩
  · have b0 := tT_b0 (np := np) ok i
    unfold w_X5_pass
    intro x1 ex1 _
    rw [y4] at ex1
    rw [ex1, Int.toNat_natCast]
    refine ⟨by omega, fun c => absurd c y2, fun _ => ⟨fun y => y = (tT L np i).2.1, ?_, fun c => absurd y5 c, fun _ x13 ex13 _ => ?_⟩⟩
    · intro x10 _ z11 h12 eh12 _ _
      refine k _ _ (RFr_s (.inl rfl) eh12) (.inr ⟨y1, rfl, ?_, by omega, ?_⟩)
      · rw [eh12, z11]; exact hI_eq (n3_ T rfl) (by unfold rg; omega)
      · rw [eh12, hI_ni (by decide), y4]; omega
    · rw [y4] at ex13
      rw [ex13, Int.toNat_natCast]
      exact ⟨by omega, y3⟩
  · refine c_X5_pass T ok y2 (fun x g F q => k x g F ?_)
    rcases q with ⟨q1, q2, q3⟩ | ⟨q1, -⟩
    · exact .inl ⟨y1, q2, q3⟩
    · exact absurd y1.1 q1
set_option maxHeartbeats 2000000 in
theorem c_X5_readVersion {L : List Int} {h : XH} {np : Int} {n i : Nat} (T : HT h) (ok : LOK L) (B : CB h L np n i) {K : Int → XH → Prop} (k : ∀ x g, RF0 h g → ((x = -1 ∧ ∃ e, rV (tT L np) i = .inl e ∧ CE g e) ∨ (∃ j, rV (tT L np) i = .inr (x, j) ∧ CB g L np n j)) → K x g) : w_X5_readVersion K h := by
  unfold w_X5_readVersion
  have v0 := (tT_k (np := np) ok i).2.2.2
  have v2 := (tT_k (np := np) ok (i + 2)).2.2.2
  have v4 := (tT_k (np := np) ok (i + 4)).2.2.2
  have n200 := B.1.1
  refine c_X5_pass T ok B ?_
  intro x1 h2 F2 q2
  intro t2 u2
  intro rx1
  refine ⟨fun g => RF0 h g ∧ ∃ e, rV (tT L np) i = .inl e ∧ CE g e, ?_, ?_⟩
  · intro h3 t3 s3 z4
    exact k _ _ z4.1 (.inl ⟨rfl, z4.2⟩)
  · refine ⟨fun c36 => ?_, fun c36 => ?_⟩
    · rcases q2 with ⟨y1, y2, -⟩ | ⟨y1, -, y3⟩
      · have := v0 y1; omega
      · exact ⟨F2, _, by unfold rV; rw [if_pos y1], y3⟩
    · obtain ⟨k3, ex1, B2_⟩ := q2.resolve_right (fun y => c36 y.2.1)
      have B2 : CB h2 L np n (i + 1) := B2_
      have w0 := v0 k3
      refine c_X5_pass t2 ok B2 ?_
      intro x5 h6 F6 q6
      intro t6 u6
      intro rx5
      refine ⟨fun c35 => ?_, fun c35 => ?_⟩
      · obtain ⟨k46, -, B6_⟩ := q6.resolve_right (fun y => c35 y.2.1)
        have B6 : CB h6 L np n (i + 2) := B6_
        refine c_X5_pass t6 ok B6 ?_
        intro x7 h8 F8 q8
        intro t8 u8
        intro rx7
        have F08 := RF0_tr (RF0_tr F2 F6) F8
        refine ⟨(x7 = -1 ∧ ∃ e, rV (tT L np) i = .inl e ∧ CE h8 e) ∨ (¬ x7 = -1 ∧ rV (tT L np) i = .inr (10000 * x1 + 100 * x7 + 99, i + 3) ∧ CB h8 L np n (i + 3) ∧ 0 ≤ x7 ∧ x7 ≤ 99), ?_, ?_⟩
        · intro z9
          refine ⟨fun y => (y = -1 ∧ ∃ e, rV (tT L np) i = .inl e ∧ CE h8 e) ∨ ∃ j, rV (tT L np) i = .inr (y, j) ∧ CB h8 L np n j, ?_, ?_⟩
          · intro x10 rx10 z11
            exact k _ _ F08 z11
          · refine ⟨fun c12 => ?_, fun c12 => ?_⟩
            · obtain ⟨-, y1, y2, y3, y4⟩ := z9.resolve_left (fun y => c12 y.1)
              rw [wr_of (x := 10000 * x1) (by omega) (by omega), wr_of (x := 100 * x7) (by omega) (by omega), wr_of (x := 10000 * x1 + 100 * x7) (by omega) (by omega), wr_of (by omega) (by omega)]
              exact .inr ⟨_, y1, y2⟩
            · rcases z9 with y | y
              · exact .inl ⟨rfl, y.2⟩
              · exact absurd y.1 c12
        · refine ⟨fun c34 => ?_, fun c34 => ?_⟩
          · rcases q8 with ⟨y1, y2, -⟩ | ⟨y1, -, y3⟩
            · have := v2 y1; omega
            · exact .inl ⟨c34, _, by unfold rV; rw [if_neg (fun y => y k3), if_neg (fun y => y k46), if_pos y1], y3⟩
          · obtain ⟨k3b, ex7, B8_⟩ := q8.resolve_right (fun y => c34 y.2.1)
            have B8 : CB h8 L np n (i + 3) := B8_
            have w2 := v2 k3b
            refine c_X5_isNext B8 ?_
            intro x13 qx13
            intro rx13 vx13
            refine ⟨fun c33 => ?_, fun c33 => ?_⟩
            · have k33 := (bq1 qx13).2.2.1.mp c33
              have l3 := CB_n B8 (by omega)
              intro h14 eh14 t14 u14
              rw [B8.2.1, wr_of (by omega) (by omega)] at eh14
              have B14 : CB h14 L np n (i + 4) := CB_s t8 B8 (by omega) (by omega) eh14
              have F014 := RF0_tr F08 (RFr_s (.inr rfl) eh14)
              obtain ⟨g5, g6, g7⟩ := B14.1.2.2.2 (i + 4) B14.2.2.1
              have b147 := B14.2.1
              have rU : rV (tT L np) i = if ¬ ((tT L np (i + 4)).1 = 3 ∧ 1 ≤ (tT L np (i + 4)).2.2 ∧ (tT L np (i + 4)).2.2 ≤ 98) then .inl (tT L np (i + 4)).2.1 else .inr (10000 * (tT L np i).2.2 + 100 * (tT L np (i + 2)).2.2 + (tT L np (i + 4)).2.2, i + 5) := by
                unfold rV
                rw [if_neg (fun y => y k3), if_neg (fun y => y k46), if_neg (fun y => y k3b), if_neg (fun y => y k33)]
              refine c_X5_isNext B14 ?_
              intro x15 qx15
              intro rx15 vx15
              refine ⟨fun g => RF0 h g ∧ ((¬ ((tT L np (i + 4)).1 = 3 ∧ 1 ≤ (tT L np (i + 4)).2.2 ∧ (tT L np (i + 4)).2.2 ≤ 98) ∧ ¬ hI g 5 (i + 4) = 3 ∧ hI g 6 (i + 4) = (tT L np (i + 4)).2.1 ∧ hI g 3 7 = ((i + 4 : Nat) : Int) ∧ hI g 3 2 = -1) ∨ (((tT L np (i + 4)).1 = 3 ∧ 1 ≤ (tT L np (i + 4)).2.2 ∧ (tT L np (i + 4)).2.2 ≤ 98) ∧ CB g L np n (i + 4))), ?_, ?_⟩
              · intro h16 t16 s16 z17
                refine c_pass3 (i := i + 4) t16 z17.2 ok (by omega) ?_
                intro x18 h19 F19 q19
                have F019 := RF0_tr z17.1 F19
                intro t19 u19
                intro rx18
                refine ⟨fun y => (y = -1 ∧ ∃ e, rV (tT L np) i = .inl e ∧ CE h19 e) ∨ ∃ j, rV (tT L np) i = .inr (y, j) ∧ CB h19 L np n j, ?_, ?_⟩
                · intro x20 rx20 z21
                  exact k _ _ F019 z21
                · refine ⟨fun c22 => ?_, fun c22 => ?_⟩
                  · obtain ⟨y1, y2, y3⟩ := q19.resolve_right (fun y => c22 y.2.1)
                    have w4 := v4 y1.1
                    rw [if_neg (fun y => y y1)] at rU
                    rw [wr_of (x := 10000 * x1) (by omega) (by omega), wr_of (x := 100 * x7) (by omega) (by omega), wr_of (x := 10000 * x1 + 100 * x7) (by omega) (by omega), wr_of (by omega) (by omega)]
                    exact .inr ⟨_, by rw [rU, ex1, ex7, y2], y3⟩
                  · rcases q19 with ⟨y1, y2, -⟩ | ⟨y1, -, y3⟩
                    · have := v4 y1.1; omega
                    · rw [if_pos y1] at rU
                      exact .inl ⟨rfl, _, rU, y3⟩
              · refine ⟨fun c32 => ?_, fun c32 => ?_⟩
                · have n3 := (bq1 qx15).2.1.mp c32
                  exact ⟨F014, .inl ⟨fun y => n3 y.1, by rw [g5]; exact n3, g6, b147, B14.2.2.2⟩⟩
                · have k3c := (bq1 qx15).2.2.1.mp c32
                  intro x23 ex23 rx23
                  rw [b147] at ex23
                  rw [ex23, Int.toNat_natCast, g7]
                  refine ⟨(by omega), ?_⟩
                  refine ⟨¬ (1 ≤ (tT L np (i + 4)).2.2 ∧ (tT L np (i + 4)).2.2 ≤ 98), ?_, ?_⟩
                  · intro z25
                    refine ⟨(by omega), ?_⟩
                    intro h27 eh27 t27 u27
                    rw [b147, Int.toNat_natCast] at eh27
                    have s27 : ∀ b, ¬ b = 5 → sameC h14 h27 b := fun b m => by rw [eh27]; exact sameC_sV (fun z => m z.symm)
                    refine ⟨RF0_tr F014 (RFr_5 eh27), .inl ⟨fun y => z25 y.2, ?_, by rw [sameC_I (s27 6 (by decide))]; exact g6, by rw [sameC_I (s27 3 (by decide))]; exact b147, by rw [sameC_I (s27 3 (by decide))]; exact B14.2.2.2⟩⟩
                    rw [eh27, hI_eq (by rw [lyn (c := 100) (n := 201) t14 rfl]; omega) (rgk rfl)]; decide
                  · refine ⟨fun c31 => ?_, fun c31 => ?_⟩
                    · exact fun y => by omega
                    · intro x28 ex28 rx28
                      rw [b147] at ex28
                      rw [ex28, Int.toNat_natCast, g7]
                      refine ⟨(by omega), ?_⟩
                      refine ⟨fun c30 => ?_, fun c30 => ?_⟩
                      · exact ⟨F014, .inr ⟨⟨k3c, by omega, by omega⟩, B14⟩⟩
                      · exact fun y => by omega
            · have n33 := (bq1 qx13).2.1.mp (Decidable.not_not.mp c33)
              exact .inr ⟨c34, by unfold rV; rw [if_neg (fun y => y k3), if_neg (fun y => y k46), if_neg (fun y => y k3b), if_pos n33, ex1, ex7], B8, by omega, by omega⟩
      · rcases q6 with ⟨y1, y2, -⟩ | ⟨y1, -, y3⟩
        · have := tk_46 ok y1; omega
        · exact ⟨RF0_tr F2 F6, _, by unfold rV; rw [if_neg (fun y => y k3), if_pos y1], y3⟩
