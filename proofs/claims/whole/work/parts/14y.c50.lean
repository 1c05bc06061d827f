/-! RANGES AND ATOMS, the reference -/
theorem SPr_n {h g : XH} {S : List (Int × Int × Int)} (T : HT h) (a : NxT h g) (z : SPr h S) : SPr g S := SPr_v T (VFr_n a) z
/-- the letters read so far, each with how many spans stood ahead of it -/
def LTr (g : XH) (A : List (Int × Nat)) : Prop := hI g 437 21 = (A.length : Nat) ∧ ∀ k, k < A.length → hI g 443 k = (A.getD k (0, 0)).1 ∧ hI g 444 k = ((A.getD k (0, 0)).2 : Nat)
def AFr (h g : XH) : Prop := Fr (fun b => b = 437 ∨ (443 ≤ b ∧ b < 446)) h g ∧ g.length = h.length ∧ xhs g = xhs h ∧ ∀ j, ¬ (13 ≤ j ∧ j ≤ 17) → ¬ (21 ≤ j ∧ j ≤ 23) → el g 437 j = el h 437 j
theorem AFr_rf (h : XH) : AFr h h := ⟨Fr_rf _ _, rfl, rfl, fun _ _ _ => rfl⟩
theorem AFr_tr {h g k : XH} (a : AFr h g) (b : AFr g k) : AFr h k := ⟨Fr_tr a.1 (by rw [a.2.1]; exact Nat.le_refl _) b.1, b.2.1.trans a.2.1, b.2.2.1.trans a.2.2.1, fun j hj n => (b.2.2.2 j hj n).trans (a.2.2.2 j hj n)⟩
theorem AFr_s {h g : XH} (a : SFr h g) : AFr h g := ⟨Fr_mono a.1 (fun b y => by omega), a.2.1, a.2.2.1, fun j hj n => a.2.2.2 j hj (by omega) (by omega)⟩
theorem AFr_n {h g : XH} (a : NxT h g) : AFr h g := AFr_s (SFr_v (VFr_n a))
theorem LTr_s {h g : XH} {A : List (Int × Nat)} (T : HT h) (a : SFr h g) (z : LTr h A) : LTr g A := by
  have l := HT_len T
  refine ⟨(congrArg gvI (a.2.2.2 21 (by omega) (by decide) (by decide))).trans z.1, fun k hk => ?_⟩
  rw [sameC_I (a.1 443 (by omega) (by decide)), sameC_I (a.1 444 (by omega) (by decide))]
  exact z.2 k hk
set_option maxHeartbeats 2000000 in
theorem c_X14_readRange {S : List (Int × Int × Int)} {L : List Int} {h : XH} {np : Int} {i : Nat} (T : HT h) (ok : LOK L) (B : RB h L np i) (Z : SPr h S) (l : S.length ≤ i) {K : Int → XH → Prop} (k : ∀ x g, SFr h g → ((x = 0 ∧ ∃ e, rG (tT L np) i 200 = .inl e ∧ hI g 437 17 = e) ∨ (x = 1 ∧ ∃ l j, rG (tT L np) i 200 = .inr (l, j) ∧ SPr g (S ++ l) ∧ RB g L np j)) → K x g) : w_X14_readRange K h := by
  unfold w_X14_readRange
  refine c_X14_readSpan T ok B Z l ?_
  intro x1 h2 F2 q2
  intro t2 u2
  intro rx1 vx1
  refine ⟨fun x g => SFr h g ∧ ∃ k : Nat, k ≤ 200 ∧ ((x = 0 ∧ ∃ e, rG (tT L np) i k = .inl e ∧ hI g 437 17 = e) ∨ (x = 1 ∧ ∃ l j, rG (tT L np) i k = .inr (l, j) ∧ k ≤ j ∧ SPr g (S ++ l) ∧ RB g L np j)), fun x g => if x = 0 then 0 else (202 - hI g 437 22).toNat, ?_, ?_⟩
  · refine ⟨F2, 0, by omega, ?_⟩
    have r0 : rG (tT L np) i 0 = match rS (tT L np) i with | .inl e => .inl e | .inr (q, j) => .inr ([q], j) := rfl
    rcases q2 with ⟨ex, e, er, e17⟩ | ⟨ex, q, j, er, Zs, Bs⟩
    · exact .inl ⟨ex, e, by rw [r0, er], e17⟩
    · exact .inr ⟨ex, [q], j, by rw [r0, er], by omega, Zs, Bs⟩
  · intro x3 h4 t4 s4 rx3 z5
    obtain ⟨F4, k0, k2, q4⟩ := z5
    refine ⟨(x3 = 0 ∧ ∃ e, rG (tT L np) i 200 = .inl e ∧ hI h4 437 17 = e) ∨ (x3 = 1 ∧ ∃ l j, rG (tT L np) i 200 = .inr (l, j) ∧ SPr h4 (S ++ l) ∧ RB h4 L np j), ?_, ?_⟩
    · intro z6
      refine ⟨(by rcases z6 with y | y; exact .inl y.1; exact .inr y.1), ?_⟩
      exact k _ _ F4 z6
    · refine ⟨fun c13 => ?_, fun c13 => ?_⟩
      · obtain ⟨-, e, er, e17⟩ := q4.resolve_right (fun y => by omega)
        exact .inl ⟨c13, e, by rw [rG_200 k2 (.inl ⟨e, er⟩)]; exact er, e17⟩
      · obtain ⟨ex3, l0, j0, er, kj, Z4, B4⟩ := q4.resolve_left (fun y => c13 y.1)
        obtain ⟨g1, g2, g3, g4, g5⟩ := rG_c ok k0 l0 j0 er
        have ln : (S ++ l0).length = S.length + l0.length := List.length_append
        refine c_X14_isSign B4 (by decide) ?_
        intro x8 qx8
        intro rx8 vx8
        refine ⟨fun c12 => ?_, fun c12 => ?_⟩
        · have n44 := (bq1 qx8).2.1.mp c12
          exact .inr ⟨ex3, l0, j0, by rw [rG_200 k2 (.inr ⟨l0, j0, er, n44⟩)]; exact er, Z4, B4⟩
        · have k44 := (bq1 qx8).2.2.1.mp c12
          have lj := (tT_k (np := np) ok j0).2.1 (by omega)
          refine c_nx t4 ok B4 ?_
          intro h9 F9 B9
          intro t9 u9
          refine c_X14_readSpan t9 ok B9 (SPr_n t4 F9 Z4) (by omega) ?_
          intro x10 h11 F11 q11
          intro t11 u11
          intro rx10 vx10
          have rs := rG_s (tT L np) i k0
          rw [er] at rs
          dsimp only at rs
          rw [if_pos k44] at rs
          have z22 := Z4.1
          have F := SFr_tr (SFr_tr F4 (SFr_v (VFr_n F9))) F11
          rcases q11 with ⟨ex, e, es, e17⟩ | ⟨ex, q, j, es, Zs, Bs⟩
          · rw [es] at rs
            refine ⟨⟨F, k0 + 1, by omega, .inl ⟨ex, e, rs, e17⟩⟩, ?_⟩
            dsimp only
            rw [if_pos ex, if_neg c13, z22]; omega
          · rw [es] at rs
            have jc := rS_c ok es
            rw [List.append_assoc] at Zs
            refine ⟨⟨F, k0 + 1, by omega, .inr ⟨ex, l0 ++ [q], j, rs, by omega, Zs, Bs⟩⟩, ?_⟩
            have z2 := Zs.1
            have ln2 : (S ++ (l0 ++ [q])).length = S.length + (l0.length + 1) := by rw [List.length_append, List.length_append, List.length_singleton]
            dsimp only
            rw [if_neg (by omega), if_neg c13, z22, z2]; omega
set_option maxHeartbeats 1000000 in
theorem c_X14_readLetter {S : List (Int × Int × Int)} {A : List (Int × Nat)} {L : List Int} {h : XH} {np : Int} {i : Nat} (T : HT h) (ok : LOK L) (B : RB h L np i) (Z : SPr h S) (Y : LTr h A) (l : S.length ≤ i) (la : A.length ≤ i) {K : Int → XH → Prop} (k : ∀ x g, AFr h g → ((x = 0 ∧ ¬ (tT L np i).1 = 2 ∧ hI g 437 17 = (tT L np i).2.1) ∨ (x = 1 ∧ (tT L np i).1 = 2 ∧ SPr g S ∧ LTr g (A ++ [((tT L np i).2.2, S.length)]) ∧ RB g L np (i + 1))) → K x g) : w_X14_readLetter K h := by
  unfold w_X14_readLetter
  have kd := RB_kd B
  have n0 := (tT_k (np := np) ok i).2.1
  have y1 := Y.1
  have n443 : ∀ {g}, HT g → hn g 443 = 200 := fun t => lyn (c := 100) (n := 200) t rfl
  have n444 : ∀ {g}, HT g → hn g 444 = 201 := fun t => lyn (c := 100) (n := 201) t rfl
  refine ⟨fun c9 => ?_, fun c9 => ?_⟩
  · have k2 := kd.2.1.mp c9
    have li := n0 (by omega)
    have e16 := kd.2.2.2.2 (.inl k2)
    refine ⟨(by omega), ?_⟩
    intro h2 eh2 t2 u2
    have e2 : ∀ b, ¬ b = 443 → sameC h h2 b := fun b n => by rw [eh2]; exact sameC_sV (fun z => n z.symm)
    rw [sameC_I (e2 437 (by decide)), y1, sameC_I (e2 437 (by decide))]
    refine ⟨(by omega), ?_⟩
    intro h4 eh4 t4 u4
    have e4 : ∀ b, ¬ b = 444 → sameC h2 h4 b := fun b n => by rw [eh4]; exact sameC_sV (fun z => n z.symm)
    rw [sameC_I (e4 437 (by decide)), sameC_I (e2 437 (by decide)), y1, wr_of (by omega) (by omega)]
    intro h5 eh5 t5 u5
    have e5 : ∀ b, ¬ b = 437 → sameC h4 h5 b := fun b n => by rw [eh5]; exact sameC_sV (fun z => n z.symm)
    have s : ∀ b, ¬ b = 443 → ¬ b = 444 → ¬ b = 437 → sameC h h5 b := fun b n1 n2 n3 => sameC_tr (sameC_tr (e2 b n1) (e4 b n2)) (e5 b n3)
    have s4 : sameC h h4 437 := sameC_tr (e2 437 (by decide)) (e4 437 (by decide))
    have g37 : ∀ j, ¬ j = 21 → el h5 437 j = el h 437 j := fun j n => by rw [eh5, el_ni (fun z => n z.symm)]; exact sameC_el s4 j
    have B5 : RB h5 L np i := RB_fr B (s 441 (by decide) (by decide) (by decide)) (s 438 (by decide) (by decide) (by decide)) (fun j hj => g37 j (by omega))
    have F5 : AFr h h5 := ⟨fun b _ n => s b (by omega) (by omega) (by omega), by rw [eh5, eh4, eh2, len_sV, len_sV, len_sV], by rw [eh5, eh4, eh2, xhs_sV, xhs_sV, xhs_sV], fun j _ n => g37 j (by omega)⟩
    have z22 := Z.1
    rw [y1, Int.toNat_natCast, e16] at eh2
    rw [Int.toNat_natCast, z22] at eh4
    have w2 := (tT_k (np := np) ok i).2.2.1 k2
    have Y5 : LTr h5 (A ++ [((tT L np i).2.2, S.length)]) := by
      refine ⟨?_, fun m hm => ?_⟩
      · rw [eh5, List.length_append, List.length_singleton]
        exact hI_eq (by rw [(lstn t4).2.2.2.2.1]; decide) (by unfold rg; omega)
      · rw [List.length_append, List.length_singleton] at hm
        rw [sameC_I (e5 443 (by decide)), sameC_I (e4 443 (by decide)), sameC_I (e5 444 (by decide)), eh4, eh2]
        by_cases c : m = A.length
        · rw [c, getD_R]
          exact ⟨hI_eq (by rw [n443 T]; omega) (by unfold rg; omega), hI_eq (by rw [← eh2, n444 t2]; omega) (by unfold rg; omega)⟩
        · rw [getD_L (by omega), hI_ni (fun z => c z.symm), hI_ni (fun z => c z.symm), hI_ne (by decide)]
          exact Y.2 m (by omega)
    have Z5 : SPr h5 S := ⟨(congrArg gvI (g37 22 (by decide))).trans z22, fun m hm => by rw [sameC_I (s 445 (by decide) (by decide) (by decide)), sameC_I (s 445 (by decide) (by decide) (by decide)), sameC_I (s 445 (by decide) (by decide) (by decide))]; exact Z.2 m hm⟩
    refine c_nx t5 ok B5 ?_
    intro h6 F6 B6
    intro t6 u6
    exact k _ _ (AFr_tr F5 (AFr_n F6)) (.inr ⟨rfl, k2, SPr_n t5 F6 Z5, LTr_s t5 (SFr_v (VFr_n F6)) Y5, B6⟩)
  · have n2 : ¬ (tT L np i).1 = 2 := fun y => c9 (kd.2.1.mpr y)
    refine c_X14_wrong ?_
    intro h8 eq8
    intro t8 u8
    intro rx7 vx7
    exact k _ _ (AFr_s (SFr_v (VFr_s (.inl rfl) eq8))) (.inl ⟨rfl, n2, by rw [(at37 T (by decide) (rg16 _ _ _) eq8).1]; exact B.2.2.2.1⟩)
set_option maxHeartbeats 1000000 in
theorem c_X14_isSpanHere {L : List Int} {h : XH} {np : Int} {i : Nat} (B : RB h L np i) {K : Int → Prop} (k : ∀ x, bq x (isR (tT L np i).1 = true) → K x) : w_X14_isSpanHere K h := by
  unfold w_X14_isSpanHere
  have kd := RB_kd B
  have ir : isR (tT L np i).1 = true ↔ ((tT L np i).1 = 3 ∨ (tT L np i).1 = 42 ∨ ¬ skK (tT L np i).1 = 0) := by unfold isR; rw [decide_eq_true_eq]
  refine ⟨fun x => bq x (isR (tT L np i).1 = true), ?_, ?_⟩
  · intro x1 rx1 z2
    refine ⟨(by rcases z2 with y | y; exact .inr y.1; exact .inl y.1), ?_⟩
    exact k _ z2
  · refine ⟨isR (tT L np i).1 = true, ?_, ?_⟩
    · intro z4
      exact bqT z4
    · refine ⟨fun c17 => ?_, fun c17 => ?_⟩
      · exact ir.mpr (.inl (kd.2.2.1.mp c17))
      · have n3 : ¬ (tT L np i).1 = 3 := fun y => c17 (kd.2.2.1.mpr y)
        refine c_X14_isSign B (by decide) ?_
        intro x5 qx5
        intro rx5 vx5
        refine ⟨fun c16 => ?_, fun c16 => ?_⟩
        · exact ir.mpr (.inr (.inl ((bq1 qx5).2.2.1.mp c16)))
        · have n42 := (bq1 qx5).2.1.mp (Decidable.not_not.mp c16)
          refine c_X14_isSign B (by decide) ?_
          intro x6 qx6
          intro rx6 vx6
          refine ⟨fun c15 => ?_, fun c15 => ?_⟩
          · have q := (bq1 qx6).2.2.1.mp c15
            exact ir.mpr (.inr (.inr (by unfold skK; rw [if_pos q]; decide)))
          · have n61 := (bq1 qx6).2.1.mp (Decidable.not_not.mp c15)
            refine c_X14_isSign B (by decide) ?_
            intro x7 qx7
            intro rx7 vx7
            refine ⟨fun c14 => ?_, fun c14 => ?_⟩
            · have q := (bq1 qx7).2.2.1.mp c14
              exact ir.mpr (.inr (.inr (by unfold skK; rw [if_neg n61, if_pos q]; decide)))
            · have n62 := (bq1 qx7).2.1.mp (Decidable.not_not.mp c14)
              refine c_X14_isSign B (by decide) ?_
              intro x8 qx8
              intro rx8 vx8
              refine ⟨fun c13 => ?_, fun c13 => ?_⟩
              · have q := (bq1 qx8).2.2.1.mp c13
                exact ir.mpr (.inr (.inr (by unfold skK; rw [if_neg n61, if_neg n62, if_pos q]; decide)))
              · have n60 := (bq1 qx8).2.1.mp (Decidable.not_not.mp c13)
                refine c_X14_isSign B (by decide) ?_
                intro x9 qx9
                intro rx9 vx9
                refine ⟨fun c12 => ?_, fun c12 => ?_⟩
                · have q := (bq1 qx9).2.2.1.mp c12
                  exact ir.mpr (.inr (.inr (by unfold skK; rw [if_neg n61, if_neg n62, if_neg n60, if_pos q]; decide)))
                · have n94 := (bq1 qx9).2.1.mp (Decidable.not_not.mp c12)
                  refine c_X14_isSign B (by decide) ?_
                  intro x10 qx10
                  intro rx10 vx10
                  refine ⟨fun c11 => ?_, fun c11 => ?_⟩
                  · have n126 := (bq1 qx10).2.1.mp c11
                    exact bqF (fun y => by
                      rcases ir.mp y with y | y | y
                      · exact n3 y
                      · exact n42 y
                      · exact y (by unfold skK; rw [if_neg n61, if_neg n62, if_neg n60, if_neg n94, if_neg n126]))
                  · have q := (bq1 qx10).2.2.1.mp c11
                    exact ir.mpr (.inr (.inr (by unfold skK; rw [if_neg n61, if_neg n62, if_neg n60, if_neg n94, if_pos q]; decide)))
set_option maxHeartbeats 1000000 in
theorem c_X14_isEnd {L : List Int} {h : XH} {np : Int} {i : Nat} (T : HT h) (B : RB h L np i) {K : Int → XH → Prop} (k : ∀ x g, VFr h g → ((x = 0 ∧ ¬ (tT L np i).1 = 0 ∧ hI g 437 17 = (tT L np i).2.1) ∨ (x = 1 ∧ (tT L np i).1 = 0 ∧ g = h)) → K x g) : w_X14_isEnd K h := by
  unfold w_X14_isEnd
  have kd := RB_kd B
  refine ⟨fun x g => VFr h g ∧ ((x = 0 ∧ ¬ (tT L np i).1 = 0 ∧ hI g 437 17 = (tT L np i).2.1) ∨ (x = 1 ∧ (tT L np i).1 = 0 ∧ g = h)), ?_, ?_⟩
  · intro x1 h2 t2 s2 rx1 z3
    refine ⟨(by rcases z3.2 with y | y; exact .inl y.1; exact .inr y.1), ?_⟩
    exact k _ _ z3.1 z3.2
  · refine ⟨fun g => g = h ∧ (tT L np i).1 = 0, ?_, ?_⟩
    · intro h5 t5 s5 z6
      refine ⟨by rw [z6.1]; exact VFr_rf h, .inr ⟨rfl, z6.2, z6.1⟩⟩
    · refine ⟨fun c10 => ?_, fun c10 => ?_⟩
      · exact ⟨rfl, kd.1.mp c10⟩
      · refine c_X14_wrong ?_
        intro h8 eq8
        intro t8 u8 _ _
        refine ⟨fun c9 => ?_, fun c9 => ?_⟩
        · exact ⟨VFr_s (.inl rfl) eq8, .inl ⟨rfl, fun y => c10 (kd.1.mpr y), by rw [(at37 T (by decide) (rg16 _ _ _) eq8).1]; exact B.2.2.2.1⟩⟩
        · omega
