/-! TOLD CLAUSES, the reference: all of them -/
def cq (h : XH) : Nat := hn h (hR h 437 52)
/-- growth beside that of the rows that grow -/
def GrP (n s : Nat) (h g : XH) : Prop := g.length + cp h + cq h ≤ h.length + n + cp g + cq g ∧ xhs g + 10 * (cp h + cq h) ≤ xhs h + s + 10 * (cp g + cq g) ∧ cp h ≤ cp g ∧ cq h ≤ cq g
theorem GrP_rf (h : XH) : GrP 0 0 h h := ⟨by omega, by omega, Nat.le_refl _, Nat.le_refl _⟩
theorem GrP_tr {h g k : XH} {n s n2 s2 : Nat} (a : GrP n s h g) (b : GrP n2 s2 g k) : GrP (n + n2) (s + s2) h k := by
  unfold GrP at *
  omega
theorem GrP_mono {h g : XH} {n s n2 s2 : Nat} (a : GrP n s h g) (l : n ≤ n2) (k : s ≤ s2) : GrP n2 s2 h g := by
  unfold GrP at *
  omega
theorem GrP_of {h g : XH} {n s : Nat} (a : Gr n s h g) (e : cp g = cp h) (e2 : cq g = cq h) : GrP n s h g := by
  unfold GrP
  unfold Gr at a
  omega
/-- the reference works something out, and rows may grow -/
def RSP (h g : XH) (nd : Nat → ND) (n s : Nat) : Prop := (CaR h (nw h) nd → CaR g (nw h) nd) ∧ Fr (RS h) h g ∧ (∀ j, 2 ≤ j ∧ j ≤ 11 → el g 437 j = el h 437 j) ∧ GrP n s h g ∧ h.length ≤ g.length ∧ ∀ j, owP j → hR g 437 j = hR h 437 j ∨ h.length ≤ hR g 437 j
theorem RSP_nw {h g : XH} {nd : Nat → ND} {n s : Nat} (T : HT h) (r : RSP h g nd n s) : nw g = nw h := nw_fr (r.2.1 438 (by have := HT_len T; omega) (by unfold RS; omega))
theorem RSP_rf (h : XH) (nd : Nat → ND) : RSP h h nd 0 0 := ⟨id, Fr_rf _ _, fun _ _ => rfl, GrP_rf h, Nat.le_refl _, fun _ _ => .inl rfl⟩
theorem RSP_mono {h g : XH} {nd : Nat → ND} {n s n2 s2 : Nat} (a : RSP h g nd n s) (l : n ≤ n2) (k : s ≤ s2) : RSP h g nd n2 s2 := ⟨a.1, a.2.1, a.2.2.1, GrP_mono a.2.2.2.1 l k, a.2.2.2.2⟩
theorem RSP_tr {h h1 h2 : XH} {nd : Nat → ND} {n s n2 s2 : Nat} (T : HT h) (a : RSP h h1 nd n s) (b : RSP h1 h2 nd n2 s2) : RSP h h2 nd (n + n2) (s + s2) := by
  have e := RSP_nw T a
  have l := a.2.2.2.2.1
  refine ⟨fun z => ?_, fun c hc q => ?_, fun j hj => (b.2.2.1 j hj).trans (a.2.2.1 j hj), GrP_tr a.2.2.2.1 b.2.2.2.1, by have := b.2.2.2.2.1; omega, fun j hj => ?_⟩
  · have := b.1
    rw [e] at this
    exact this (a.1 z)
  · refine sameC_tr (a.2.1 c hc q) (b.2.1 c (by omega) (fun y => q ?_))
    rcases y with y | y | ⟨y, j, hj, ej⟩
    · exact .inl y
    · exact .inr (.inl y)
    · rcases a.2.2.2.2.2 j hj with z | z
      · exact .inr (.inr ⟨y, j, hj, ej.trans z⟩)
      · omega
  · rcases b.2.2.2.2.2 j hj with y | y
    · rw [y]; exact a.2.2.2.2.2 j hj
    · exact .inr (by omega)
theorem RSt_P {h g : XH} {nd : Nat → ND} {n s : Nat} (St : StR h) (u : HX h g) (r : RSt h g nd n s) : RSP h g nd n s := by
  have o : ∀ j, owP j → hn g (hR g 437 j) = hn h (hR h 437 j) := fun j hj => by rw [r.2.2.2.2.2 j hj]; exact HX_hn u (own_j St hj).2.1
  exact ⟨r.1, r.2.1, r.2.2.1, GrP_of r.2.2.2.1 (o 24 (by unfold owP; omega)) (o 52 (by unfold owP; omega)), r.2.2.2.2.1, fun j hj => .inl (r.2.2.2.2.2 j hj)⟩
theorem B45_of {h : XH} {N : Nat → Int} {nd : Nat → ND} (T : HT h) (z : CaR h N nd) : B45 h := by
  have L := HT_len T
  obtain ⟨-, -, -, a, b⟩ := z.2.2.2.2.2.2.2.2
  refine ⟨?_, ?_⟩
  · rcases a with y | ⟨y, -⟩
    · omega
    · exact hk_lt y (by decide)
  · rcases b with y | ⟨y, -⟩
    · omega
    · exact hk_lt y (by decide)
/-- a row that was handed on is not one of those that grow -/
theorem RS_not {h g : XH} (f : Fr (RS h) h g) {b : Nat} (hb : b < h.length) (l : 468 ≤ b) (n : ∀ j, owP j → ¬ b = hR h 437 j) : sameC h g b := f b hb (fun y => by
  rcases y with y | y | ⟨-, j, hj, e⟩
  · omega
  · omega
  · exact n j hj e)
theorem OrdOK_s {h g : XH} {N : Nat → Int} {nd : Nat → ND} (s1 : sameC h g (hR h 437 39)) (e : ∀ j, j = 37 ∨ j = 39 → el g 437 j = el h 437 j) (z : OrdOK h N nd) : OrdOK g N nd := by
  obtain ⟨a1, a2, a3, a4⟩ := z
  have r : hR g 437 39 = hR h 437 39 := congrArg gvR (e 39 (by omega))
  have i : hI g 437 37 = hI h 437 37 := congrArg gvI (e 37 (by omega))
  unfold OrdOK
  rw [r, i, sameC_n s1, sameC_k s1]
  exact ⟨a1, a2, fun i hi => by rw [sameC_I s1]; exact a3 i hi, a4⟩
/-- what was kept, behind telling -/
theorem CaR_told {h g : XH} {N : Nat → Int} {nd : Nat → ND} (T : HT h) (u : HX h g) (z : CaR h N nd) (ne : ¬ hI h 437 30 = hI h 437 4) (f : Fr (RS h) h g) (e : ∀ j, ¬ j = 12 → ¬ (24 ≤ j ∧ j ≤ 30) → el g 437 j = el h 437 j) (e30 : hI g 437 30 = hI g 437 4) (b12 : hI g 437 12 = hI h 437 12 ∨ hI g 437 12 = hI g 437 4) (St : StR g) (Dj : DJo g) (tk : TellOKR g (told N nd)) (so : hI g 437 12 = hI g 437 4 → SortOK g N) (cm : cp h ≤ cp g) : CaR g N nd := by
  have L := HT_len T
  obtain ⟨a1, a2, -, -, a5, a6, a7, a8, cg⟩ := z
  have i : ∀ j, ¬ j = 12 → ¬ (24 ≤ j ∧ j ≤ 30) → hI g 437 j = hI h 437 j := fun j n m => congrArg gvI (e j n m)
  have r : ∀ j, ¬ j = 12 → ¬ (24 ≤ j ∧ j ≤ 30) → hR g 437 j = hR h 437 j := fun j n m => congrArg gvR (e j n m)
  have n44 : ¬ hI h 437 44 = hI h 437 4 := fun y => ne (a7 y).1
  have i4 := i 4 (by decide) (by decide)
  unfold CaR
  rw [i 38 (by decide) (by decide), i 40 (by decide) (by decide), i 41 (by decide) (by decide), i 44 (by decide) (by decide), i 46 (by decide) (by decide)]
  refine ⟨by omega, ⟨St, Dj⟩, so, fun _ => tk, fun x => ?_, fun x => a6 (by omega), fun x => absurd (by omega) n44, fun x => absurd (a8 (by omega)).1 n44, ?_⟩
  · have z5 := a5 (by omega)
    refine OrdOK_s (RS_not f (hk_lt z5.1.1 (by decide)) z5.1.2 (fun j hj => (a2.2.2.2.2 j hj).2.1)) (fun j hj => e j (by omega) (by omega)) z5
  · obtain ⟨c1, c2, c3, c4, c5⟩ := cg
    have hnj : ∀ j, j = 31 ∨ j = 52 → hn g (hR g 437 j) = hn h (hR h 437 j) := fun j hj => by
      have oj : owP j := by unfold owP; omega
      have o := own_j a2.1 oj
      rw [r j (by omega) (by omega)]
      exact HX_hn u o.2.1
    unfold cp at cm
    exact ⟨by omega, by rw [hnj 31 (.inl rfl)]; exact c2, by rw [hnj 52 (.inr rfl)]; exact c3, by rw [r 39 (by decide) (by decide)]; exact c4.imp_right (fun y => by rw [sameC_k (RS_not f (hk_lt y.1 (by decide)) y.2 (fun j hj => (a2.2.2.2.2 j hj).2.1))]; exact y), by rw [r 45 (by decide) (by decide)]; exact c5.imp_right (fun y => by rw [sameC_k (RS_not f (hk_lt y.1 (by decide)) y.2 (fun j hj => (a2.2.2.2.2 j hj).2.2))]; exact y)⟩
set_option maxHeartbeats 16000000 in
theorem c_X14_tellClauses {h : XH} {N : Nat → Int} {m : Nat} (T : HT h) (eN : N = nw h) (W : WF N m) {nd : Nat → ND} (P8 : P8N N) (St : StR h) (Dj : DJo h) (Bq : B45 h) (So : hI h 437 12 = hI h 437 4 → SortOK h N) (To : hI h 437 30 = hI h 437 4 → TellOKR h (told N nd)) (Z : NTm h nd m) (fi : fOK N (inst N (rh N))) (TL : (told N nd).length ≤ 3712) {K : XH → Prop} (k : ∀ g, HT g → RSP h g nd 25 (n12 + 12 * nA8) → (∀ j, ¬ j = 12 → ¬ (24 ≤ j ∧ j ≤ 30) → el g 437 j = el h 437 j) → StR g ∧ DJo g → (hI g 437 12 = hI g 437 4 → SortOK g N) ∧ (hI g 437 12 = hI h 437 12 ∨ hI g 437 12 = hI g 437 4) → TellOKR g (told N nd) → hI g 437 30 = hI g 437 4 → K g) : w_X14_tellClauses K h := by
  unfold w_X14_tellClauses
  have w12 := W.1.2.1
  have w00 := W.1.1
  have v40 := vc64 W.1
  have L0 := HT_len T
  have pcN : (pc N : Int) = N 0 := by unfold pc; omega
  have m512 : (m : Int) ≤ 512 := by
    have a := Z.2
    have b := Z.1.2.1
    omega
  obtain ⟨r, er⟩ : ∃ r, r = rh N := ⟨_, rfl⟩
  have r3 : r < 3 := by rw [er]; exact rh_lt W
  have wr_ := W.2.1 r r3
  have te : told N nd = (List.range (nR N r 0).toNat).flatMap (fun w => wishCl N nd r w) ++ (List.range (pc N)).flatMap (fun p => holdCl N r p) ++ (List.range (pc N)).flatMap (fun p => pinCl N nd r p) ++ (List.range (pc N)).flatMap (fun p => packCl N nd p) := by rw [er]; rfl
  have TL' := TL
  rw [te] at TL'
  simp only [List.length_append] at TL'
  refine ⟨fun c111 => ?_, fun c111 => ?_⟩
  · skip
    intro h1 eh1 t1 u1
    intro h2 eh2 t2 u2
    have n437 : ∀ {g : XH}, HT g → 30 < hn g 437 := fun t => by rw [(lstn t).2.2.2.2.1]; decide
    have s2 : ∀ b, ¬ b = 437 → sameC h h2 b := fun b n => by rw [eh2, eh1]; exact sameC_tr (sameC_sV (fun y => n y.symm)) (sameC_sV (fun y => n y.symm))
    have e2 : ∀ j, ¬ j = 29 → ¬ j = 30 → el h2 437 j = el h 437 j := fun j a b => by rw [eh2, el_ni (fun y => a y.symm), eh1, el_ni (fun y => b y.symm)]
    have l2 : h2.length = h.length := by rw [eh2, eh1, len_sV, len_sV]
    have x2 : xhs h2 = xhs h := by rw [eh2, eh1, xhs_sV, xhs_sV]
    have i29 : hI h2 437 29 = 0 := by rw [eh2]; exact hI_eq (by have := n437 t1; omega) (rgk rfl)
    have i30 : hI h2 437 30 = hI h 437 4 := by rw [eh2, hI_ni (by decide), eh1]; exact hI_eq (n437 T) (rgh _ _ _)
    have St2 : StR h2 := StR_sh (fun a => by rw [eh2, eh1, hk_sV, hk_sV]) (fun a => by rw [eh2, eh1, hn_sV, hn_sV]) e2 St
    have Dj2 : DJo h2 := DJo_fr (fun b x y => s2 b (by omega)) L0 (fun j hj => e2 j (by unfold owP at hj; omega) (by unfold owP at hj; omega)) Dj
    have eN2 : N = nw h2 := eN.trans (nw_fr (s2 438 (by decide))).symm
    refine c_iS t2 eN2 W ?_
    intro a3 h4 f4 g4 la3 A3
    intro t4 u4
    have L2 := HT_len t2
    have fs : ∀ b, b < h2.length → sameC h2 h4 b := fun b hb => f4 b hb id
    have s437 := fs 437 (by omega)
    have St4 : StR h4 := StR_fr (fun b x y => fs b y) (fun j hj => sameC_el s437 j) St2
    have Dj4 : DJo h4 := DJo_fr (fun b x y => fs b y) L2 (fun j hj => sameC_el s437 j) Dj2
    have eN4 : N = nw h4 := eN2.trans (nw_F t2 f4).symm
    have e4 : ∀ j, ¬ j = 29 → ¬ j = 30 → el h4 437 j = el h 437 j := fun j a b => (sameC_el s437 j).trans (e2 j a b)
    have r4 : ∀ j, ¬ j = 29 → ¬ j = 30 → hR h4 437 j = hR h 437 j := fun j a b => congrArg gvR (e4 j a b)
    have F4 : Fr (fun b => b = 437) h h4 := fun b hb n => sameC_tr (s2 b n) (fs b (by omega))
    have Z4 : NTm h4 nd m := NTm_fr T (fun b x y => F4 b x (by omega)) (fun j hj => e4 j (by omega) (by omega)) Z
    have l4 := u4.1
    have B4 : B45 h4 := by
      have := r4 39 (by decide) (by decide)
      have := r4 45 (by decide) (by decide)
      unfold B45 at *
      omega
    have b0 : T0P h4 nd m := ⟨t4, St4, Dj4, Z4, B4⟩
    have cp4 : cp h4 = cp h := by
      unfold cp
      rw [r4 24 (by decide) (by decide)]
      exact sameC_n (F4 _ (own_j St (j := 24) (by unfold owP; omega)).2.1 (by have := (own_j St (j := 24) (by unfold owP; omega)).2.2; omega))
    have a3l : a3 < h4.length := hk_lt A3.1 (by decide)
    have A_ : ∀ {g l}, TT N h4 g l → AR g a3 (inst N r) := fun {g l} z => by
      rw [er]
      refine AR_fr (RS_not z.1 a3l (by omega) (fun j hj e => ?_)) A3
      have o := (own_j St2 hj).2.1
      have : hR h4 437 j = hR h2 437 j := sameC_R s437 j
      omega
    have tk4 : TellOKR h4 [] := ⟨by rw [sameC_I s437]; exact i29, Nat.zero_le _, fun i hi => by cases hi⟩
    have S12 : hI h4 437 12 = hI h 437 12 ∧ hI h4 437 4 = hI h 437 4 := ⟨congrArg gvI (e4 12 (by decide) (by decide)), congrArg gvI (e4 4 (by decide) (by decide))⟩
    have TT4 : TT N h4 h4 [] := ⟨Fr_rf _ _, fun _ _ _ => rfl, Nat.le_refl _, fun _ _ => .inl rfl, ⟨St4, Dj4⟩, tk4, fun y => SortOK_fr (fun b x y => F4 b y (by omega)) (F4 442 (by omega) (by decide)) (So (by rw [← S12.1, ← S12.2]; exact y)), 0, 0, by omega, by omega, Nat.le_refl _, .inl ⟨rfl, rfl, rfl⟩⟩
    have hr4 : ∀ {g : XH}, N = nw g → hI g 438 1 = (r : Nat) := fun e => by rw [er]; exact hr_ e W
    have rA : ∀ {g : XH} {x : Int} {j : Nat}, N = nw g → x = nR (nw g) r j → x = nR N r j := fun e y => by rw [y, ← e]
    refine ⟨fun x g => ∃ j : Nat, x = (j : Int) ∧ (j : Int) ≤ nR N r 0 ∧ TT N h4 g ((List.range j).flatMap (fun w => wishCl N nd r w)), fun x _ => (nR N r 0 - x).toNat, ?_, ?_⟩
    · exact ⟨0, rfl, by have := wr_.1; omega, TT4⟩
    · intro x5 h6 t6 s6 rx5 z7
      obtain ⟨j, ej, jl, z_⟩ := z7
      have eh6N : N = nw h6 := eN4.trans (TT_nw t4 z_).symm
      have rl := rf_le (f := fun w => wishCl N nd r w) (show j ≤ (nR N r 0).toNat by omega)
      refine c_X14_rootAt (r := r) (by decide) (hr4 eh6N) r3 ?_
      intro x8 ex8
      replace ex8 := rA (j := 0) eh6N ex8
      intro rx8
      refine ⟨fun c110 => ?_, fun c110 => ?_⟩
      · rw [show j = (nR N r 0).toNat by omega] at z_
        refine ⟨fun x g => ∃ j : Nat, x = (j : Int) ∧ j ≤ pc N ∧ TT N h4 g ((List.range (nR N r 0).toNat).flatMap (fun w => wishCl N nd r w) ++ (List.range j).flatMap (fun p => holdCl N r p)), fun x _ => ((pc N : Int) - x).toNat, ?_, ?_⟩
        · exact ⟨0, rfl, Nat.zero_le _, by rw [List.range_zero, List.flatMap_nil, List.append_nil]; exact z_⟩
        · intro x9 h14 t14 s14 rx9 z15
          obtain ⟨j, ej, jl, z_⟩ := z15
          have eh14N : N = nw h14 := eN4.trans (TT_nw t4 z_).symm
          have i9 : hI h14 438 0 = N 0 := by rw [eh14N]; rfl
          refine ⟨fun c102 => ?_, fun c102 => ?_⟩
          · rw [i9] at c102
            rw [show j = pc N by omega] at z_
            refine ⟨fun x g => ∃ j : Nat, x = (j : Int) ∧ j ≤ pc N ∧ TT N h4 g ((List.range (nR N r 0).toNat).flatMap (fun w => wishCl N nd r w) ++ (List.range (pc N)).flatMap (fun p => holdCl N r p) ++ (List.range j).flatMap (fun p => pinCl N nd r p)), fun x _ => ((pc N : Int) - x).toNat, ?_, ?_⟩
            · exact ⟨0, rfl, Nat.zero_le _, by rw [List.range_zero, List.flatMap_nil, List.append_nil]; exact z_⟩
            · intro x17 h23 t23 s23 rx17 z24
              obtain ⟨j, ej, jl, z_⟩ := z24
              have eh23N : N = nw h23 := eN4.trans (TT_nw t4 z_).symm
              have i9 : hI h23 438 0 = N 0 := by rw [eh23N]; rfl
              refine ⟨fun c59 => ?_, fun c59 => ?_⟩
              · rw [i9] at c59
                rw [show j = pc N by omega] at z_
                refine ⟨fun x g => ∃ j : Nat, x = (j : Int) ∧ j ≤ pc N ∧ TT N h4 g ((List.range (nR N r 0).toNat).flatMap (fun w => wishCl N nd r w) ++ (List.range (pc N)).flatMap (fun p => holdCl N r p) ++ (List.range (pc N)).flatMap (fun p => pinCl N nd r p) ++ (List.range j).flatMap (fun p => packCl N nd p)), fun x _ => ((pc N : Int) - x).toNat, ?_, ?_⟩
                · exact ⟨0, rfl, Nat.zero_le _, by rw [List.range_zero, List.flatMap_nil, List.append_nil]; exact z_⟩
                · intro x26 h27 t27 s27 rx26 z28
                  obtain ⟨j, ej, jl, z_⟩ := z28
                  have eh27N : N = nw h27 := eN4.trans (TT_nw t4 z_).symm
                  have i9 : hI h27 438 0 = N 0 := by rw [eh27N]; rfl
                  refine ⟨fun c31 => ?_, fun c31 => ?_⟩
                  · rw [i9] at c31
                    rw [show j = pc N by omega, ← te] at z_
                    obtain ⟨f, e, len, rr, ⟨St7, Dj7⟩, z7_, so, n, s, g1, g2, g3, g4_⟩ := z_
                    have e30 : hI h27 437 30 = hI h27 437 4 := by
                      rw [show hI h27 437 30 = hI h4 437 30 from congrArg gvI (e 30 (by decide) (by decide)), show hI h27 437 4 = hI h4 437 4 from congrArg gvI (e 4 (by decide) (by decide)), S12.2, sameC_I s437]
                      exact i30
                    have ff : Fr (RS h) h h27 := fun b hb n => sameC_tr (F4 b hb (fun y => n (.inl y))) (f b (by omega) (fun y => n (by
                      rcases y with y | y | ⟨y, j, hj, w⟩
                      · exact .inl y
                      · exact .inr (.inl y)
                      · exact .inr (.inr ⟨y, j, hj, by rw [w]; exact r4 j (by unfold owP at hj; omega) (by unfold owP at hj; omega)⟩))))
                    have ee : ∀ j, ¬ j = 12 → ¬ (24 ≤ j ∧ j ≤ 30) → el h27 437 j = el h 437 j := fun j a b => (e j a (by omega)).trans (e4 j (by omega) (by omega))
                    have rw_ : ∀ j, owP j → hR h27 437 j = hR h 437 j ∨ h.length ≤ hR h27 437 j := fun j hj => by
                      rcases rr j hj with y | y
                      · exact .inl (y.trans (r4 j (by unfold owP at hj; omega) (by unfold owP at hj; omega)))
                      · exact .inr (by omega)
                    have q52 : cq h27 = cq h := by
                      unfold cq
                      rw [show hR h27 437 52 = hR h 437 52 from congrArg gvR (ee 52 (by decide) (by decide))]
                      exact HX_hn s27 (own_j St (j := 52) (by unfold owP; omega)).2.1
                    have b12 : hI h27 437 12 = hI h 437 12 ∨ hI h27 437 12 = hI h27 437 4 := by
                      rcases g4_ with ⟨-, -, y⟩ | ⟨-, -, y⟩
                      · exact .inl (y.trans S12.1)
                      · exact .inr y
                    refine k _ t27 ⟨fun z => ?_, ff, fun j hj => ee j (by omega) (by omega), ?_, by omega, rw_⟩ ee ⟨St7, Dj7⟩ ⟨so, b12⟩ z7_ e30
                    · rw [← eN] at z ⊢
                      exact CaR_told T s27 z c111 ff ee e30 b12 St7 Dj7 z7_ so (by omega)
                    · have q1 := g4.1
                      have q2 := g4.2
                      unfold GrP
                      rcases g4_ with ⟨y1, y2, -⟩ | ⟨y1, y2, -⟩ <;> omega
                  · rw [i9] at c31
                    have jp : j < pc N := by omega
                    have rl := rf_le (f := fun p => packCl N nd p) (show j + 1 ≤ pc N by omega)
                    rw [rf_s, List.length_append] at rl
                    try dsimp only at rl
                    try rw [ej]
                    refine c_X14_tellOf t27 b0 eN4 W P8 jp z_ (by simp only [List.length_append]; omega) ?_
                    intro h29 th29 z29
                    intro t29 u29
                    intro x30 ex30 rx30
                    rw [wr_of (by omega) (by omega)] at ex30
                    refine ⟨⟨j + 1, by omega, by omega, ?_⟩, by dsimp only; omega⟩
                    rw [rf_s, ← List.append_assoc]
                    exact z29
              · rw [i9] at c59
                have jp : j < pc N := by omega
                have j12 : j < 12 := by omega
                have l8 := P8 j (by unfold pc at jp; omega)
                have rl := rf_le (f := fun p => pinCl N nd r p) (show j + 1 ≤ pc N by omega)
                rw [rf_s, List.length_append] at rl
                try dsimp only at rl
                try rw [ej]
                rw [wr_of (by omega) (by omega), show ((10 : Int) + (j : Int)) = ((10 + j : Nat) : Int) by omega]
                refine c_X14_rootAt (r := r) (by omega) (hr4 eh23N) r3 ?_
                intro x32 ex32
                rw [Int.toNat_natCast] at ex32
                replace ex32 := rA eh23N ex32
                intro rx32
                try rw [ej]
                refine c_vsT0 (by omega) b0 eN4 W P8 t23 z_ ?_
                intro h34 R z34
                rw [Int.toNat_natCast]
                intro t34 u34
                have V34 := TS_VL z34 j12
                obtain ⟨d, ed⟩ : ∃ d, d = nd (nR N r (10 + j) - 1).toNat := ⟨_, rfl⟩
                have pw := wr_.2.2.2.2.2.2.1 j j12
                refine ⟨V34.1, ?_⟩
                refine ⟨(by have := V34.2.2.1; omega), ?_⟩
                intro x37 ex37 rx37
                rw [V34.2.2.1] at ex37
                refine ⟨fun x g => ∃ i : Nat, x = (i : Int) ∧ i ≤ (vsl N j).length ∧ TS N h4 R g ((List.range (nR N r 0).toNat).flatMap (fun w => wishCl N nd r w) ++ (List.range (pc N)).flatMap (fun p => holdCl N r p) ++ (List.range j).flatMap (fun p => pinCl N nd r p) ++ (if nR N r (10 + j) = 0 then [] else ((vsl N j).take i).flatMap (fun v => if (!rmet (rng d) (nV N v 1)) = true then [((2 : Int), (j : Int), (-1 : Int), 0#64, bit1 v)] else []))), fun x _ => (((vsl N j).length : Int) - x).toNat, ?_, ?_⟩
                · refine ⟨0, rfl, Nat.zero_le _, ?_⟩
                  rw [List.take_zero, List.flatMap_nil, show (if nR N r (10 + j) = 0 then ([] : List Cl) else []) = [] from by split <;> rfl, List.append_nil]
                  exact z34
                · intro x38 h40 t40 s40 rx38 z41
                  obtain ⟨i, ei, il, z40⟩ := z41
                  have V40 := TS_VL z40 j12
                  have eh40N := TS_nw b0 eN4 z40
                  refine ⟨fun c58 => ?_, fun c58 => ?_⟩
                  · intro x42 ex42 rx42
                    rw [List.take_of_length_le (by omega)] at z40
                    rw [wr_of (by omega) (by omega)] at ex42
                    refine ⟨⟨j + 1, by omega, by omega, ?_⟩, by dsimp only; omega⟩
                    have : pinCl N nd r j = (if nR N r (10 + j) = 0 then [] else (vsl N j).flatMap (fun v => if (!rmet (rng d) (nV N v 1)) = true then [((2 : Int), (j : Int), (-1 : Int), 0#64, bit1 v)] else [])) := by
                      unfold pinCl
                      rw [← ed, fm_if]
                    rw [rf_s, ← List.append_assoc, this]
                    exact z40.1
                  · have jl2 : i < (vsl N j).length := by omega
                    obtain ⟨v, ev⟩ : ∃ v, v = (vsl N j).getD i 0 := ⟨_, rfl⟩
                    obtain ⟨v_, v0⟩ := vsl_get jl2
                    rw [← ev] at v_ v0
                    have v41 : v < 40 := by have := W.1.2.2.2.1; unfold vc at v_; omega
                    have wv := W.1.2.2.2.2.1 v v_
                    have fs2 := fm_s (f := (fun v => if (!rmet (rng d) (nV N v 1)) = true then [((2 : Int), (j : Int), (-1 : Int), 0#64, bit1 v)] else [])) (d := 0) jl2
                    rw [← ev] at fs2
                    have fl2 := fm_le (L := vsl N j) (f := (fun v => if (!rmet (rng d) (nV N v 1)) = true then [((2 : Int), (j : Int), (-1 : Int), 0#64, bit1 v)] else [])) (i + 1)
                    refine ⟨V40.1, ?_⟩
                    refine ⟨(by have := V40.2.2.1; omega), ?_⟩
                    intro x45 ex45 rx45
                    have e45 : x45 = (v : Int) := by rw [ex45, show x38.toNat = i by omega, ev]; exact V40.2.2.2 i jl2
                    refine ⟨fun g => TS N h4 R g ((List.range (nR N r 0).toNat).flatMap (fun w => wishCl N nd r w) ++ (List.range (pc N)).flatMap (fun p => holdCl N r p) ++ (List.range j).flatMap (fun p => pinCl N nd r p) ++ (if nR N r (10 + j) = 0 then [] else ((vsl N j).take (i + 1)).flatMap (fun v => if (!rmet (rng d) (nV N v 1)) = true then [((2 : Int), (j : Int), (-1 : Int), 0#64, bit1 v)] else []))), ?_, ?_⟩
                    · intro h46 t46 s46 z47
                      intro x48 ex48 rx48
                      rw [wr_of (by omega) (by omega)] at ex48
                      exact ⟨⟨i + 1, by omega, by omega, z47⟩, by dsimp only; omega⟩
                    · refine ⟨fun c57 => ?_, fun c57 => ?_⟩
                      · have p0 : nR N r (10 + j) = 0 := by omega
                        rw [if_pos p0]
                        rw [if_pos p0] at z40
                        exact z40
                      · have p0 : ¬ nR N r (10 + j) = 0 := by omega
                        rw [if_neg p0] at z40 ⊢
                        have pm : 0 ≤ nR N r (10 + j) - 1 ∧ nR N r (10 + j) - 1 < m := by omega
                        have Q := TT_need (TS_Z b0 z40) pm
                        rw [← ed] at Q
                        have ok := Q.2.2.2.2.1
                        have dl : 0 < d.2.length := List.length_pos_iff.mpr ok.2.1
                        have rg0 : (d.2[0]'dl).2 = rng d := by
                          rw [hd0 (x := (0, [])) dl]
                          rfl
                        intro x49 ex49 rx49
                        rw [wr_of (by omega) (by omega), ex32] at ex49
                        refine ⟨Q.1, ?_⟩
                        refine ⟨(by rw [ex49]; exact ⟨pm.1, Q.2.1⟩), ?_⟩
                        rw [e45]
                        refine c_verT (j := 1) b0 eN4 z40 v41 (by decide) ?_
                        intro rx52
                        rw [ex49]
                        refine c_X14_meetsRange Q.2.2 ⟨by omega, by omega⟩ ⟨wv.2.2.1, wv.2.2.2.1⟩ ?_
                        intro x53 qx53
                        replace qx53 : bq x53 (rmet (rng d) (nV N v 1) = true) := by rw [← rg0]; exact qx53
                        intro rx53 vx53
                        refine ⟨fun c56 => ?_, fun c56 => ?_⟩
                        · rw [fs2, if_neg (by rw [(bq1 qx53).2.2.1.mp c56]; decide), List.append_nil]; exact z40
                        · have fy : (!rmet (rng d) (nV N v 1)) = true := by
                            have := (bq1 qx53).2.1.mp (Decidable.not_not.mp c56)
                            rw [Bool.eq_false_iff.mpr this]; rfl
                          have pe2 : (pinCl N nd r j).length = (List.flatMap (fun v => if (!rmet (rng d) (nV N v 1)) = true then [((2 : Int), (j : Int), (-1 : Int), 0#64, bit1 v)] else []) (vsl N j)).length := by
                            unfold pinCl
                            rw [if_neg p0, ← ed, fm_if]
                          rw [fs2, if_pos fy] at fl2
                          simp only [List.length_append, List.length_singleton] at fl2
                          unfold w_X14_bit
                          try rw [e45]
                          try rw [lshl1 (by omega)]
                          try rw [ej]
                          refine c_addT b0 t40 (rgk rfl) (by unfold rg; omega) (rgk rfl) z40 (by simp only [List.length_append]; omega) ?_
                          intro h55 th55 z55
                          intro t55 u55
                          rw [fs2, if_pos fy, ← List.append_assoc]; exact z55
          · rw [i9] at c102
            have jp : j < pc N := by omega
            have j12 : j < 12 := by omega
            have l8 := P8 j (by unfold pc at jp; omega)
            have rl := rf_le (f := fun p => holdCl N r p) (show j + 1 ≤ pc N by omega)
            rw [rf_s, List.length_append] at rl
            try dsimp only at rl
            have A14 := A_ z_
            try rw [ej]
            refine c_X14_isHeld t14 eh14N W (by omega) ?_
            rw [Int.toNat_natCast, ← er]
            intro x60 qx60
            intro rx60 vx60
            refine ⟨fun g => TT N h4 g ((List.range (nR N r 0).toNat).flatMap (fun w => wishCl N nd r w) ++ (List.range (j + 1)).flatMap (fun p => holdCl N r p)), ?_, ?_⟩
            · intro h65 t65 s65 z66
              intro x67 ex67 rx67
              rw [wr_of (by omega) (by omega)] at ex67
              exact ⟨⟨j + 1, by omega, by omega, z66⟩, by dsimp only; omega⟩
            · refine ⟨fun c101 => ?_, fun c101 => ?_⟩
              · have yh : isHeld N r j = true := (bq1 qx60).2.2.1.mp c101
                rw [hold_e yh] at rl
                refine ⟨A14.1, ?_⟩
                refine ⟨(by have := A14.2.1; omega), ?_⟩
                refine ⟨fun c100 => ?_, fun c100 => ?_⟩
                · try rw [show x9.toNat = j by omega] at c100
                  rw [A14.2.2 j j12] at c100
                  have hh : hold1 N (inst N r) j = (vsl N j).flatMap (fun v => [((1 : Int), (j : Int), (-1 : Int), 0#64, bit1 v)]) := by
                    unfold hold1
                    rw [if_pos c100]
                    induction vsl N j with
                    | nil => rfl
                    | cons x l ih => rw [List.map_cons, List.flatMap_cons, ih]; rfl
                  rw [hh] at rl
                  try rw [ej]
                  refine c_vsT0 (by omega) b0 eN4 W P8 t14 z_ ?_
                  intro h71 R z71
                  rw [Int.toNat_natCast]
                  intro t71 u71
                  have V71 := TS_VL z71 j12
                  refine ⟨V71.1, ?_⟩
                  refine ⟨(by have := V71.2.2.1; omega), ?_⟩
                  intro x74 ex74 rx74
                  rw [V71.2.2.1] at ex74
                  refine ⟨fun x g => ∃ i : Nat, x = (i : Int) ∧ i ≤ (vsl N j).length ∧ TS N h4 R g ((List.range (nR N r 0).toNat).flatMap (fun w => wishCl N nd r w) ++ (List.range j).flatMap (fun p => holdCl N r p) ++ ((vsl N j).take i).flatMap (fun v => [((1 : Int), (j : Int), (-1 : Int), 0#64, bit1 v)])), fun x _ => (((vsl N j).length : Int) - x).toNat, ?_, ?_⟩
                  · exact ⟨0, rfl, Nat.zero_le _, by rw [List.take_zero, List.flatMap_nil, List.append_nil]; exact z71⟩
                  · intro x75 h77 t77 s77 rx75 z78
                    obtain ⟨i, ei, il, z77⟩ := z78
                    have V77 := TS_VL z77 j12
                    refine ⟨fun c85 => ?_, fun c85 => ?_⟩
                    · rw [List.take_of_length_le (by omega), ← hh] at z77
                      rw [rf_s, hold_e yh, ← List.append_assoc]
                      exact z77.1
                    · have jl2 : i < (vsl N j).length := by omega
                      obtain ⟨v, ev⟩ : ∃ v, v = (vsl N j).getD i 0 := ⟨_, rfl⟩
                      obtain ⟨v_, v0⟩ := vsl_get jl2
                      rw [← ev] at v_ v0
                      have fs2 := fm_s (f := (fun v => [((1 : Int), (j : Int), (-1 : Int), 0#64, bit1 v)])) (d := 0) jl2
                      rw [← ev] at fs2
                      have fl2 := fm_le (L := vsl N j) (f := (fun v => [((1 : Int), (j : Int), (-1 : Int), 0#64, bit1 v)])) (i + 1)
                      rw [fs2] at fl2
                      simp only [List.length_append, List.length_singleton] at fl2
                      refine ⟨V77.1, ?_⟩
                      refine ⟨(by have := V77.2.2.1; omega), ?_⟩
                      intro x81 ex81 rx81
                      have e81 : x81 = (v : Int) := by rw [ex81, show x75.toNat = i by omega, ev]; exact V77.2.2.2 i jl2
                      unfold w_X14_bit
                      rw [e81, lshl1 (by omega)]
                      try rw [ej]
                      refine c_addT b0 t77 (rgk rfl) (by unfold rg; omega) (rgk rfl) z77 (by simp only [List.length_append]; omega) ?_
                      intro h83 th83 z83
                      intro t83 u83
                      intro x84 ex84 rx84
                      rw [wr_of (by omega) (by omega)] at ex84
                      refine ⟨⟨i + 1, by omega, by omega, ?_⟩, by dsimp only; omega⟩
                      rw [fs2, ← List.append_assoc]
                      exact z83
                · try rw [show x9.toNat = j by omega] at c100
                  rw [A14.2.2 j j12] at c100
                  obtain ⟨f, ef⟩ : ∃ f, f = inst N r := ⟨_, rfl⟩
                  have fi' : fOK N f := by rw [ef, er]; exact fi
                  rw [← ef] at c100 rl A14
                  obtain ⟨s0, sv, -⟩ := slF_fOK W fi' j12 c100
                  have e2 : hold1 N f j = [(1, (j : Int), -1, bit1 (slF N f j).toNat, 0#64), (1, (j : Int), -1, (if 1000000 ≤ f j then oBit j else 0#64), (if 1000000 ≤ f j then 0#64 else oBit j))] := by unfold hold1; rw [if_neg c100]
                  rw [e2] at rl
                  simp only [List.length_cons, List.length_nil] at rl
                  try rw [ej]
                  refine c_X14_slotIn eh14N W.1 A14 fi' (by omega) ?_
                  rw [Int.toNat_natCast]
                  intro rx86
                  unfold w_X14_bit
                  rw [show slF N f j = (((slF N f j).toNat : Nat) : Int) by omega, lshl1 (by omega)]
                  refine c_X14_add t14 (rgk rfl) (by unfold rg; omega) (rgk rfl) z_.2.2.2.2.1.1 z_.2.2.2.2.1.2 (TT_m t4 St4 Dj4 Z4 z_).1 (TT_B B4 z_) z_.2.2.2.2.2.1 (by simp only [List.length_append]; omega) ?_
                  intro h88 th88 q88
                  have z88 := TT_AQ t4 St4 t14 z_ q88
                  have A88 := A_ z88
                  rw [← ef] at A88
                  intro t88 u88
                  refine c_X14_isOnIn A88.1 (by have := A88.2.1; omega) ?_
                  rw [Int.toNat_natCast, A88.2.2 j j12]
                  intro x89 qx89
                  intro rx89 vx89
                  refine ⟨fun b => b = if 1000000 ≤ f j then oBit j else 0#64, ?_, ?_⟩
                  · intro b90 z91
                    try rw [ej]
                    refine c_X14_isOnIn A88.1 (by have := A88.2.1; omega) ?_
                    rw [Int.toNat_natCast, A88.2.2 j j12]
                    intro x92 qx92
                    intro rx92 vx92
                    refine ⟨fun b => b = if 1000000 ≤ f j then 0#64 else oBit j, ?_, ?_⟩
                    · intro b93 z94
                      try rw [ej]
                      rw [z91, z94]
                      refine c_X14_add th88 (rgk rfl) (by unfold rg; omega) (rgk rfl) z88.2.2.2.2.1.1 z88.2.2.2.2.1.2 (TT_m t4 St4 Dj4 Z4 z88).1 (TT_B B4 z88) z88.2.2.2.2.2.1 (by simp only [List.length_append, List.length_singleton]; omega) ?_
                      intro h95 th95 q95
                      intro t95 u95
                      have z95 := TT_AQ t4 St4 th88 z88 q95
                      rw [rf_s, hold_e yh, ← ef, e2]
                      simp only [List.append_assoc] at z95 ⊢
                      exact z95
                    · refine ⟨fun c97 => ?_, fun c97 => ?_⟩
                      · unfold w_X14_optionBit
                        try rw [ej]
                        rw [wr_of (by omega) (by omega), show ((40 : Int) + (j : Int)) = ((40 + j : Nat) : Int) by omega, lshl1 (by omega)]
                        rw [if_neg ((bq1 qx92).2.1.mp c97)]; rfl
                      · rw [if_pos ((bq1 qx92).2.2.1.mp c97)]
                  · refine ⟨fun c99 => ?_, fun c99 => ?_⟩
                    · rw [if_neg ((bq1 qx89).2.1.mp c99)]
                    · unfold w_X14_optionBit
                      try rw [ej]
                      rw [wr_of (by omega) (by omega), show ((40 : Int) + (j : Int)) = ((40 + j : Nat) : Int) by omega, lshl1 (by omega)]
                      rw [if_pos ((bq1 qx89).2.2.1.mp c99)]; rfl
              · have nh : ¬ isHeld N r j = true := (bq1 qx60).2.1.mp (Decidable.not_not.mp c101)
                have : holdCl N r j = [] := by unfold holdCl; rw [if_neg nh]
                rw [rf_s, this, List.append_nil]
                exact z_
      · have rl1 := rf_le (f := fun w => wishCl N nd r w) (show j + 1 ≤ (nR N r 0).toNat by omega)
        rw [rf_s, List.length_append] at rl1
        try dsimp only at rl1
        have w8 : j < 8 := by have := wr_.2.1; omega
        have Z6 := TT_m t4 St4 Dj4 Z4 z_
        try rw [ej]
        refine c_X14_wishAt t6 eh6N W Z6 (by rw [← er]; omega) ?_
        rw [Int.toNat_natCast, ← er]
        intro a103 qa103
        refine ⟨fun g => TT N h4 g ((List.range (j + 1)).flatMap (fun w => wishCl N nd r w)), ?_, ?_⟩
        · intro h104 t104 s104 z105
          intro x106 ex106 rx106
          rw [wr_of (by omega) (by omega)] at ex106
          exact ⟨⟨j + 1, by omega, by omega, z105⟩, by dsimp only; omega⟩
        · refine ⟨fun c109 => ?_, fun c109 => ?_⟩
          · have y1 : nR N r (1 + j) = -1 := by
              rcases qa103 with ⟨y, -⟩ | ⟨-, A⟩
              · exact y
              · have := A.2.2.2.1; omega
            have : wishCl N nd r j = [] := by unfold wishCl; rw [if_pos y1]
            rw [rf_s, this, List.append_nil]
            exact z_
          · have y1 : 0 ≤ nR N r (1 + j) := by
              rcases qa103 with ⟨-, y⟩ | ⟨y, -⟩
              · exact absurd y c109
              · exact y
            have wm := wr_.2.2.1 j w8 (by omega)
            have e1 : wishCl N nd r j = needCl N 0 j (-1) (nd (nR N r (1 + j)).toNat) 0#64 := by unfold wishCl; rw [if_neg (by omega)]
            rw [e1] at rl1
            try rw [ej]
            unfold w_X14_wishAt
            rw [wr_of (by omega) (by omega), show ((1 : Int) + (j : Int)) = ((1 + j : Nat) : Int) by omega]
            refine c_X14_rootAt (r := r) (by omega) (hr4 eh6N) r3 ?_
            intro x1 ex1 _
            rw [Int.toNat_natCast] at ex1
            replace ex1 := rA eh6N ex1
            have Q := TT_need (x := x1) Z6 (by omega)
            refine ⟨fun a => a = hR h6 (hR h6 437 6) x1.toNat, fun a107 ea107 => ?_, fun _ => ⟨Q.1, ⟨by omega, Q.2.1⟩, rfl⟩, fun n => absurd (Decidable.not_not.mp n) (by omega)⟩
            rw [ea107, ex1]
            refine c_X14_addNeed t6 eh6N W t4 St4 Dj4 Z4 B4 (rgk rfl) (by unfold rg; omega) (rgk rfl) z_ (by rw [← ex1]; exact Q.2.2) ⟨(nR N r (1 + j)).toNat, by omega, rfl, rfl⟩ (by omega) ?_
            intro h108 th108 z108 _ _
            intro t108 u108
            rw [rf_s, e1]
            exact z108
  · exact k h T (RSP_mono (RSP_rf h nd) (by omega) (by omega)) (fun _ _ _ => rfl) ⟨St, Dj⟩ ⟨So, .inl rfl⟩ (To (Decidable.not_not.mp c111)) (Decidable.not_not.mp c111)
