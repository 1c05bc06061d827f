/-! A NEED IS MADE -/
set_option maxHeartbeats 1000000 in
theorem c_X13_init {t a b c : Nat} {p0 : Int} {h : XH} (v : p0 = 0 ∨ p0 = 1) {K : XH → Prop} (k : ∀ h2 h3 h4 h5, h2 = sI h t 0 p0 → HT h2 → h3 = sR h2 t 1 a → HT h3 → h4 = sR h3 t 2 b → HT h4 → h5 = sR h4 t 3 c → K h5) : w_X13_init t p0 a b c K h := by
  unfold w_X13_init
  refine ⟨v, ?_⟩
  intro h2 eh2 t2 u2
  intro h3 eh3 t3 u3
  intro h4 eh4 t4 u4
  intro h5 eh5 t5 u5
  exact k _ _ _ _ eh2 t2 eh3 t3 eh4 t4 eh5
set_option maxHeartbeats 4000000 in
theorem c_X14_taken {M : List At1} {p0 p1 : Int} {h : XH} (T : HT h) (hq : p0 = 0 ∨ p0 = 1 ∧ AcR h M ∧ M.length ≤ 200 ∧ (fsL M).length ≤ 200 ∧ ndOK (p1, M)) {K : Nat → XH → Prop} (k : ∀ a g, RdF h g → (p0 = 0 ∧ a = 0 ∧ hI g 437 10 = hI h 437 17 ∨ p0 = 1 ∧ NeedR g a (p1, M) ∧ hI g 437 10 = -1 ∧ h.length ≤ a ∧ h.length ≤ hR g a 1 ∧ h.length ≤ hR g a 2 ∧ h.length ≤ hR g a 3) → K a g) : w_X14_taken p0 p1 K h := by
  unfold w_X14_taken
  have L0 := HT_len T
  intro h1 eh1 t1 u1
  obtain ⟨a1, a2⟩ := at37 T (by decide) (rgk rfl) eh1
  refine ⟨fun y => (p0 = 0 ∧ y = hI h 437 17) ∨ (¬ p0 = 0 ∧ y = -1), ?_, ?_⟩
  · intro x2 rx2 z3
    intro h4 eh4 t4 u4
    obtain ⟨b1, b2⟩ := at37 t1 (by decide) rx2 eh4
    have s4 : ∀ b, ¬ b = 437 → sameC h h4 b := fun b n => by rw [eh4, eh1]; exact sameC_tr (sameC_sV (fun z => n z.symm)) (sameC_sV (fun z => n z.symm))
    have l4 : h4.length = h.length := by rw [eh4, eh1, len_sV, len_sV]
    have x4 : xhs h4 = xhs h := by rw [eh4, eh1, xhs_sV, xhs_sV]
    have g4 : ∀ j, ¬ j = 9 → ¬ j = 10 → el h4 437 j = el h 437 j := fun j n m => by rw [eh4, el_ni (fun z => m z.symm), eh1, el_ni (fun z => n z.symm)]
    have v9 : hI h4 437 9 = 0 := (b2 9 (by decide)).trans a1
    refine ⟨fun c26 => ?_, fun c26 => ?_⟩
    · obtain ⟨hp1, ⟨Zs, Yl⟩, lm, ls, nok⟩ := hq.resolve_left c26
      have y2 : x2 = -1 := (z3.resolve_left (fun y => c26 y.1)).2
      have v21 : hI h4 437 21 = (M.length : Nat) := ((congrArg gvI (g4 21 (by decide) (by decide))).trans Yl.1).trans (by rw [ltL_len])
      have v22 : hI h4 437 22 = ((fsL M).length : Nat) := (congrArg gvI (g4 22 (by decide) (by decide))).trans Zs.1
      rw [v21]
      refine ⟨(by omega), ?_⟩
      intro a6 h7 ea6 eh7 t7 u7 ca6 la6
      have s7 : ∀ b, b < h4.length → sameC h4 h7 b := fun b hb => by rw [eh7]; exact sameC_app hb
      have l7 : h7.length = h4.length + 1 := by rw [eh7]; unfold nA; rw [len_app]
      rw [sameC_I (s7 437 (by omega)), v21, wr_of (by omega) (by omega)]
      refine ⟨(by omega), ?_⟩
      intro a9 h10 ea9 eh10 t10 u10 ca9 la9
      have s10 : ∀ b, b < h7.length → sameC h7 h10 b := fun b hb => by rw [eh10]; exact sameC_app hb
      have l10 : h10.length = h7.length + 1 := by rw [eh10]; unfold nA; rw [len_app]
      have t410 : ∀ b, b < h4.length → sameC h4 h10 b := fun b hb => sameC_tr (s7 b hb) (s10 b (by omega))
      rw [sameC_I (t410 437 (by omega)), v22, wr_of (by omega) (by omega)]
      refine ⟨(by omega), ?_⟩
      intro a12 h13 ea12 eh13 t13 u13 ca12 la12
      have s13 : ∀ b, b < h10.length → sameC h10 h13 b := fun b hb => by rw [eh13]; exact sameC_app hb
      have l13 : h13.length = h10.length + 1 := by rw [eh13]; unfold nA; rw [len_app]
      have t413 : ∀ b, b < h4.length → sameC h4 h13 b := fun b hb => sameC_tr (t410 b hb) (s13 b (by omega))
      have k6 : hk h13 a6 = 100 := by rw [sameC_k (sameC_tr (s10 a6 (by omega)) (s13 a6 (by omega)))]; exact ca6
      have n6 : hn h13 a6 = M.length := by rw [sameC_n (sameC_tr (s10 a6 (by omega)) (s13 a6 (by omega))), la6]; omega
      have k9 : hk h13 a9 = 100 := by rw [sameC_k (s13 a9 (by omega))]; exact ca9
      have n9 : hn h13 a9 = M.length + 1 := by rw [sameC_n (s13 a9 (by omega)), la9]; omega
      have n12 : hn h13 a12 = 3 * (fsL M).length := by rw [la12]; omega
      have q443 : ∀ {g}, HT g → hk g 443 = 100 ∧ hn g 443 = 200 := fun t => ly_sh (s := (100, 200)) t rfl
      have q444 : ∀ {g}, HT g → hk g 444 = 100 ∧ hn g 444 = 201 := fun t => ly_sh (s := (100, 201)) t rfl
      have q445 : ∀ {g}, HT g → hk g 445 = 100 ∧ hn g 445 = 600 := fun t => ly_sh (s := (100, 600)) t rfl
      rw [sameC_I (t413 437 (by omega)), v21]
      refine ⟨(by omega), ?_⟩
      intro h15 eh15 t15 u15
      rw [Int.toNat_natCast] at eh15
      have e15 := el_cA (h := h13) (a := 443) (sp := 0) (b := a6) (dp := 0) (n := M.length) (t := t13) (u := 0) (q443 t13).1 k6 (by decide) (by rw [(q443 t13).2]; omega) (by omega)
      rw [← eh15] at e15
      have x15 : xhs h15 = xhs h13 := by rw [eh15]; exact xhs_cA (t := t13) (u := 0) (q443 t13).1 k6 (by decide) (by rw [(q443 t13).2]; omega) (by omega)
      have s15 : ∀ b, ¬ b = a6 → sameC h13 h15 b := fun b n => by rw [eh15]; exact sameC_cA (fun z => n z.symm)
      have l15 : h15.length = h13.length := by rw [eh15, len_cA]
      rw [sameC_I (s15 437 (by omega)), sameC_I (t413 437 (by omega)), v21, sameC_n (s15 a9 (by omega)), n9]
      refine ⟨(by omega), ?_⟩
      intro h17 eh17 t17 u17
      rw [Int.toNat_natCast] at eh17
      have k9b : hk h15 a9 = 100 := by rw [sameC_k (s15 a9 (by omega))]; exact k9
      have n9b : hn h15 a9 = M.length + 1 := by rw [sameC_n (s15 a9 (by omega))]; exact n9
      have e17 := el_cA (h := h15) (a := 444) (sp := 0) (b := a9) (dp := 0) (n := M.length) (t := t15) (u := 0) (q444 t15).1 k9b (by decide) (by rw [(q444 t15).2]; omega) (by omega)
      rw [← eh17] at e17
      have x17 : xhs h17 = xhs h15 := by rw [eh17]; exact xhs_cA (t := t15) (u := 0) (q444 t15).1 k9b (by decide) (by rw [(q444 t15).2]; omega) (by omega)
      have s17 : ∀ b, ¬ b = a9 → sameC h15 h17 b := fun b n => by rw [eh17]; exact sameC_cA (fun z => n z.symm)
      have l17 : h17.length = h15.length := by rw [eh17, len_cA]
      have n9c : hn h17 a9 = M.length + 1 := (congrArg Prod.snd (u17.2 a9 (by omega))).trans n9b
      have w37 : sameC h4 h17 437 := sameC_tr (sameC_tr (t413 437 (by omega)) (s15 437 (by omega))) (s17 437 (by omega))
      rw [sameC_I w37, v21, sameC_I w37, v22, n9c]
      refine ⟨(by omega), ?_⟩
      intro h19 eh19 t19 u19
      rw [Int.toNat_natCast] at eh19
      have s19 : ∀ b, ¬ b = a9 → sameC h17 h19 b := fun b n => by rw [eh19]; exact sameC_sV (fun z => n z.symm)
      have l19 : h19.length = h17.length := by rw [eh19, len_sV]
      have t1319 : ∀ b, ¬ b = a6 → ¬ b = a9 → sameC h13 h19 b := fun b n m => sameC_tr (sameC_tr (s15 b n) (s17 b m)) (s19 b m)
      have n12b : hn h19 a12 = 3 * (fsL M).length := by rw [sameC_n (t1319 a12 (by omega) (by omega))]; exact n12
      rw [n12b]
      refine ⟨(by omega), ?_⟩
      refine ⟨(by omega), ?_⟩
      intro h22 eh22 t22 u22
      rw [Int.toNat_natCast] at eh22
      have k12b : hk h19 a12 = 100 := by rw [sameC_k (t1319 a12 (by omega) (by omega))]; exact ca12
      have e22 := el_cA (h := h19) (a := 445) (sp := 0) (b := a12) (dp := 0) (n := 3 * (fsL M).length) (t := t19) (u := 0) (q445 t19).1 k12b (by decide) (by rw [(q445 t19).2]; omega) (by omega)
      rw [← eh22] at e22
      have x22 : xhs h22 = xhs h19 := by rw [eh22]; exact xhs_cA (t := t19) (u := 0) (q445 t19).1 k12b (by decide) (by rw [(q445 t19).2]; omega) (by omega)
      have s22 : ∀ b, ¬ b = a12 → sameC h19 h22 b := fun b n => by rw [eh22]; exact sameC_cA (fun z => n z.symm)
      have l22 : h22.length = h19.length := by rw [eh22, len_cA]
      intro a23 h24 ea23 eh24 t24 u24 ca23
      have s24 : ∀ b, b < h22.length → sameC h22 h24 b := fun b hb => by rw [eh24]; exact sameC_app hb
      have l24 : h24.length = h22.length + 1 := by rw [eh24]; unfold nO; rw [len_app]
      refine c_X13_init nok.1 ?_
      intro g2 g3 g4_ g5 ee2 tt2 ee3 tt3 ee4 tt4 ee5
      intro t25 u25
      have k14 : hk h24 a23 = 14 := ca23
      have hkk : ∀ b, hk g2 b = hk h24 b ∧ hk g3 b = hk h24 b ∧ hk g4_ b = hk h24 b ∧ hk g5 b = hk h24 b := fun b => ⟨by rw [ee2, hk_sV], by rw [ee3, ee2, hk_sV, hk_sV], by rw [ee4, ee3, ee2, hk_sV, hk_sV, hk_sV], by rw [ee5, ee4, ee3, ee2, hk_sV, hk_sV, hk_sV, hk_sV]⟩
      have p0_ : ∀ b, ¬ b = a23 → sameC h24 g5 b := fun b n => by
        rw [ee5, ee4, ee3, ee2]
        exact sameC_tr (sameC_tr (sameC_tr (sameC_sV (fun z => n z.symm)) (sameC_sV (fun z => n z.symm))) (sameC_sV (fun z => n z.symm))) (sameC_sV (fun z => n z.symm))
      have l5 : g5.length = h24.length := by rw [ee5, ee4, ee3, ee2, len_sV, len_sV, len_sV, len_sV]
      have x5 : xhs g5 = xhs h24 := by rw [ee5, ee4, ee3, ee2, xhs_sV, xhs_sV, xhs_sV, xhs_sV]
      have r0 : hI g5 a23 0 = p1 := by
        rw [ee5, hI_ni (by decide), ee4, hI_ni (by decide), ee3, hI_ni (by decide), ee2]
        exact hI_eq (hn_obj t24 (c := 14) k14 rfl rfl) (by rcases nok.1 with y | y <;> (dsimp only at y; rw [y]; exact rgk rfl))
      have r1 : hR g5 a23 1 = a6 := by
        unfold hR
        rw [ee5, el_ni (by decide), ee4, el_ni (by decide), ee3, el_eq (hn_obj tt2 (c := 14) ((hkk a23).1.trans k14) rfl rfl), gvR_rv]
      have r2 : hR g5 a23 2 = a9 := by
        unfold hR
        rw [ee5, el_ni (by decide), ee4, el_eq (hn_obj tt3 (c := 14) ((hkk a23).2.1.trans k14) rfl rfl), gvR_rv]
      have r3 : hR g5 a23 3 = a12 := by
        unfold hR
        rw [ee5, el_eq (hn_obj tt4 (c := 14) ((hkk a23).2.2.1.trans k14) rfl rfl), gvR_rv]
      have z6 : sameC h15 g5 a6 := sameC_tr (sameC_tr (sameC_tr (sameC_tr (s17 a6 (by omega)) (s19 a6 (by omega))) (s22 a6 (by omega))) (s24 a6 (by omega))) (p0_ a6 (by omega))
      have z9 : sameC h19 g5 a9 := sameC_tr (sameC_tr (s22 a9 (by omega)) (s24 a9 (by omega))) (p0_ a9 (by omega))
      have z12 : sameC h22 g5 a12 := sameC_tr (s24 a12 (by omega)) (p0_ a12 (by omega))
      have old : ∀ b, b < h.length → ¬ b = 437 → sameC h h13 b ∧ sameC h h15 b ∧ sameC h h19 b ∧ sameC h g5 b := fun b hb n => by
        have q1 := sameC_tr (s4 b n) (t413 b (by omega))
        have q3 := sameC_tr q1 (t1319 b (by omega) (by omega))
        exact ⟨q1, sameC_tr q1 (s15 b (by omega)), q3, sameC_tr (sameC_tr (sameC_tr q3 (s22 b (by omega))) (s24 b (by omega))) (p0_ b (by omega))⟩
      have s37 : sameC h4 g5 437 := sameC_tr (sameC_tr (sameC_tr (sameC_tr w37 (s19 437 (by omega))) (s22 437 (by omega))) (s24 437 (by omega))) (p0_ 437 (by omega))
      have V6 : ∀ i, i < M.length → hI g5 a6 i = (M.getD i (0, [])).1 := fun i hi => by
        rw [sameC_I z6]
        unfold hI
        rw [e15, if_pos ⟨by omega, by omega⟩, Nat.zero_add, Nat.sub_zero, sameC_el (old 443 (by omega) (by decide)).1]
        have := (Yl.2 i (by rw [ltL_len]; exact hi)).1
        rw [ltL_at hi] at this
        exact this
      have V9 : ∀ i, i ≤ M.length → hI g5 a9 i = ((fsL (M.take i)).length : Nat) := fun i hi => by
        rw [sameC_I z9, eh19]
        by_cases c : i = M.length
        · rw [c, hI_eq (by omega) (by unfold rg; omega), List.take_length]
        · rw [hI_ni (fun z => c z.symm)]
          unfold hI
          rw [e17, if_pos ⟨by omega, by omega⟩, Nat.zero_add, Nat.sub_zero, sameC_el (old 444 (by omega) (by decide)).2.1]
          have hi2 : i < M.length := by omega
          have := (Yl.2 i (by rw [ltL_len]; exact hi2)).2
          rw [ltL_at hi2] at this
          exact this
      have V12 : ∀ m, m < 3 * (fsL M).length → hI g5 a12 m = hI h 445 m := fun m hm => by
        rw [sameC_I z12]
        unfold hI
        rw [e22, if_pos ⟨by omega, by omega⟩, Nat.zero_add, Nat.sub_zero, sameC_el (old 445 (by omega) (by decide)).2.2.1]
      have gM : ∀ i (hi : i < M.length), M.getD i (0, []) = M[i] := fun i hi => by rw [List.getD_eq_getElem?_getD, List.getElem?_eq_getElem hi]; rfl
      have N : NeedR g5 a23 (p1, M) := by
        refine ⟨(hkk a23).2.2.2.trans k14, r0, nok, by omega, by rw [r1]; omega, by rw [r2]; omega, by rw [r3]; omega, fun i => (fsL (M.take i)).length, ?_⟩
        rw [r1, r2, r3]
        refine ⟨by rw [sameC_k z6]; exact HX_hk u15 k6 (by decide), ?_, ?_, ?_, ?_, ?_, ?_, rfl, fun i hi => V9 i hi, fun i (hi : i < M.length) => ⟨?_, fs_len hi, fun j (hj : j < (M[i]).2.length) => ?_⟩⟩
        · rw [sameC_n z6, show hn h15 a6 = hn h13 a6 from congrArg Prod.snd (u15.2 a6 (by omega))]; exact n6
        · rw [sameC_k z9, eh19, hk_sV]; exact HX_hk u17 k9b (by decide)
        · rw [sameC_n z9, eh19, hn_sV]; exact n9c
        · rw [sameC_k z12]; exact HX_hk u22 k12b (by decide)
        · rw [sameC_n z12, show hn h22 a12 = hn h19 a12 from congrArg Prod.snd (u22.2 a12 (by omega)), n12b]; show 3 * (fsL M).length = 3 * (fsL (M.take M.length)).length; rw [List.take_length]
        · rw [sameC_n z12, show hn h22 a12 = hn h19 a12 from congrArg Prod.snd (u22.2 a12 (by omega)), n12b]; omega
        · rw [V6 i hi, gM i hi]
        · obtain ⟨q1, q2⟩ := fs_at hi hj
          have q3 : (fsL (M.take (i + 1))).length ≤ (fsL M).length := by
            have : fsL M = fsL (M.take (i + 1)) ++ fsL (M.drop (i + 1)) := by
              unfold fsL
              rw [← List.flatMap_append, List.take_append_drop]
            rw [this, List.length_append]; omega
          have hh := Zs.2 ((fsL (M.take i)).length + j) (by omega)
          rw [q2] at hh
          show hI g5 a12 (3 * ((fsL (M.take i)).length + j)) = (((M[i]).2)[j]).1 ∧ hI g5 a12 (3 * ((fsL (M.take i)).length + j) + 1) = (((M[i]).2)[j]).2.1 ∧ hI g5 a12 (3 * ((fsL (M.take i)).length + j) + 2) = (((M[i]).2)[j]).2.2
          rw [V12 _ (by omega), V12 _ (by omega), V12 _ (by omega)]
          exact hh
      refine k _ _ ⟨fun b hb n => (old b hb (fun z => n (.inl z))).2.2.2, by omega, ⟨by omega, ?_⟩, fun j h1_ _ _ => (sameC_el s37 j).trans (g4 j (by omega) (by omega)), (sameC_I s37 9).trans v9⟩ (.inr ⟨hp1, N, (sameC_I s37 10).trans (b1.trans y2), by omega, by omega, by omega, by omega⟩)
      have y7 : xhs h7 = xhs h4 + xcs (some (.inr (0, List.replicate M.length (v0 0)))) := by rw [eh7, xhs_nA, Int.toNat_natCast]
      have y10 : xhs h10 = xhs h7 + xcs (some (.inr (0, List.replicate (M.length + 1) (v0 0)))) := by rw [eh10, xhs_nA, show (((M.length : Nat) : Int) + 1).toNat = M.length + 1 by omega]
      have y13 : xhs h13 = xhs h10 + xcs (some (.inr (0, List.replicate (3 * (fsL M).length) (v0 0)))) := by rw [eh13, xhs_nA, show (3 * (((fsL M).length : Nat) : Int)).toNat = 3 * (fsL M).length by omega]
      have y24 : xhs h24 = xhs h22 + xcs (some (.inl (14, kO 14))) := by rw [eh24, xhs_nO]
      have y19 : xhs h19 = xhs h17 := by rw [eh19, xhs_sV]
      have c1 := xcs_le (show M.length ≤ 200 by omega)
      have c2 := xcs_le (show M.length + 1 ≤ 201 by omega)
      have c3 := xcs_le (show 3 * (fsL M).length ≤ 600 by omega)
      unfold nRd
      omega
    · have y := z3.resolve_right (fun y => y.1 (Decidable.not_not.mp c26))
      refine k _ _ ⟨fun b _ n => s4 b (fun z => n (.inl z)), by omega, ⟨by omega, by omega⟩, fun j h1_ _ _ => g4 j (by omega) (by omega), v9⟩ (.inl ⟨y.1, rfl, b1.trans y.2⟩)
  · refine ⟨fun c27 => ?_, fun c27 => ?_⟩
    · exact .inl ⟨c27, a2 17 (by decide)⟩
    · exact .inr ⟨c27, rfl⟩
