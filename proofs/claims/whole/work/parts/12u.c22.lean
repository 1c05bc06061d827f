/-! PROVIDE -/
/-- whether a version is installed in some root -/
abbrev inUse1 (N : Nat → Int) (v r : Nat) : Prop := inst N r (nV N v 0).toNat = nV N v 1 ∨ inst N r (nV N v 0).toNat = nV N v 1 + 1000000
abbrev inUse (N : Nat → Int) (v : Nat) : Prop := inUse1 N v 0 ∨ inUse1 N v 1 ∨ inUse1 N v 2
theorem inUse_e {N : Nat → Int} {v : Nat} {r : Int} (hr : r = 3) : (∃ q : Nat, (q : Int) < r ∧ inUse1 N v q) ↔ inUse N v := by
  constructor
  · rintro ⟨q, hq, y⟩
    have : q = 0 ∨ q = 1 ∨ q = 2 := by omega
    rcases this with rfl | rfl | rfl
    · exact .inl y
    · exact .inr (.inl y)
    · exact .inr (.inr y)
  · rintro (y | y | y)
    · exact ⟨0, by omega, y⟩
    · exact ⟨1, by omega, y⟩
    · exact ⟨2, by omega, y⟩
set_option maxHeartbeats 1000000 in
theorem c_X11_isInUse {v : Nat} {h : XH} {N : Nat → Int} {nd : Nat → ND} {m : Nat} (T : HT h) (C : CS h 8 N nd) (W : WF N m) (hv : v < vc N) {K : Int → Prop} (k : ∀ x, bq x (inUse N v) → K x) : w_X11_isInUse (v : Int) K h := by
  unfold w_X11_isInUse
  have v40 : v < 40 := by have := W.1.2.2.2.1; unfold vc at hv; omega
  refine c_X12_has (by omega) ?_
  intro x1 qx1
  intro rx1 vx1
  refine k _ (bq_iff qx1 ?_)
  rw [Int.toNat_natCast, BitVec.getLsbD_or, BitVec.getLsbD_or, Bool.or_eq_true, Bool.or_eq_true]
  have s0 := (CS_i C (show 0 < 3 by decide)).1 v v40
  have s1 := (CS_i C (show 1 < 3 by decide)).1 v v40
  have s2 := (CS_i C (show 2 < 3 by decide)).1 v v40
  constructor
  · rintro ((y | y) | y)
    · exact .inl (s0.mp y).2
    · exact .inr (.inl (s1.mp y).2)
    · exact .inr (.inr (s2.mp y).2)
  · rintro (y | y | y)
    · exact .inl (.inl (s0.mpr ⟨hv, y⟩))
    · exact .inl (.inr (s1.mpr ⟨hv, y⟩))
    · exact .inr (s2.mpr ⟨hv, y⟩)
set_option maxHeartbeats 1000000 in
theorem c_X14_isInstalled {v : Nat} {h : XH} {N : Nat → Int} {m : Nat} (T : HT h) (eN : N = nw h) (W : WF N m) (hv : v < vc N) (I : ∀ r : Nat, r < 3 → fOK N (inst N r)) {K : Int → Prop} (k : ∀ x, bq x (inUse N v) → K x) : w_X14_isInstalled (v : Int) K h := by
  unfold w_X14_isInstalled
  have v40 : v < 40 := by have := W.1.2.2.2.1; unfold vc at hv; omega
  have wv := W.1.2.2.2.2.1 v hv
  have w12 := W.1.2.1
  refine ⟨fun a r => 0 ≤ r ∧ r ≤ 3 ∧ bq a (∃ q : Nat, (q : Int) < r ∧ (inst N q (nV N v 0).toNat = nV N v 1 ∨ inst N q (nV N v 0).toNat = nV N v 1 + 1000000)), fun _ r => (3 - r).toNat, ?_, ?_⟩
  · exact ⟨by omega, by omega, bqF (fun ⟨q, hq, _⟩ => by omega)⟩
  · intro x1 x2 rx1 rx2 z4
    refine ⟨fun c19 => ?_, fun c19 => ?_⟩
    · refine ⟨(by rcases z4.2.2 with y | y; exact .inr y.1; exact .inl y.1), ?_⟩
      exact k _ (bq_iff z4.2.2 (inUse_e (by omega)))
    · obtain ⟨z0, z1, zb⟩ := z4
      refine c_X14_ver (by omega) ?_
      intro x6 ex6
      have e6 : x6 = nV N v 0 := by rw [ex6, eN, Int.toNat_natCast]; rfl
      intro rx6
      intro x7 ex7 rx7
      have e7 : x7 = 805 + 291 * x2 + 23 + x6 := by
        rw [ex7]
        simp (disch := omega) only [wr_of]
        omega
      refine ⟨(by omega), ?_⟩
      intro x9 ex9 rx9
      have e9 : x9 = inst N x2.toNat (nV N v 0).toNat := by
        rw [ex9]
        show nw h x7.toNat = _
        rw [← eN]
        unfold inst nR
        congr 1
        omega
      have fr := fOK_r W.1 (I x2.toNat (by omega)) (p := (nV N v 0).toNat) (by omega)
      have st : ∀ b : Prop, (b ↔ (inst N x2.toNat (nV N v 0).toNat = nV N v 1 ∨ inst N x2.toNat (nV N v 0).toNat = nV N v 1 + 1000000)) → ∀ y z, bq y (∃ q : Nat, (q : Int) < x2 ∧ (inst N q (nV N v 0).toNat = nV N v 1 ∨ inst N q (nV N v 0).toNat = nV N v 1 + 1000000)) → bq z ((¬ y = 0) ∨ b) → bq z (∃ q : Nat, (q : Int) < x2 + 1 ∧ (inst N q (nV N v 0).toNat = nV N v 1 ∨ inst N q (nV N v 0).toNat = nV N v 1 + 1000000)) := fun b hb y z qy qz => by
        refine bq_iff qz ?_
        rw [(bq1 qy).2.2.1, hb]
        constructor
        · rintro (⟨q, hq, w⟩ | w)
          · exact ⟨q, by omega, w⟩
          · exact ⟨x2.toNat, by omega, w⟩
        · rintro ⟨q, hq, w⟩
          by_cases c : (q : Int) = x2
          · exact .inr (by rw [show x2.toNat = q by omega]; exact w)
          · exact .inl ⟨q, by omega, w⟩
      refine ⟨fun z => bq z ((¬ x1 = 0) ∨ (inst N x2.toNat (nV N v 0).toNat = nV N v 1 ∨ inst N x2.toNat (nV N v 0).toNat = nV N v 1 + 1000000)), ?_, ?_⟩
      · intro x10 rx10 z11
        intro x12 ex12 rx12
        rw [wr_of (by omega) (by omega)] at ex12
        exact ⟨⟨by omega, by omega, by rw [ex12]; exact st _ Iff.rfl _ _ zb z11⟩, by dsimp only; omega⟩
      · refine ⟨(¬ x1 = 0) ∨ (inst N x2.toNat (nV N v 0).toNat = nV N v 1 ∨ inst N x2.toNat (nV N v 0).toNat = nV N v 1 + 1000000), ?_, ?_⟩
        · intro z13
          first
            | exact bqT z13
            | exact bqF (by omega)
            | exact .inl c18
            | exact ⟨by omega, by omega⟩
            | exact .inr (by omega)
        · refine ⟨fun c18 => ?_, fun c18 => ?_⟩
          · first
              | exact bqT z13
              | exact bqF (by omega)
              | exact .inl c18
              | exact ⟨by omega, by omega⟩
              | exact .inr (by omega)
          · refine ⟨x1 = 0 ∧ ¬ (inst N x2.toNat (nV N v 0).toNat = nV N v 1 ∨ inst N x2.toNat (nV N v 0).toNat = nV N v 1 + 1000000), ?_, ?_⟩
            · intro z14
              first
                | exact bqT z13
                | exact bqF (by omega)
                | exact .inl c18
                | exact ⟨by omega, by omega⟩
                | exact .inr (by omega)
            · refine ⟨fun c17 => ?_, fun c17 => ?_⟩
              · first
                  | exact bqT z13
                  | exact bqF (by omega)
                  | exact .inl c18
                  | exact ⟨by omega, by omega⟩
                  | exact .inr (by omega)
              · refine c_X14_ver (by omega) ?_
                intro x15 ex15
                have e15 : x15 = nV N v 1 := by rw [ex15, eN, Int.toNat_natCast]; rfl
                rw [irem_pos ⟨by omega, by omega⟩ (rgk rfl) (by omega) (by decide)]
                intro rx15
                refine ⟨fun c16 => ?_, fun c16 => ?_⟩
                · first
                    | exact bqT z13
                    | exact bqF (by omega)
                    | exact .inl c18
                    | exact ⟨by omega, by omega⟩
                    | exact .inr (by omega)
                · first
                    | exact bqT z13
                    | exact bqF (by omega)
                    | exact .inl c18
                    | exact ⟨by omega, by omega⟩
                    | exact .inr (by omega)
theorem prov_nV {N : Nat → Int} {v : Nat} {p2 p3 : Int} (h15 : 0 ≤ nV N v 15 ∧ nV N v 15 < 2) : (∀ w, ¬ w = v → ∀ k, k < 20 → nV (updN (updN (updN N (5 + 20 * v + (16 + 2 * (nV N v 15).toNat)) p2) (5 + 20 * v + (17 + 2 * (nV N v 15).toNat)) p3) (5 + 20 * v + 15) (nV N v 15 + 1)) w k = nV N w k) ∧ (∀ k, k < 15 → nV (updN (updN (updN N (5 + 20 * v + (16 + 2 * (nV N v 15).toNat)) p2) (5 + 20 * v + (17 + 2 * (nV N v 15).toNat)) p3) (5 + 20 * v + 15) (nV N v 15 + 1)) v k = nV N v k) ∧ nV (updN (updN (updN N (5 + 20 * v + (16 + 2 * (nV N v 15).toNat)) p2) (5 + 20 * v + (17 + 2 * (nV N v 15).toNat)) p3) (5 + 20 * v + 15) (nV N v 15 + 1)) v 15 = nV N v 15 + 1 ∧ (∀ k : Nat, k < 2 → nV (updN (updN (updN N (5 + 20 * v + (16 + 2 * (nV N v 15).toNat)) p2) (5 + 20 * v + (17 + 2 * (nV N v 15).toNat)) p3) (5 + 20 * v + 15) (nV N v 15 + 1)) v (16 + 2 * k) = (if (k : Int) = nV N v 15 then p2 else nV N v (16 + 2 * k)) ∧ nV (updN (updN (updN N (5 + 20 * v + (16 + 2 * (nV N v 15).toNat)) p2) (5 + 20 * v + (17 + 2 * (nV N v 15).toNat)) p3) (5 + 20 * v + 15) (nV N v 15 + 1)) v (17 + 2 * k) = (if (k : Int) = nV N v 15 then p3 else nV N v (17 + 2 * k))) := by
  refine ⟨fun w n k hk => ?_, fun k hk => ?_, nV_new (by decide), fun k hk => ⟨?_, ?_⟩⟩
  · rw [nV_oth hk (by decide) n, nV_oth hk (by omega) n, nV_oth hk (by omega) n]
  · rw [nV_one (by omega) (by decide) (by omega), nV_one (by omega) (by omega) (by omega), nV_one (by omega) (by omega) (by omega)]
  · rw [nV_one (by omega) (by decide) (by omega), nV_one (by omega) (by omega) (by omega), nV_upd (by omega) (by omega)]
    by_cases c : (k : Int) = nV N v 15
    · rw [if_pos c, if_pos ⟨rfl, by omega⟩]
    · rw [if_neg c, if_neg (by omega)]
  · rw [nV_one (by omega) (by decide) (by omega), nV_upd (by omega) (by omega)]
    by_cases c : (k : Int) = nV N v 15
    · rw [if_pos c, if_pos ⟨rfl, by omega⟩]
    · rw [if_neg c, if_neg (by omega), nV_one (by omega) (by omega) (by omega)]
theorem WF_prov {N : Nat → Int} {m v : Nat} {p2 p3 : Int} (W : WF N m) (hv : v < vc N) (h15 : nV N v 15 < 2) (h2 : 0 ≤ p2 ∧ p2 < N 0 ∧ ¬ p2 = nV N v 0) (h3 : 0 ≤ p3 ∧ p3 < 1000000) : WF (updN (updN (updN N (5 + 20 * v + (16 + 2 * (nV N v 15).toNat)) p2) (5 + 20 * v + (17 + 2 * (nV N v 15).toNat)) p3) (5 + 20 * v + 15) (nV N v 15 + 1)) m ∧ VQ N (updN (updN (updN N (5 + 20 * v + (16 + 2 * (nV N v 15).toNat)) p2) (5 + 20 * v + (17 + 2 * (nV N v 15).toNat)) p3) (5 + 20 * v + 15) (nV N v 15 + 1)) := by
  have v40 : v < 40 := by have := (WF_b W).2.2.2; unfold vc at hv; omega
  obtain ⟨c1, c2, c3, c4, c5, c6, c7, c8, c9, c10, c11, c12, c13, c14, c15, c16, c17, c18, c19, c20, c21, c22⟩ := W.1.2.2.2.2.1 v hv
  obtain ⟨o, e, e15, eg⟩ := prov_nV (N := N) (v := v) (p2 := p2) (p3 := p3) ⟨c20, h15⟩
  have Q1 : VQ N (updN N (5 + 20 * v + (16 + 2 * (nV N v 15).toNat)) p2) := VQ_upd v40 (by omega)
  have Q2 : VQ N (updN (updN N (5 + 20 * v + (16 + 2 * (nV N v 15).toNat)) p2) (5 + 20 * v + (17 + 2 * (nV N v 15).toNat)) p3) := VQ_tr Q1 (VQ_upd v40 (by omega))
  have Q : VQ N (updN (updN (updN N (5 + 20 * v + (16 + 2 * (nV N v 15).toNat)) p2) (5 + 20 * v + (17 + 2 * (nV N v 15).toNat)) p3) (5 + 20 * v + 15) (nV N v 15 + 1)) := VQ_tr Q2 (VQ_upd v40 (by omega))
  refine ⟨⟨WV_1 W.1 Q (Nat.le_refl _) o hv ?_, fun r hr => WRt_vq Q (W.2.1 r hr), WT_vq Q W.2.2⟩, Q⟩
  unfold WV1
  rw [Q.1, e 0 (by decide), e 1 (by decide), e 2 (by decide), e 3 (by decide), e 5 (by decide), e 6 (by decide), e 7 (by decide), e 11 (by decide), e 12 (by decide), e15]
  refine ⟨c1, c2, c3, c4, c5, c6, c7, c8, c9, c10, c11, c12, c13, fun k hk3 hk => ?_, c15, c16, c17, c18, fun k hk2 hk => ?_, by omega, by omega, fun k hk2 hk => ?_⟩
  · rw [e (8 + k) (by omega)]; exact c14 k hk3 hk
  · rw [e (13 + k) (by omega)]; exact c19 k hk2 hk
  · rw [(eg k hk2).1, (eg k hk2).2]
    by_cases c : (k : Int) = nV N v 15
    · rw [if_pos c, if_pos c]; omega
    · rw [if_neg c, if_neg c]; exact c22 k hk2 (by omega)
theorem CS_prov {h g1 g2 g : XH} {N : Nat → Int} {nd : Nat → ND} {m v : Nat} {p2 p3 : Int} (T : HT h) (C : CS h 8 N nd) (W : WF N m) (hv : v < vc N) (h15 : nV N v 15 < 2) (h2 : 0 ≤ p2 ∧ p2 < N 0 ∧ ¬ p2 = nV N v 0) (h3 : 0 ≤ p3 ∧ p3 < 1000000) (T1 : HT g1) (T2 : HT g2) (e1 : g1 = sI h 24 (2 * v + (nV N v 15).toNat) p2) (e2 : g2 = sI g1 25 (2 * v + (nV N v 15).toNat) p3) (e3 : g = sI g2 23 v (nV N v 15 + 1)) : CS g 8 (updN (updN (updN N (5 + 20 * v + (16 + 2 * (nV N v 15).toNat)) p2) (5 + 20 * v + (17 + 2 * (nV N v 15).toNat)) p3) (5 + 20 * v + 15) (nV N v 15 + 1)) nd ∧ WF (updN (updN (updN N (5 + 20 * v + (16 + 2 * (nV N v 15).toNat)) p2) (5 + 20 * v + (17 + 2 * (nV N v 15).toNat)) p3) (5 + 20 * v + 15) (nV N v 15 + 1)) m := by
  obtain ⟨w1, Q⟩ := WF_prov W hv h15 h2 h3
  have wv := W.1.2.2.2.2.1 v hv
  have hW := WF_b W
  have v40 : v < 40 := by unfold vc at hv; omega
  obtain ⟨o, en, e15, eg⟩ := prov_nV (N := N) (v := v) (p2 := p2) (p3 := p3) ⟨by omega, h15⟩
  have s : ∀ c, ¬ c = 23 → ¬ c = 24 → ¬ c = 25 → sameC h g c := fun c n m k => by
    rw [e3, e2, e1]
    exact sameC_tr (sameC_tr (sameC_sV (fun z => m z.symm)) (sameC_sV (fun z => k z.symm))) (sameC_sV (fun z => n z.symm))
  have X : ∀ a, hk h a = 1 ∨ hk h a = 11 → sameC h g a := fun a ha => by
    have n : ¬ a < 468 := fun z => noTxt T z ha
    exact s a (by omega) (by omega) (by omega)
  have n24 : hn h 24 = 80 := lyn (c := 100) (n := 80) T rfl
  have n25 : hn g1 25 = 80 := lyn (c := 100) (n := 80) T1 rfl
  have n23 : hn g2 23 = 40 := lyn (c := 100) (n := 40) T2 rfl
  have g24 : ∀ j, hI g 24 j = if j = 2 * v + (nV N v 15).toNat then p2 else hI h 24 j := fun j => by
    rw [e3, hI_ne (by decide), e2, hI_ne (by decide), e1]
    by_cases c : j = 2 * v + (nV N v 15).toNat
    · rw [if_pos c, c]; exact hI_eq (by omega) ⟨by omega, by omega⟩
    · rw [if_neg c, hI_ni (fun z => c z.symm)]
  have g25 : ∀ j, hI g 25 j = if j = 2 * v + (nV N v 15).toNat then p3 else hI h 25 j := fun j => by
    rw [e3, hI_ne (by decide), e2]
    by_cases c : j = 2 * v + (nV N v 15).toNat
    · rw [if_pos c, c]; exact hI_eq (by omega) ⟨by omega, by omega⟩
    · rw [if_neg c, hI_ni (fun z => c z.symm), e1, hI_ne (by decide)]
  have g23 : ∀ j, hI g 23 j = if j = v then nV N v 15 + 1 else hI h 23 j := fun j => by
    rw [e3]
    by_cases c : j = v
    · rw [if_pos c, c]; exact hI_eq (by omega) ⟨by omega, by omega⟩
    · rw [if_neg c, hI_ni (fun z => c z.symm), e2, hI_ne (by decide), e1, hI_ne (by decide)]
  have s9 := s 9 (by decide) (by decide) (by decide)
  have s26 := s 26 (by decide) (by decide) (by decide)
  have s19 := s 19 (by decide) (by decide) (by decide)
  have s20 := s 20 (by decide) (by decide) (by decide)
  have s21 := s 21 (by decide) (by decide) (by decide)
  have s22 := s 22 (by decide) (by decide) (by decide)
  refine CS_ver (v := v) C W Q (fun c _ _ n => s c (by omega) (by omega) (by omega)) X ⟨sameC_I s9 0, sameC_I s9 1⟩ (fun w hw n => ?_) (fun _ => ?_) w1.1
  · exact CSV1_cg X (o w n) (fun c x y => sameC_I (s c (by omega) (by omega) (by omega)) w) (sameC_R s26 w) (by rw [sameC_L s9]) (fun k _ => ⟨sameC_R s19 _, sameC_I s20 _⟩) (sameC_I s21 w) (fun k hk => ⟨sameC_R s22 _, by rw [g24, if_neg (by omega)], by rw [g25, if_neg (by omega)]⟩) (by rw [g23, if_neg n]) (CSV_1 C.1 hw)
  · obtain ⟨a1, a2, a3, a4, a5, a6, a7, a8, a9, a10, a11, a12, a13⟩ := CSV_1 C.1 hv
    have i : ∀ c, ¬ c = 23 → ¬ c = 24 → ¬ c = 25 → ∀ j, hI g c j = hI h c j := fun c n m k j => sameC_I (s c n m k) j
    unfold CSV1
    rw [en 0 (by decide), en 1 (by decide), en 2 (by decide), en 3 (by decide), en 4 (by decide), en 5 (by decide), en 6 (by decide), en 7 (by decide), en 11 (by decide), en 12 (by decide), e15]
    refine ⟨(i 13 (by decide) (by decide) (by decide) v).trans a1, (i 14 (by decide) (by decide) (by decide) v).trans a2, (i 15 (by decide) (by decide) (by decide) v).trans a3, (i 16 (by decide) (by decide) (by decide) v).trans a4, (i 17 (by decide) (by decide) (by decide) v).trans a5, ?_, ?_, (i 18 (by decide) (by decide) (by decide) v).trans a8, fun k hk3 hk => ?_, (i 21 (by decide) (by decide) (by decide) v).trans a10, fun k hk2 hk => ?_, ?_, fun k hk2 hk => ?_⟩
    · show (hL g 9 10).getLsbD v = true ↔ _
      rw [sameC_L s9]; exact a6
    · show _ ∧ hR g 26 v = 0 ∨ _ ∧ AtomR g (hR g 26 v) _
      rw [sameC_R s26]
      exact a7.imp_right fun y => ⟨y.1, AtomR_fr X y.2⟩
    · rw [en (8 + k) (by omega)]
      show AtomR g (hR g 19 _) _ ∧ hI g 20 _ = _
      rw [sameC_R s19, sameC_I s20]
      exact ⟨AtomR_fr X (a9 k hk3 hk).1, (a9 k hk3 hk).2⟩
    · rw [en (13 + k) (by omega)]
      show AtomR g (hR g 22 _) _
      rw [sameC_R s22]
      exact AtomR_fr X (a11 k hk2 hk)
    · show hI g 23 v = _
      rw [g23, if_pos rfl]
    · rw [(eg k hk2).1, (eg k hk2).2]
      show hI g 24 _ = _ ∧ hI g 25 _ = _
      rw [g24, g25]
      by_cases c : (k : Int) = nV N v 15
      · rw [if_pos c, if_pos c, if_pos (by omega), if_pos (by omega)]
        exact ⟨rfl, rfl⟩
      · rw [if_neg c, if_neg c, if_neg (by omega), if_neg (by omega)]
        exact a13 k hk2 (by omega)
theorem c_inUse {p : Int} {h : XH} {N : Nat → Int} {nd : Nat → ND} {m : Nat} (T : HT h) (C : CS h 8 N nd) (W : WF N m) (h0 : 0 ≤ p) (hv : p.toNat < vc N) {K : Int → Prop} (k : ∀ x, bq x (inUse N p.toNat) → K x) : w_X11_isInUse p K h := by
  obtain ⟨v, rfl⟩ : ∃ v : Nat, p = v := ⟨p.toNat, by omega⟩
  rw [Int.toNat_natCast] at hv k
  exact c_X11_isInUse T C W hv k
theorem c_isInst {p : Int} {h : XH} {N : Nat → Int} {m : Nat} (T : HT h) (eN : N = nw h) (W : WF N m) (h0 : 0 ≤ p) (hv : p.toNat < vc N) (I : ∀ r : Nat, r < 3 → fOK N (inst N r)) {K : Int → Prop} (k : ∀ x, bq x (inUse N p.toNat) → K x) : w_X14_isInstalled p K h := by
  obtain ⟨v, rfl⟩ : ∃ v : Nat, p = v := ⟨p.toNat, by omega⟩
  rw [Int.toNat_natCast] at hv k
  exact c_X14_isInstalled T eN W hv I k
