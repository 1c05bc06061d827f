/-! NEED, BAN, OPTION: what is set -/
def needN (N : Nat → Int) (v : Nat) (x b : Int) : Nat → Int := updN (updN (updN N (5 + 20 * v + (8 + (nV N v 7).toNat)) x) (5 + 20 * v + 11) (ior (nV N v 11) (if b = 0 then 0 else ishl 1 (nV N v 7)))) (5 + 20 * v + 7) (nV N v 7 + 1)
def banN (N : Nat → Int) (v : Nat) (x : Int) : Nat → Int := updN (updN N (5 + 20 * v + (13 + (nV N v 12).toNat)) x) (5 + 20 * v + 12) (nV N v 12 + 1)
def optN (N : Nat → Int) (v : Nat) (x : Int) : Nat → Int := updN N (5 + 20 * v + 6) (x + 1)
theorem need_nV {N : Nat → Int} {v : Nat} {x b : Int} (h7 : 0 ≤ nV N v 7 ∧ nV N v 7 < 3) : (∀ w, ¬ w = v → ∀ k, k < 20 → nV (needN N v x b) w k = nV N w k) ∧ (∀ k, k < 20 → ¬ k = 7 → ¬ k = 11 → ¬ k = 8 + (nV N v 7).toNat → nV (needN N v x b) v k = nV N v k) ∧ nV (needN N v x b) v 7 = nV N v 7 + 1 ∧ nV (needN N v x b) v 11 = ior (nV N v 11) (if b = 0 then 0 else ishl 1 (nV N v 7)) ∧ nV (needN N v x b) v (8 + (nV N v 7).toNat) = x := by
  unfold needN
  refine ⟨fun w n k hk => ?_, fun k hk n1 n2 n3 => ?_, nV_new (by decide), ?_, ?_⟩
  · rw [nV_oth hk (by decide) n, nV_oth hk (by decide) n, nV_oth hk (by omega) n]
  · rw [nV_one hk (by decide) n1, nV_one hk (by decide) n2, nV_one hk (by omega) n3]
  · rw [nV_one (by decide) (by decide) (by decide), nV_new (by decide)]
  · rw [nV_one (by omega) (by decide) (by omega), nV_one (by omega) (by decide) (by omega), nV_new (by omega)]
theorem need_b {N : Nat → Int} {v : Nat} {b : Int} (h7 : 0 ≤ nV N v 7 ∧ nV N v 7 < 3) (h11 : 0 ≤ nV N v 11) (l11 : nV N v 11 < 8 ∧ ∀ k : Nat, nV N v 7 ≤ k → (nV N v 11).toNat.testBit k = false) : ∃ y : Nat, ior (nV N v 11) (if b = 0 then 0 else ishl 1 (nV N v 7)) = (y : Int) ∧ y < 8 ∧ ∀ k : Nat, y.testBit k = if k = (nV N v 7).toNat then !decide (b = 0) else (nV N v 11).toNat.testBit k := by
  obtain ⟨B, eB⟩ : ∃ B : Nat, nV N v 11 = (B : Int) := ⟨(nV N v 11).toNat, by omega⟩
  obtain ⟨c, ec⟩ : ∃ c : Nat, nV N v 7 = (c : Int) := ⟨(nV N v 7).toNat, by omega⟩
  have lo := l11.2
  rw [eB, ec] at lo ⊢
  simp only [Int.toNat_natCast] at lo ⊢
  have lB : B < 8 := by omega
  have lc : c < 3 := by omega
  have tB := lo c (by omega)
  by_cases p : b = 0
  · rw [if_pos p]
    refine ⟨B, ?_, lB, fun k => ?_⟩
    · have := ior_nat (a := B) (b := 0) (by omega) (by decide)
      rw [Nat.or_zero] at this
      exact this
    · by_cases z : k = c
      · rw [if_pos z, z, tB, decide_eq_true p]; rfl
      · rw [if_neg z]
  · rw [if_neg p]
    have e1 : ishl 1 (c : Int) = ((2 ^ c : Nat) : Int) := ishl1 (n := (c : Int)) ⟨by omega, by omega⟩
    have l2 : 2 ^ c < 8 := by
      have : c = 0 ∨ c = 1 ∨ c = 2 := by omega
      rcases this with z | z | z <;> rw [z] <;> decide
    refine ⟨B ||| 2 ^ c, ?_, Nat.or_lt_two_pow (n := 3) lB l2, fun k => ?_⟩
    · rw [e1]; exact ior_nat (by omega) (by omega)
    · rw [Nat.testBit_or, Nat.testBit_two_pow]
      by_cases z : k = c
      · rw [if_pos z, z, tB, decide_eq_true rfl, decide_eq_false p]; rfl
      · rw [if_neg z, decide_eq_false (fun w => z w.symm), Bool.or_false]
theorem WF_need {N : Nat → Int} {m v : Nat} {x b : Int} (W : WF N m) (hv : v < vc N) (h7 : nV N v 7 < 3) (hx : 0 ≤ x ∧ x < m) : WF (needN N v x b) m ∧ VQ N (needN N v x b) := by
  have v40 : v < 40 := by have := (WF_b W).2.2.2; unfold vc at hv; omega
  obtain ⟨c1, c2, c3, c4, c5, c6, c7, c8, c9, c10, c11, c12, c13, c14, c15, c16, c17, c18, c19, c20, c21, c22⟩ := W.1.2.2.2.2.1 v hv
  obtain ⟨o, e, e7, e11, e8⟩ := need_nV (N := N) (v := v) (x := x) (b := b) ⟨c12, h7⟩
  obtain ⟨y, ey, ly, ty⟩ := need_b (b := b) ⟨c12, h7⟩ c15 c16
  have Q1 : VQ N (updN N (5 + 20 * v + (8 + (nV N v 7).toNat)) x) := VQ_upd v40 (by omega)
  have Q : VQ N (needN N v x b) := VQ_tr (VQ_tr Q1 (VQ_upd v40 (by decide))) (VQ_upd v40 (by decide))
  refine ⟨⟨WV_1 W.1 Q (Nat.le_refl _) o hv ?_, fun r hr => WRt_vq Q (W.2.1 r hr), WT_vq Q W.2.2⟩, Q⟩
  unfold WV1
  rw [Q.1, e 0 (by decide) (by decide) (by decide) (by omega), e 1 (by decide) (by decide) (by decide) (by omega), e 2 (by decide) (by decide) (by decide) (by omega), e 3 (by decide) (by decide) (by decide) (by omega), e 5 (by decide) (by decide) (by decide) (by omega), e 6 (by decide) (by decide) (by decide) (by omega), e7, e11, ey, e 12 (by decide) (by decide) (by decide) (by omega), e 15 (by decide) (by decide) (by decide) (by omega)]
  refine ⟨c1, c2, c3, c4, c5, c6, c7, c8, c9, c10, c11, by omega, by omega, fun k hk3 hk => ?_, by omega, ⟨by omega, fun k hk => ?_⟩, c17, c18, fun k hk2 hk => ?_, c20, c21, fun k hk2 hk => ?_⟩
  · by_cases z : k = (nV N v 7).toNat
    · rw [z, e8]; omega
    · rw [e (8 + k) (by omega) (by omega) (by omega) (by omega)]; exact c14 k hk3 (by omega)
  · rw [Int.toNat_natCast, ty, if_neg (by omega)]
    exact c16.2 k (by omega)
  · rw [e (13 + k) (by omega) (by omega) (by omega) (by omega)]; exact c19 k hk2 hk
  · rw [e (16 + 2 * k) (by omega) (by omega) (by omega) (by omega), e (17 + 2 * k) (by omega) (by omega) (by omega) (by omega)]; exact c22 k hk2 hk
theorem CS_need {h g1 g2 g : XH} {N : Nat → Int} {nd : Nat → ND} {m v a : Nat} {x b : Int} (T : HT h) (C : CS h 8 N nd) (W : WF N m) (hv : v < vc N) (h7 : nV N v 7 < 3) (hx : 0 ≤ x ∧ x < m) (A : AtomR h a (nd x.toNat)) (hb : b = 0 ∨ b = 1) (T1 : HT g1) (T2 : HT g2) (e1 : g1 = sR h 19 (3 * v + (nV N v 7).toNat) a) (e2 : g2 = sI g1 20 (3 * v + (nV N v 7).toNat) b) (e3 : g = sI g2 18 v (nV N v 7 + 1)) : CS g 8 (needN N v x b) nd ∧ WF (needN N v x b) m := by
  obtain ⟨w1, Q⟩ := WF_need (b := b) W hv h7 hx
  have v40 : v < 40 := by have := (WF_b W).2.2.2; unfold vc at hv; omega
  obtain ⟨c1, c2, c3, c4, c5, c6, c7, c8, c9, c10, c11, c12, c13, c14, c15, c16, c17, c18, c19, c20, c21, c22⟩ := W.1.2.2.2.2.1 v hv
  obtain ⟨o, e, e7, e11, e8⟩ := need_nV (N := N) (v := v) (x := x) (b := b) ⟨c12, h7⟩
  obtain ⟨y, ey, ly, ty⟩ := need_b (b := b) ⟨c12, h7⟩ c15 c16
  have s : ∀ c, ¬ c = 18 → ¬ c = 19 → ¬ c = 20 → sameC h g c := fun c n m k => by
    rw [e3, e2, e1]
    exact sameC_tr (sameC_tr (sameC_sV (fun z => m z.symm)) (sameC_sV (fun z => k z.symm))) (sameC_sV (fun z => n z.symm))
  have X : ∀ a, hk h a = 1 ∨ hk h a = 11 → sameC h g a := fun a ha => by
    have n : ¬ a < 468 := fun z => noTxt T z ha
    exact s a (by omega) (by omega) (by omega)
  have n19 : hn h 19 = 120 := lyn (c := 103) (n := 120) T rfl
  have n20 : hn g1 20 = 120 := lyn (c := 102) (n := 120) T1 rfl
  have n18 : hn g2 18 = 40 := lyn (c := 100) (n := 40) T2 rfl
  have g19 : ∀ j, hR g 19 j = if j = 3 * v + (nV N v 7).toNat then a else hR h 19 j := fun j => by
    rw [e3, hR_ne (by decide), e2, hR_ne (by decide), e1]
    by_cases c : j = 3 * v + (nV N v 7).toNat
    · rw [if_pos c, c]; exact hR_eq (by omega)
    · rw [if_neg c, hR_ni (fun z => c z.symm)]
  have g20 : ∀ j, hI g 20 j = if j = 3 * v + (nV N v 7).toNat then b else hI h 20 j := fun j => by
    rw [e3, hI_ne (by decide), e2]
    by_cases c : j = 3 * v + (nV N v 7).toNat
    · rw [if_pos c, c]; exact hI_eq (by omega) (by unfold rg; omega)
    · rw [if_neg c, hI_ni (fun z => c z.symm), e1, hI_ne (by decide)]
  have g18 : ∀ j, hI g 18 j = if j = v then nV N v 7 + 1 else hI h 18 j := fun j => by
    rw [e3]
    by_cases c : j = v
    · rw [if_pos c, c]; exact hI_eq (by omega) (by unfold rg; omega)
    · rw [if_neg c, hI_ni (fun z => c z.symm), e2, hI_ne (by decide), e1, hI_ne (by decide)]
  have s9 := s 9 (by decide) (by decide) (by decide)
  have s26 := s 26 (by decide) (by decide) (by decide)
  have s21 := s 21 (by decide) (by decide) (by decide)
  have s22 := s 22 (by decide) (by decide) (by decide)
  have s23 := s 23 (by decide) (by decide) (by decide)
  have s24 := s 24 (by decide) (by decide) (by decide)
  have s25 := s 25 (by decide) (by decide) (by decide)
  refine CS_ver (v := v) C W Q (fun c _ _ n => s c (by omega) (by omega) (by omega)) X ⟨sameC_I s9 0, sameC_I s9 1⟩ (fun w hw n => ?_) (fun _ => ?_) w1.1
  · refine CSV1_cg X (o w n) (fun c x y => ?_) (sameC_R s26 w) (by rw [sameC_L s9]) (fun k hk => ⟨by rw [g19, if_neg (by omega)], by rw [g20, if_neg (by omega)]⟩) (sameC_I s21 w) (fun k _ => ⟨sameC_R s22 _, sameC_I s24 _, sameC_I s25 _⟩) (sameC_I s23 w) (CSV_1 C.1 hw)
    by_cases z : c = 18
    · rw [z, g18, if_neg n]
    · exact sameC_I (s c z (by omega) (by omega)) w
  · obtain ⟨a1, a2, a3, a4, a5, a6, a7, a8, a9, a10, a11, a12, a13⟩ := CSV_1 C.1 hv
    have i : ∀ c, ¬ c = 18 → ¬ c = 19 → ¬ c = 20 → ∀ j, hI g c j = hI h c j := fun c n m k j => sameC_I (s c n m k) j
    unfold CSV1
    rw [e 0 (by decide) (by decide) (by decide) (by omega), e 1 (by decide) (by decide) (by decide) (by omega), e 2 (by decide) (by decide) (by decide) (by omega), e 3 (by decide) (by decide) (by decide) (by omega), e 4 (by decide) (by decide) (by decide) (by omega), e 5 (by decide) (by decide) (by decide) (by omega), e 6 (by decide) (by decide) (by decide) (by omega), e7, e11, ey, e 12 (by decide) (by decide) (by decide) (by omega), e 15 (by decide) (by decide) (by decide) (by omega)]
    refine ⟨(i 13 (by decide) (by decide) (by decide) v).trans a1, (i 14 (by decide) (by decide) (by decide) v).trans a2, (i 15 (by decide) (by decide) (by decide) v).trans a3, (i 16 (by decide) (by decide) (by decide) v).trans a4, (i 17 (by decide) (by decide) (by decide) v).trans a5, ?_, ?_, ?_, fun k hk3 hk => ?_, (i 21 (by decide) (by decide) (by decide) v).trans a10, fun k hk2 hk => ?_, (i 23 (by decide) (by decide) (by decide) v).trans a12, fun k hk2 hk => ?_⟩
    · show (hL g 9 10).getLsbD v = true ↔ _
      rw [sameC_L s9]; exact a6
    · show _ ∧ hR g 26 v = 0 ∨ _ ∧ AtomR g (hR g 26 v) _
      rw [sameC_R s26]
      exact a7.imp_right fun y => ⟨y.1, AtomR_fr X y.2⟩
    · show hI g 18 v = _
      rw [g18, if_pos rfl]
    · show AtomR g (hR g 19 _) _ ∧ hI g 20 _ = _
      rw [Int.toNat_natCast, ty, g19, g20]
      by_cases z : k = (nV N v 7).toNat
      · rw [z, if_pos rfl, if_pos rfl, if_pos rfl, e8]
        refine ⟨AtomR_fr X A, ?_⟩
        rcases hb with hb | hb <;> rw [hb] <;> decide
      · rw [if_neg (by omega), if_neg (by omega), if_neg z, e (8 + k) (by omega) (by omega) (by omega) (by omega)]
        exact ⟨AtomR_fr X (a9 k hk3 (by omega)).1, (a9 k hk3 (by omega)).2⟩
    · rw [e (13 + k) (by omega) (by omega) (by omega) (by omega)]
      show AtomR g (hR g 22 _) _
      rw [sameC_R s22]
      exact AtomR_fr X (a11 k hk2 hk)
    · rw [e (16 + 2 * k) (by omega) (by omega) (by omega) (by omega), e (17 + 2 * k) (by omega) (by omega) (by omega) (by omega)]
      show hI g 24 _ = _ ∧ hI g 25 _ = _
      rw [sameC_I s24, sameC_I s25]
      exact a13 k hk2 hk
