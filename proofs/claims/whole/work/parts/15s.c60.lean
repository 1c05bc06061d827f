/-! BAN, OPTION: what is set -/
theorem ban_nV {N : Nat → Int} {v : Nat} {x : Int} (h7 : 0 ≤ nV N v 12 ∧ nV N v 12 < 2) : (∀ w, ¬ w = v → ∀ k, k < 20 → nV (banN N v x) w k = nV N w k) ∧ (∀ k, k < 20 → ¬ k = 12 → ¬ k = 13 + (nV N v 12).toNat → nV (banN N v x) v k = nV N v k) ∧ nV (banN N v x) v 12 = nV N v 12 + 1 ∧ nV (banN N v x) v (13 + (nV N v 12).toNat) = x := by
  unfold banN
  refine ⟨fun w n k hk => ?_, fun k hk n1 n2 => ?_, nV_new (by decide), ?_⟩
  · rw [nV_oth hk (by decide) n, nV_oth hk (by omega) n]
  · rw [nV_one hk (by decide) n1, nV_one hk (by omega) n2]
  · rw [nV_one (by omega) (by decide) (by omega), nV_new (by omega)]
theorem WF_ban {N : Nat → Int} {m v : Nat} {x : Int} (W : WF N m) (hv : v < vc N) (h7 : nV N v 12 < 2) (hx : 0 ≤ x ∧ x < m) : WF (banN N v x) m ∧ VQ N (banN N v x) := by
  have v40 : v < 40 := by have := (WF_b W).2.2.2; unfold vc at hv; omega
  obtain ⟨c1, c2, c3, c4, c5, c6, c7, c8, c9, c10, c11, c12, c13, c14, c15, c16, c17, c18, c19, c20, c21, c22⟩ := W.1.2.2.2.2.1 v hv
  obtain ⟨o, e, e12, e13⟩ := ban_nV (N := N) (v := v) (x := x) ⟨c17, h7⟩
  have Q : VQ N (banN N v x) := VQ_tr (VQ_upd v40 (by omega)) (VQ_upd v40 (by decide))
  refine ⟨⟨WV_1 W.1 Q (Nat.le_refl _) o hv ?_, fun r hr => WRt_vq Q (W.2.1 r hr), WT_vq Q W.2.2⟩, Q⟩
  unfold WV1
  rw [Q.1, e 0 (by decide) (by decide) (by omega), e 1 (by decide) (by decide) (by omega), e 2 (by decide) (by decide) (by omega), e 3 (by decide) (by decide) (by omega), e 5 (by decide) (by decide) (by omega), e 6 (by decide) (by decide) (by omega), e 7 (by decide) (by decide) (by omega), e 11 (by decide) (by decide) (by omega), e12, e 15 (by decide) (by decide) (by omega)]
  refine ⟨c1, c2, c3, c4, c5, c6, c7, c8, c9, c10, c11, c12, c13, fun k hk3 hk => ?_, c15, c16, by omega, by omega, fun k hk2 hk => ?_, c20, c21, fun k hk2 hk => ?_⟩
  · rw [e (8 + k) (by omega) (by omega) (by omega)]; exact c14 k hk3 (by omega)
  · by_cases z : k = (nV N v 12).toNat
    · rw [z, e13]; omega
    · rw [e (13 + k) (by omega) (by omega) (by omega)]; exact c19 k hk2 (by omega)
  · rw [e (16 + 2 * k) (by omega) (by omega) (by omega), e (17 + 2 * k) (by omega) (by omega) (by omega)]; exact c22 k hk2 hk
theorem CS_ban {h g1 g : XH} {N : Nat → Int} {nd : Nat → ND} {m v a : Nat} {x : Int} (T : HT h) (C : CS h 8 N nd) (W : WF N m) (hv : v < vc N) (h7 : nV N v 12 < 2) (hx : 0 ≤ x ∧ x < m) (A : AtomR h a (nd x.toNat)) (T1 : HT g1) (e1 : g1 = sR h 22 (2 * v + (nV N v 12).toNat) a) (e3 : g = sI g1 21 v (nV N v 12 + 1)) : CS g 8 (banN N v x) nd ∧ WF (banN N v x) m := by
  obtain ⟨w1, Q⟩ := WF_ban W hv h7 hx
  have v40 : v < 40 := by have := (WF_b W).2.2.2; unfold vc at hv; omega
  obtain ⟨c1, c2, c3, c4, c5, c6, c7, c8, c9, c10, c11, c12, c13, c14, c15, c16, c17, c18, c19, c20, c21, c22⟩ := W.1.2.2.2.2.1 v hv
  obtain ⟨o, e, e12, e13⟩ := ban_nV (N := N) (v := v) (x := x) ⟨c17, h7⟩
  have s : ∀ c, ¬ c = 21 → ¬ c = 22 → sameC h g c := fun c n m => by
    rw [e3, e1]
    exact sameC_tr (sameC_sV (fun z => m z.symm)) (sameC_sV (fun z => n z.symm))
  have X : ∀ a, hk h a = 1 ∨ hk h a = 11 → sameC h g a := fun a ha => by
    have n : ¬ a < 468 := fun z => noTxt T z ha
    exact s a (by omega) (by omega)
  have n22 : hn h 22 = 80 := lyn (c := 103) (n := 80) T rfl
  have n21 : hn g1 21 = 40 := lyn (c := 100) (n := 40) T1 rfl
  have g22 : ∀ j, hR g 22 j = if j = 2 * v + (nV N v 12).toNat then a else hR h 22 j := fun j => by
    rw [e3, hR_ne (by decide), e1]
    by_cases c : j = 2 * v + (nV N v 12).toNat
    · rw [if_pos c, c]; exact hR_eq (by omega)
    · rw [if_neg c, hR_ni (fun z => c z.symm)]
  have g21 : ∀ j, hI g 21 j = if j = v then nV N v 12 + 1 else hI h 21 j := fun j => by
    rw [e3]
    by_cases c : j = v
    · rw [if_pos c, c]; exact hI_eq (by omega) (by unfold rg; omega)
    · rw [if_neg c, hI_ni (fun z => c z.symm), e1, hI_ne (by decide)]
  have s9 := s 9 (by decide) (by decide)
  have s26 := s 26 (by decide) (by decide)
  have s19 := s 19 (by decide) (by decide)
  have s20 := s 20 (by decide) (by decide)
  have s23 := s 23 (by decide) (by decide)
  have s24 := s 24 (by decide) (by decide)
  have s25 := s 25 (by decide) (by decide)
  refine CS_ver (v := v) C W Q (fun c _ _ n => s c (by omega) (by omega)) X ⟨sameC_I s9 0, sameC_I s9 1⟩ (fun w hw n => ?_) (fun _ => ?_) w1.1
  · exact CSV1_cg X (o w n) (fun c x y => sameC_I (s c (by omega) (by omega)) w) (sameC_R s26 w) (by rw [sameC_L s9]) (fun k hk => ⟨sameC_R s19 _, sameC_I s20 _⟩) (by rw [g21, if_neg n]) (fun k _ => ⟨by rw [g22, if_neg (by omega)], sameC_I s24 _, sameC_I s25 _⟩) (sameC_I s23 w) (CSV_1 C.1 hw)
  · obtain ⟨a1, a2, a3, a4, a5, a6, a7, a8, a9, a10, a11, a12, a13⟩ := CSV_1 C.1 hv
    have i : ∀ c, ¬ c = 21 → ¬ c = 22 → ∀ j, hI g c j = hI h c j := fun c n m j => sameC_I (s c n m) j
    unfold CSV1
    rw [e 0 (by decide) (by decide) (by omega), e 1 (by decide) (by decide) (by omega), e 2 (by decide) (by decide) (by omega), e 3 (by decide) (by decide) (by omega), e 4 (by decide) (by decide) (by omega), e 5 (by decide) (by decide) (by omega), e 6 (by decide) (by decide) (by omega), e 7 (by decide) (by decide) (by omega), e 11 (by decide) (by decide) (by omega), e12, e 15 (by decide) (by decide) (by omega)]
    refine ⟨(i 13 (by decide) (by decide) v).trans a1, (i 14 (by decide) (by decide) v).trans a2, (i 15 (by decide) (by decide) v).trans a3, (i 16 (by decide) (by decide) v).trans a4, (i 17 (by decide) (by decide) v).trans a5, ?_, ?_, (i 18 (by decide) (by decide) v).trans a8, fun k hk3 hk => ?_, ?_, fun k hk2 hk => ?_, (i 23 (by decide) (by decide) v).trans a12, fun k hk2 hk => ?_⟩
    · show (hL g 9 10).getLsbD v = true ↔ _
      rw [sameC_L s9]; exact a6
    · show _ ∧ hR g 26 v = 0 ∨ _ ∧ AtomR g (hR g 26 v) _
      rw [sameC_R s26]
      exact a7.imp_right fun y => ⟨y.1, AtomR_fr X y.2⟩
    · rw [e (8 + k) (by omega) (by omega) (by omega)]
      show AtomR g (hR g 19 _) _ ∧ hI g 20 _ = _
      rw [sameC_R s19, sameC_I s20]
      exact ⟨AtomR_fr X (a9 k hk3 hk).1, (a9 k hk3 hk).2⟩
    · show hI g 21 v = _
      rw [g21, if_pos rfl]
    · show AtomR g (hR g 22 _) _
      rw [g22]
      by_cases z : k = (nV N v 12).toNat
      · rw [z, if_pos rfl, e13]
        exact AtomR_fr X A
      · rw [if_neg (by omega), e (13 + k) (by omega) (by omega) (by omega)]
        exact AtomR_fr X (a11 k hk2 (by omega))
    · rw [e (16 + 2 * k) (by omega) (by omega) (by omega), e (17 + 2 * k) (by omega) (by omega) (by omega)]
      show hI g 24 _ = _ ∧ hI g 25 _ = _
      rw [sameC_I s24, sameC_I s25]
      exact a13 k hk2 hk
theorem opt_nV {N : Nat → Int} {v : Nat} {x : Int} : (∀ w, ¬ w = v → ∀ k, k < 20 → nV (optN N v x) w k = nV N w k) ∧ (∀ k, k < 20 → ¬ k = 6 → nV (optN N v x) v k = nV N v k) ∧ nV (optN N v x) v 6 = x + 1 := by
  unfold optN
  exact ⟨fun w n k hk => nV_oth hk (by decide) n, fun k hk n1 => nV_one hk (by decide) n1, nV_new (by decide)⟩
theorem WF_opt {N : Nat → Int} {m v : Nat} {x : Int} (W : WF N m) (hv : v < vc N) (hx : 0 ≤ x ∧ x < m) : WF (optN N v x) m ∧ VQ N (optN N v x) := by
  have v40 : v < 40 := by have := (WF_b W).2.2.2; unfold vc at hv; omega
  obtain ⟨c1, c2, c3, c4, c5, c6, c7, c8, c9, c10, c11, c12, c13, c14, c15, c16, c17, c18, c19, c20, c21, c22⟩ := W.1.2.2.2.2.1 v hv
  obtain ⟨o, e, e6⟩ := opt_nV (N := N) (v := v) (x := x)
  have Q : VQ N (optN N v x) := VQ_upd v40 (by decide)
  refine ⟨⟨WV_1 W.1 Q (Nat.le_refl _) o hv ?_, fun r hr => WRt_vq Q (W.2.1 r hr), WT_vq Q W.2.2⟩, Q⟩
  unfold WV1
  rw [Q.1, e 0 (by decide) (by decide), e 1 (by decide) (by decide), e 2 (by decide) (by decide), e 3 (by decide) (by decide), e 5 (by decide) (by decide), e6, e 7 (by decide) (by decide), e 11 (by decide) (by decide), e 12 (by decide) (by decide), e 15 (by decide) (by decide)]
  refine ⟨c1, c2, c3, c4, c5, c6, c7, c8, c9, by omega, by omega, c12, c13, fun k hk3 hk => ?_, c15, c16, c17, c18, fun k hk2 hk => ?_, c20, c21, fun k hk2 hk => ?_⟩
  · rw [e (8 + k) (by omega) (by omega)]; exact c14 k hk3 (by omega)
  · rw [e (13 + k) (by omega) (by omega)]; exact c19 k hk2 (by omega)
  · rw [e (16 + 2 * k) (by omega) (by omega), e (17 + 2 * k) (by omega) (by omega)]; exact c22 k hk2 hk
theorem CS_opt {h g : XH} {N : Nat → Int} {nd : Nat → ND} {m v a : Nat} {x : Int} (T : HT h) (C : CS h 8 N nd) (W : WF N m) (hv : v < vc N) (hx : 0 ≤ x ∧ x < m) (A : AtomR h a (nd x.toNat)) (e1 : g = sR h 26 v a) : CS g 8 (optN N v x) nd ∧ WF (optN N v x) m := by
  obtain ⟨w1, Q⟩ := WF_opt W hv hx
  have v40 : v < 40 := by have := (WF_b W).2.2.2; unfold vc at hv; omega
  obtain ⟨o, e, e6⟩ := opt_nV (N := N) (v := v) (x := x)
  have s : ∀ c, ¬ c = 26 → sameC h g c := fun c n => by rw [e1]; exact sameC_sV (fun z => n z.symm)
  have X : ∀ a, hk h a = 1 ∨ hk h a = 11 → sameC h g a := fun a ha => by
    have n : ¬ a < 468 := fun z => noTxt T z ha
    exact s a (by omega)
  have n26 : hn h 26 = 40 := lyn (c := 103) (n := 40) T rfl
  have g26 : ∀ j, hR g 26 j = if j = v then a else hR h 26 j := fun j => by
    rw [e1]
    by_cases c : j = v
    · rw [if_pos c, c]; exact hR_eq (by omega)
    · rw [if_neg c, hR_ni (fun z => c z.symm)]
  have s9 := s 9 (by decide)
  have s19 := s 19 (by decide)
  have s20 := s 20 (by decide)
  have s22 := s 22 (by decide)
  have s24 := s 24 (by decide)
  have s25 := s 25 (by decide)
  refine CS_ver (v := v) C W Q (fun c _ _ n => s c (by omega)) X ⟨sameC_I s9 0, sameC_I s9 1⟩ (fun w hw n => ?_) (fun _ => ?_) w1.1
  · exact CSV1_cg X (o w n) (fun c x y => sameC_I (s c (by omega)) w) (by rw [g26, if_neg n]) (by rw [sameC_L s9]) (fun k hk => ⟨sameC_R s19 _, sameC_I s20 _⟩) (sameC_I (s 21 (by decide)) w) (fun k _ => ⟨sameC_R s22 _, sameC_I s24 _, sameC_I s25 _⟩) (sameC_I (s 23 (by decide)) w) (CSV_1 C.1 hw)
  · obtain ⟨a1, a2, a3, a4, a5, a6, a7, a8, a9, a10, a11, a12, a13⟩ := CSV_1 C.1 hv
    have i : ∀ c, ¬ c = 26 → ∀ j, hI g c j = hI h c j := fun c n j => sameC_I (s c n) j
    unfold CSV1
    rw [e 0 (by decide) (by decide), e 1 (by decide) (by decide), e 2 (by decide) (by decide), e 3 (by decide) (by decide), e 4 (by decide) (by decide), e 5 (by decide) (by decide), e6, e 7 (by decide) (by decide), e 11 (by decide) (by decide), e 12 (by decide) (by decide), e 15 (by decide) (by decide)]
    refine ⟨(i 13 (by decide) v).trans a1, (i 14 (by decide) v).trans a2, (i 15 (by decide) v).trans a3, (i 16 (by decide) v).trans a4, (i 17 (by decide) v).trans a5, ?_, ?_, (i 18 (by decide) v).trans a8, fun k hk3 hk => ?_, (i 21 (by decide) v).trans a10, fun k hk2 hk => ?_, (i 23 (by decide) v).trans a12, fun k hk2 hk => ?_⟩
    · show (hL g 9 10).getLsbD v = true ↔ _
      rw [sameC_L s9]; exact a6
    · show _ ∧ hR g 26 v = 0 ∨ _ ∧ AtomR g (hR g 26 v) _
      rw [g26, if_pos rfl]
      refine .inr ⟨by omega, ?_⟩
      rw [show (x + 1 - 1).toNat = x.toNat by omega]
      exact AtomR_fr X A
    · rw [e (8 + k) (by omega) (by omega)]
      show AtomR g (hR g 19 _) _ ∧ hI g 20 _ = _
      rw [sameC_R s19, sameC_I s20]
      exact ⟨AtomR_fr X (a9 k hk3 hk).1, (a9 k hk3 hk).2⟩
    · rw [e (13 + k) (by omega) (by omega)]
      show AtomR g (hR g 22 _) _
      rw [sameC_R s22]
      exact AtomR_fr X (a11 k hk2 hk)
    · rw [e (16 + 2 * k) (by omega) (by omega), e (17 + 2 * k) (by omega) (by omega)]
      show hI g 24 _ = _ ∧ hI g 25 _ = _
      rw [sameC_I s24, sameC_I s25]
      exact a13 k hk2 hk
/-! WISH, PIN -/
def wishN (N : Nat → Int) (r : Nat) (x : Int) : Nat → Int := updN (updN N (805 + 291 * r + (1 + (nR N r 0).toNat)) x) (805 + 291 * r + 0) (nR N r 0 + 1)
def pinN (N : Nat → Int) (r p : Nat) (x : Int) : Nat → Int := updN N (805 + 291 * r + (10 + p)) x
theorem CS_wish {h g1 g : XH} {N : Nat → Int} {nd : Nat → ND} {m r a : Nat} {x : Int} (T : HT h) (C : CS h 8 N nd) (W : WF N m) (hr : r < 3) (v8 : nR N r 0 < 8) (hx : 0 ≤ x ∧ x < m) (A : AtomR h a (nd x.toNat)) (e1 : g1 = sR h (rc r + 1) (nR N r 0).toNat a) (e : g = sI g1 (rc r) 0 (nR N r 0 + 1)) (k4 : 8 ≤ hn h (rc r + 1)) (k5 : 0 < hn g1 (rc r)) : CS g 8 (wishN N r x) nd ∧ WF (wishN N r x) m := by
  have rb := rc_lt hr
  have hW := WF_b W
  have hv := WV_hp W.1
  obtain ⟨d1, d2, d3, d4, d5, d6, d7, d8, d9, d10, d11⟩ := W.2.1 r hr
  obtain ⟨v, ev0⟩ : ∃ v : Nat, (nR N r 0).toNat = v := ⟨_, rfl⟩
  have ev1 : nR N r 0 = (v : Int) := by omega
  have s : ∀ c, ¬ c = rc r → ¬ c = rc r + 1 → sameC h g c := fun c n n1 => by rw [e, e1]; exact sameC_tr (sameC_sV (fun z => n1 z.symm)) (sameC_sV (fun z => n z.symm))
  have X : ∀ a, hk h a = 1 ∨ hk h a = 11 → sameC h g a := fun a ha => by
    have n : ¬ a < 468 := fun z => noTxt T z ha
    exact s a (by omega) (by omega)
  have cI : ∀ i, ¬ i = 0 → hI g (rc r) i = hI h (rc r) i := fun i n => by rw [e, hI_ni (fun z => n z.symm), e1, hI_ne (by omega)]
  have cL : ∀ i, ¬ i = 0 → hL g (rc r) i = hL h (rc r) i := fun i n => by rw [e, hL_ni (fun z => n z.symm), e1, hL_ne (by omega)]
  have en : ∀ j, ¬ j = 805 + 291 * r + (1 + v) → ¬ j = 805 + 291 * r + 0 → wishN N r x j = N j := fun j n n0 => by unfold wishN; rw [ev0, updN_ne n0, updN_ne n]
  have E : VE N (wishN N r x) := fun i _ _ => en i (by omega) (by omega)
  have er : ∀ k, ¬ k = 1 + v → ¬ k = 0 → nR (wishN N r x) r k = nR N r k := fun k n n0 => en _ (by omega) (by omega)
  have e0 : nR (wishN N r x) r 0 = nR N r 0 + 1 := updN_eq
  have ev : nR (wishN N r x) r (1 + v) = x := by unfold nR wishN; rw [ev0, updN_ne (by omega), updN_eq]
  have r1 : ∀ w, hR g (rc r + 1) w = if w = v then a else hR h (rc r + 1) w := fun w => by
    rw [e, hR_ne (by omega), e1, ev0]
    by_cases c : w = v
    · rw [if_pos c, c]; exact hR_eq (by omega)
    · rw [if_neg c, hR_ni (fun z => c z.symm)]
  have r0 : hI g (rc r) 0 = nR N r 0 + 1 := by rw [e]; exact hI_eq k5 (by unfold rg; omega)
  obtain ⟨a1, a2, a3, a4, a5, a6, a7, a8, a9, a10, a11, a12⟩ := R8 (C.2.2.1 r hr)
  refine CS_one hr (fun c x y n => s c (by omega) (by omega)) X W (fun i n => en i (by omega) (by omega)) C ?_ ?_
  · refine R8_mk ⟨?_, fun w h8 hw => ?_, ?_, fun p hp => ?_, ?_, ?_, ?_, ?_, fun i hi hw => ?_, ?_, ?_, ?_⟩
    · rw [r0, e0]
    · rw [e0] at hw
      rw [r1]
      by_cases c : w = v
      · rw [if_pos c, c, ev]
        exact .inr ⟨hx.1, AtomR_fr X A⟩
      · rw [if_neg c, er (1 + w) (by omega) (by omega)]
        exact (a2 w h8 (by omega)).imp_right fun y => ⟨y.1, AtomR_fr X y.2⟩
    · rw [cI 2 (by decide), er 9 (by omega) (by omega)]; exact a3
    · rw [er (10 + p) (by omega) (by omega), sameC_R (s (rc r + 2) (by omega) (by omega))]
      exact (a4 p hp).imp_right fun y => ⟨y.1, SpanR_fr X y.2⟩
    · rw [cI 4 (by decide), er 22 (by omega) (by omega)]; exact a5
    · rw [cL 5 (by decide)]; exact SetR_ve E hW.2.2.2 (fun p hp => er _ (by omega) (by omega)) hv a6
    · rw [cL 6 (by decide)]; exact SetR_ve E hW.2.2.2 (fun p hp => er _ (by omega) (by omega)) hv a7
    · rw [cI 7 (by decide), er 47 (by omega) (by omega)]; exact a8
    · rw [er 47 (by omega) (by omega)] at hw
      rw [sameC_L (s (rc r + 3) (by omega) (by omega))]
      exact SetR_ve E hW.2.2.2 (fun p hp => er _ (by omega) (by omega)) hv (a9 i hi hw)
    · rw [cI 9 (by decide), er 288 (by omega) (by omega)]; exact a10
    · rw [cI 10 (by decide), er 289 (by omega) (by omega)]; exact a11
    · rw [cI 11 (by decide), er 290 (by omega) (by omega)]; exact a12
  · unfold WRt
    rw [e0, er 9 (by omega) (by omega), er 47 (by omega) (by omega), er 22 (by omega) (by omega), E 0 (by omega) (by omega)]
    refine ⟨by omega, by omega, fun w h8 hw => ?_, d4, d5, d6, fun p hp => ?_, d8, d9, d10, d11⟩
    · by_cases c : w = v
      · rw [c, ev]; omega
      · rw [er (1 + w) (by omega) (by omega)]; exact d3 w h8 (by omega)
    · rw [er (10 + p) (by omega) (by omega)]; exact d7 p hp
theorem CS_pin {h g : XH} {N : Nat → Int} {nd : Nat → ND} {m r a p0 : Nat} {x : Int} (T : HT h) (C : CS h 8 N nd) (W : WF N m) (hr : r < 3) (v8 : (p0 : Int) < N 0) (hx : x = 0 ∧ a = 0 ∨ 0 < x ∧ x ≤ m ∧ SpanR h a (nd (x - 1).toNat)) (e : g = sR h (rc r + 2) p0 a) (k4 : 12 ≤ hn h (rc r + 2)) : CS g 8 (pinN N r p0 x) nd ∧ WF (pinN N r p0 x) m := by
  have rb := rc_lt hr
  have hW := WF_b W
  have hv := WV_hp W.1
  have w1 := W.1.2.1
  obtain ⟨d1, d2, d3, d4, d5, d6, d7, d8, d9, d10, d11⟩ := W.2.1 r hr
  have s : ∀ c, ¬ c = rc r + 2 → sameC h g c := fun c n1 => by rw [e]; exact sameC_sV (fun z => n1 z.symm)
  have X : ∀ a, hk h a = 1 ∨ hk h a = 11 → sameC h g a := fun a ha => by
    have n : ¬ a < 468 := fun z => noTxt T z ha
    exact s a (by omega)
  have s0 := s (rc r) (by omega)
  have en : ∀ j, ¬ j = 805 + 291 * r + (10 + p0) → pinN N r p0 x j = N j := fun j n => updN_ne n
  have E : VE N (pinN N r p0 x) := fun i _ _ => en i (by omega)
  have er : ∀ k, ¬ k = 10 + p0 → nR (pinN N r p0 x) r k = nR N r k := fun k n => en _ (by omega)
  have ev : nR (pinN N r p0 x) r (10 + p0) = x := updN_eq
  have r1 : ∀ w, hR g (rc r + 2) w = if w = p0 then a else hR h (rc r + 2) w := fun w => by
    rw [e]
    by_cases c : w = p0
    · rw [if_pos c, c]; exact hR_eq (by omega)
    · rw [if_neg c, hR_ni (fun z => c z.symm)]
  obtain ⟨a1, a2, a3, a4, a5, a6, a7, a8, a9, a10, a11, a12⟩ := R8 (C.2.2.1 r hr)
  refine CS_one hr (fun c x y n => s c (by omega)) X W (fun i n => en i (by omega)) C ?_ ?_
  · refine R8_mk ⟨?_, fun w h8 hw => ?_, ?_, fun p hp => ?_, ?_, ?_, ?_, ?_, fun i hi hw => ?_, ?_, ?_, ?_⟩
    · rw [sameC_I s0, er 0 (by omega)]; exact a1
    · rw [er 0 (by omega)] at hw
      rw [er (1 + w) (by omega), sameC_R (s (rc r + 1) (by omega))]
      exact (a2 w h8 hw).imp_right fun y => ⟨y.1, AtomR_fr X y.2⟩
    · rw [sameC_I s0, er 9 (by omega)]; exact a3
    · rw [r1]
      by_cases c : p = p0
      · rw [if_pos c, c, ev]
        exact hx.imp (fun y => y) (fun y => ⟨y.1, SpanR_fr X y.2.2⟩)
      · rw [if_neg c, er (10 + p) (by omega)]
        exact (a4 p hp).imp_right fun y => ⟨y.1, SpanR_fr X y.2⟩
    · rw [sameC_I s0, er 22 (by omega)]; exact a5
    · rw [sameC_L s0]; exact SetR_ve E hW.2.2.2 (fun p hp => er _ (by omega)) hv a6
    · rw [sameC_L s0]; exact SetR_ve E hW.2.2.2 (fun p hp => er _ (by omega)) hv a7
    · rw [sameC_I s0, er 47 (by omega)]; exact a8
    · rw [er 47 (by omega)] at hw
      rw [sameC_L (s (rc r + 3) (by omega))]
      exact SetR_ve E hW.2.2.2 (fun p hp => er _ (by omega)) hv (a9 i hi hw)
    · rw [sameC_I s0, er 288 (by omega)]; exact a10
    · rw [sameC_I s0, er 289 (by omega)]; exact a11
    · rw [sameC_I s0, er 290 (by omega)]; exact a12
  · unfold WRt
    rw [er 0 (by omega), er 9 (by omega), er 47 (by omega), er 22 (by omega), E 0 (by omega) (by omega)]
    refine ⟨d1, d2, fun w h8 hw => ?_, d4, d5, d6, fun p hp => ?_, d8, d9, d10, d11⟩
    · rw [er (1 + w) (by omega)]; exact d3 w h8 hw
    · by_cases c : p = p0
      · rw [c, ev]; exact ⟨by omega, by omega, fun z => by omega⟩
      · rw [er (10 + p) (by omega)]; exact d7 p hp
