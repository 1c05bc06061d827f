/-! PAIRS OF A PROOF, the reference: they grow -/
def PairR (h : XH) (L : List Row) : Prop := hI h 437 56 = L.length ∧ L.length ≤ hn h (hR h 437 52) ∧ ∀ i, i < L.length → hL h (hR h 437 52) i = (L.getD i r0).1 ∧ hL h (hR h 437 53) i = (L.getD i r0).2.1 ∧ hI h (hR h 437 54) i = (L.getD i r0).2.2.1 ∧ hI h (hR h 437 55) i = (L.getD i r0).2.2.2
def A16 (h g : XH) (L : List Row) : Prop := Fr (fun b => b = 437) h g ∧ (∀ j, ¬ (52 ≤ j ∧ j ≤ 55) → el g 437 j = el h 437 j) ∧ h.length ≤ g.length ∧ (∀ j, owP j → hR g 437 j = hR h 437 j ∨ h.length ≤ hR g 437 j) ∧ (StR g ∧ DJo g) ∧ PairR g L ∧ L.length < cq g ∧ g.length + cq h ≤ h.length + cq g ∧ xhs g + 10 * cq h ≤ xhs h + 10 * cq g ∧ cq h ≤ cq g
def GQ (h g : XH) (C n m k : Nat) : Prop := (∀ b, b < h.length → sameC h g b) ∧ g.length = h.length + m ∧ xhs g = xhs h + m * C ∧ (∀ i, i < m → hk g (h.length + i) = kd i ∧ hn g (h.length + i) = C) ∧ ∀ i, i < k → ∀ j, j < n → el g (h.length + i) j = el h (hR h 437 (52 + i)) j
theorem GQ_0 (h : XH) (C n : Nat) : GQ h h C n 0 0 := ⟨fun b _ => sameC_rf h b, rfl, by omega, fun i hi => absurd hi (by omega), fun i hi => absurd hi (by omega)⟩
theorem oq_ {n : Nat} {x : Int} (e : x = (n : Nat)) (lt : n < 30000) : (0 ≤ wr (2 * x) ∧ wr (2 * x) < 67108864) ∧ (wr (2 * x)).toNat = 2 * n := by
  rw [e, wr_of (by omega) (by omega)]
  omega
theorem GQ_al {h g g' : XH} {C n m t a : Nat} (G : GQ h g C n m 0) (e : g' = nA g t C) (ea : a = g.length) (ca : hk g' a = kd m) (la : hn g' a = C) : GQ h g' C n (m + 1) 0 ∧ a = h.length + m := by
  obtain ⟨g1, g2, g3, g4, -⟩ := G
  obtain ⟨s, l, x⟩ := alc e
  have ea' : a = h.length + m := ea.trans g2
  refine ⟨⟨fun b hb => sameC_tr (g1 b hb) (s b (by omega)), by omega, by rw [x, g3, Nat.add_mul]; omega, fun i hi => ?_, fun i hi => absurd hi (by omega)⟩, ea'⟩
  by_cases c : i = m
  · rw [c, ← ea']; exact ⟨ca, la⟩
  · have si := s (h.length + i) (by omega)
    obtain ⟨y1, y2⟩ := g4 i (by omega)
    exact ⟨(sameC_k si).trans y1, (sameC_n si).trans y2⟩
def Srp (h : XH) (n : Nat) : Prop := 437 < h.length ∧ hI h 437 56 = (n : Nat) ∧ ∀ i, i < 4 → hk h (hR h 437 (52 + i)) = kd i ∧ hn h (hR h 437 (52 + i)) = n ∧ hR h 437 (52 + i) < h.length
theorem GQ_i {h g : XH} {C n m k : Nat} (S : Srp h n) (G : GQ h g C n m k) : hI g 437 56 = (n : Nat) := (sameC_I (G.1 437 S.1) 56).trans S.2.1
theorem GQ_o {h g : XH} {C n k i : Nat} (S : Srp h n) (G : GQ h g C n 4 k) (hi : i < 4) (nC : n ≤ C) : hk g (hR g 437 (52 + i)) = kd i ∧ (¬ hR g 437 (52 + i) = h.length + i ∧ (0 : Int) ≤ 0 ∧ (0 : Int) ≤ 0 ∧ (0 : Int) ≤ hI g 437 56 ∧ ((0 + (hI g 437 56) : Int)) ≤ (hn g (hR g 437 (52 + i)) : Int) ∧ ((0 + (hI g 437 56) : Int)) ≤ (hn g (h.length + i) : Int)) := by
  obtain ⟨s1, s2, s3⟩ := S.2.2 i hi
  rw [GQ_i S G, sameC_R (G.1 437 S.1) (52 + i), sameC_k (G.1 _ s3), sameC_n (G.1 _ s3), s1, s2, (G.2.2.2.1 i hi).2]
  exact ⟨rfl, by omega, Int.le_refl _, Int.le_refl _, by omega, by omega, by omega⟩
theorem GQ_cp {h g g' : XH} {C n k : Nat} (T : HT g) (u : HX g g') (S : Srp h n) (nC : n ≤ C) (k5 : k < 4) (G : GQ h g C n 4 k) (e : g' = cA g (hR g 437 (52 + k)) 0 (h.length + k) 0 (hI g 437 56).toNat) : GQ h g' C n 4 (k + 1) := by
  have i29 := GQ_i S G
  obtain ⟨s1, s2, s3⟩ := S.2.2 k k5
  obtain ⟨g1, g2, g3, g4, g5⟩ := G
  rw [i29, Int.toNat_natCast, sameC_R (g1 437 S.1) (52 + k)] at e
  have sk := g1 _ s3
  have kb : ∀ i, i < 4 → kd i < 9999 := fun i hi => by
    have : i = 0 ∨ i = 1 ∨ i = 2 ∨ i = 3 := by omega
    rcases this with y | y | y | y <;> (rw [y]; decide)
  obtain ⟨w, hw, ew⟩ : ∃ w, w < 9000 ∧ kd k = 100 + w := by
    have : k = 0 ∨ k = 1 ∨ k = 2 ∨ k = 3 := by omega
    rcases this with y | y | y | y <;> rw [y]
    · exact ⟨1, by decide, rfl⟩
    · exact ⟨1, by decide, rfl⟩
    · exact ⟨0, by decide, rfl⟩
    · exact ⟨0, by decide, rfl⟩
  obtain ⟨c1, c2, c3, c4⟩ := cpy1 (u := w) T ((sameC_k sk).trans (s1.trans ew)) ((g4 k k5).1.trans ew) hw (by rw [sameC_n sk, s2]; omega) (by rw [(g4 k k5).2]; omega) e
  refine ⟨fun b hb => sameC_tr (g1 b hb) (c1 b (by omega)), by omega, by omega, fun i hi => ?_, fun i hi j hj => ?_⟩
  · obtain ⟨y1, y2⟩ := g4 i hi
    exact ⟨HX_hk u y1 (kb i hi), (HX_hn u (by omega)).trans y2⟩
  · by_cases c : i = k
    · rw [c, c4 j hj]; exact sameC_el sk j
    · rw [sameC_el (c1 (h.length + i) (by omega))]
      exact g5 i (by omega) j hj
theorem A16_GQ {h h53 h57 : XH} {l : List Row} {nd : Nat → ND} (T : HT h) (T5 : HT h53) (St : StR h) (Dj : DJo h) (Z : NT h nd) (Bq : B45 h) (z : PairR h l) (lt : l.length < 30000) (n52_ : hn h (hR h 437 52) = l.length) (G : GQ h h53 (2 * l.length) l.length 4 4) (eh57 : h57 = sR (sR (sR (sR h53 437 52 h.length) 437 53 (h.length + 1)) 437 54 (h.length + 2)) 437 55 (h.length + 3)) : A16 h h57 l := by
  have L0 := HT_len T
  obtain ⟨o24, o25, o26, o27, o28, ⟨n25, n26, n27, n28, n64, n8⟩, dd, o31, p64, p81, o52, o53, o54, o55, d1, d2, d3, d4, d5⟩ := id St
  obtain ⟨Q53, l53, x53, kk, vv⟩ := G
  obtain ⟨h54, eh54⟩ : ∃ x, x = sR h53 437 52 h.length := ⟨_, rfl⟩
  rw [← eh54] at eh57
  obtain ⟨h55, eh55⟩ : ∃ x, x = sR h54 437 53 (h.length + 1) := ⟨_, rfl⟩
  rw [← eh55] at eh57
  obtain ⟨h56, eh56⟩ : ∃ x, x = sR h55 437 54 (h.length + 2) := ⟨_, rfl⟩
  rw [← eh56] at eh57
  have m3 : 55 < hn h53 437 := by rw [(lstn T5).2.2.2.2.1]; decide
  have m4 : 55 < hn h54 437 := by rw [eh54, hn_sV]; exact m3
  have m5 : 55 < hn h55 437 := by rw [eh55, hn_sV]; exact m4
  have m6 : 55 < hn h56 437 := by rw [eh56, hn_sV]; exact m5
  have f57 : ∀ b, ¬ b = 437 → sameC h53 h57 b := fun b n => by
    rw [eh57, eh56, eh55, eh54]
    exact sameC_tr (sameC_sV (fun y => n y.symm)) (sameC_tr (sameC_sV (fun y => n y.symm)) (sameC_tr (sameC_sV (fun y => n y.symm)) (sameC_sV (fun y => n y.symm))))
  have l57 : h57.length = h.length + 4 := by rw [eh57, eh56, eh55, eh54, len_sV, len_sV, len_sV, len_sV]; exact l53
  have x57 : xhs h57 = xhs h + 4 * (2 * l.length) := by rw [eh57, eh56, eh55, eh54, xhs_sV, xhs_sV, xhs_sV, xhs_sV]; exact x53
  have F57 : Fr (fun b => b = 437) h h57 := fun b hb n => sameC_tr (Q53 b hb) (f57 b n)
  have e57 : ∀ j, ¬ (52 ≤ j ∧ j ≤ 55) → el h57 437 j = el h 437 j := fun j n => by
    rw [eh57, el_ni (by omega), eh56, el_ni (by omega), eh55, el_ni (by omega), eh54, el_ni (by omega)]
    exact sameC_el (Q53 437 (by omega)) j
  have r52 : hR h57 437 52 = h.length := by rw [eh57, hR_ni (by decide), eh56, hR_ni (by decide), eh55, hR_ni (by decide), eh54]; exact hR_eq (by omega)
  have r53 : hR h57 437 53 = h.length + 1 := by rw [eh57, hR_ni (by decide), eh56, hR_ni (by decide), eh55]; exact hR_eq (by omega)
  have r54 : hR h57 437 54 = h.length + 2 := by rw [eh57, hR_ni (by decide), eh56]; exact hR_eq (by omega)
  have r55 : hR h57 437 55 = h.length + 3 := by rw [eh57]; exact hR_eq (by omega)
  have q : ∀ j, 52 ≤ j → j ≤ 55 → hR h57 437 j = h.length + (j - 52) := fun j a b => by
    have : j = 52 ∨ j = 53 ∨ j = 54 ∨ j = 55 := by omega
    rcases this with e | e | e | e
    · rw [e, r52]; omega
    · rw [e, r53]
    · rw [e, r54]
    · rw [e, r55]
  have RR : ∀ j, owP j → hR h57 437 j = hR h 437 j ∨ h.length ≤ hR h57 437 j := fun j hj => by
    by_cases c : 52 ≤ j ∧ j ≤ 55
    · have := q j c.1 c.2
      omega
    · exact .inl (congrArg gvR (e57 j c))
  have nn : ∀ j, owP j → h.length ≤ hR h57 437 j → 52 ≤ j ∧ j ≤ 55 := fun j hj y => by
    by_cases c : 52 ≤ j ∧ j ≤ 55
    · exact c
    · have := (own_j St hj).2.1
      have e : hR h57 437 j = hR h 437 j := congrArg gvR (e57 j c)
      omega
  have I_ : ∀ j, ¬ (52 ≤ j ∧ j ≤ 55) → hI h57 437 j = hI h 437 j := fun j n => congrArg gvI (e57 j n)
  have R_ : ∀ j, ¬ (52 ≤ j ∧ j ≤ 55) → hR h57 437 j = hR h 437 j := fun j n => congrArg gvR (e57 j n)
  have ow : ∀ {k j b}, own h k (hR h 437 j) b → k < 9999 → (446 ≤ b ∧ b ≤ 461) → sameC h h57 (hR h 437 j) := fun {k j b} o hk hb => F57 _ (hk_lt o.1 hk) (by rcases o.2 with x | x <;> omega)
  have s : ∀ i, i < 4 → hk h57 (h.length + i) = kd i ∧ hn h57 (h.length + i) = 2 * l.length := fun i hi => by
    have si := f57 (h.length + i) (by omega)
    exact ⟨(sameC_k si).trans (kk i hi).1, (sameC_n si).trans (kk i hi).2⟩
  obtain ⟨s52, t52⟩ : hk h57 h.length = 101 ∧ hn h57 h.length = 2 * l.length := s 0 (by decide)
  obtain ⟨s53, t53⟩ : hk h57 (h.length + 1) = 101 ∧ hn h57 (h.length + 1) = 2 * l.length := s 1 (by decide)
  obtain ⟨s54, t54⟩ : hk h57 (h.length + 2) = 100 ∧ hn h57 (h.length + 2) = 2 * l.length := s 2 (by decide)
  obtain ⟨s55, t55⟩ : hk h57 (h.length + 3) = 100 ∧ hn h57 (h.length + 3) = 2 * l.length := s 3 (by decide)
  have z24 := ow o24 (by decide) (by decide)
  have z25 := ow o25 (by decide) (by decide)
  have z26 := ow o26 (by decide) (by decide)
  have z27 := ow o27 (by decide) (by decide)
  have z28 := ow o28 (by decide) (by decide)
  have z31 := ow o31 (by decide) (by decide)
  have St57 : StR h57 := by
    unfold StR
    rw [R_ 24 (by decide), R_ 25 (by decide), R_ 26 (by decide), R_ 27 (by decide), R_ 28 (by decide), R_ 31 (by decide), r52, r53, r54, r55, sameC_n z24, sameC_n z25, sameC_n z26, sameC_n z27, sameC_n z28, sameC_n z31, t52, t53, t54, t55]
    exact ⟨own_fr o24 z24, own_fr o25 z25, own_fr o26 z26, own_fr o27 z27, own_fr o28 z28, ⟨n25, n26, n27, n28, n64, n8⟩, dd, own_fr o31 z31, p64, p81, ⟨s52, by omega⟩, ⟨s53, by omega⟩, ⟨s54, by omega⟩, ⟨s55, by omega⟩, rfl, rfl, rfl, by omega, by omega⟩
  have cq57 : cq h57 = 2 * l.length := by unfold cq; rw [r52]; exact t52
  have cqe : cq h = l.length := n52_
  refine ⟨F57, e57, by omega, RR, ⟨St57, DJo_new T Dj St Z Bq F57 (e57 6 (by decide)) (e57 7 (by decide)) (e57 39 (by decide)) (e57 45 (by decide)) RR (fun j k hj hk n a b => by
    have c1 := nn j hj a
    have c2 := nn k hk b
    rw [q j c1.1 c1.2, q k c2.1 c2.2]
    omega)⟩, ?_, by omega, by omega, by omega, by omega⟩
  unfold PairR
  rw [I_ 56 (by decide), r52, r53, r54, r55, t52]
  refine ⟨z.1, by omega, fun i hi => ?_⟩
  have w : ∀ k, k < 4 → el h57 (h.length + k) i = el h (hR h 437 (52 + k)) i := fun k hk => (sameC_el (f57 (h.length + k) (by omega)) i).trans (vv k hk i hi)
  have := z.2.2 i hi
  exact ⟨(congrArg gvL (w 0 (by decide))).trans this.1, (congrArg gvL (w 1 (by decide))).trans this.2.1, (congrArg gvI (w 2 (by decide))).trans this.2.2.1, (congrArg gvI (w 3 (by decide))).trans this.2.2.2⟩
