/-! WHAT IS KEPT FOR UNDO: the reference; both ways back -/
theorem el_out {h : XH} {a i : Nat} (e : hn h a ≤ i) : el h a i = .null := by
  unfold el
  unfold hn at e
  cases q : xcell h a with
  | none => rfl
  | some c =>
    rw [q] at e
    cases c with
    | inl c =>
      obtain ⟨c, vs⟩ := c
      show vs[i]?.getD .null = .null
      rw [List.getElem?_eq_none (show vs.length ≤ i from e)]
      rfl
    | inr c =>
      obtain ⟨c, vs⟩ := c
      show vs[i]?.getD .null = .null
      rw [List.getElem?_eq_none (show vs.length ≤ i from e)]
      rfl
theorem nw_out {h : XH} (T : HT h) {i : Nat} (e : 1957 ≤ i) : nw h i = 0 := by
  unfold nw hI
  rw [el_out (by rw [(lstn T).2.2.2.2.2.1]; exact e)]
  rfl
/-- the reference has kept its row: q where, u how many there are -/
def Rrec (q u : Int) (h h1 : XH) : Prop := Fr (fun b => b = 437 ∨ b = 439) h h1 ∧ h1.length = h.length ∧ xhs h1 = xhs h ∧ hI h1 437 3 = (q + 1) % 10 ∧ hI h1 437 2 = min 10 (u + 1) ∧ (∀ j, ¬ j = 2 → ¬ j = 3 → ¬ j = 4 → el h1 437 j = el h 437 j) ∧ pst h1 q.toNat = nw h ∧ (∀ k, k < 10 → ¬ k = q.toNat → pst h1 k = pst h k) ∧ hI h1 437 4 = wr (hI h 437 4 + 1)
/-- the reference has gone back -/
def Rund (q u : Int) (h h1 : XH) : Prop := Fr (fun b => b = 437 ∨ b = 438) h h1 ∧ h1.length = h.length ∧ xhs h1 = xhs h ∧ hI h1 437 5 = 0 ∧ hI h1 437 2 = u - 1 ∧ hI h1 437 3 = (q + 9) % 10 ∧ (∀ j, ¬ j = 2 → ¬ j = 3 → ¬ j = 4 → ¬ j = 5 → el h1 437 j = el h 437 j) ∧ nw h1 = pst h ((q + 9) % 10).toNat ∧ hI h1 437 4 = wr (hI h 437 4 + 1)
/-- the class has gone back -/
def Cund (o u : Int) (h h1 : XH) : Prop := Fr (fun b => b = 2 ∨ (8 ≤ b ∧ b < 43)) h h1 ∧ h1.length = h.length ∧ xhs h1 = xhs h ∧ hI h1 2 9 = o ∧ hI h1 2 10 = u - 1 ∧ (∀ j, ¬ j = 10 → ¬ j = 11 → el h1 2 j = el h 2 j) ∧ (∀ j i, j < 35 → FD j i → el h1 (8 + j) i = el h (bs ((o + u - 1) % 10).toNat + j) i) ∧ hI h1 2 11 = 0
set_option maxHeartbeats 1000000 in
theorem c_X14_record {q u : Int} (b0 : 0 ≤ q ∧ q < 10 ∧ 0 ≤ u ∧ u ≤ 10) {K : XH → Prop} {h : XH} (T : HT h) (hq : hI h 437 3 = q) (hu : hI h 437 2 = u) (k : ∀ h1, Rrec q u h h1 → K h1) : w_X14_record K h := by
  unfold w_X14_record
  have L := lstn T
  refine ⟨(by rw [hq, wr_of (by omega) (by omega)]; omega), ?_⟩
  intro h2 eh2 t2 u2
  have d2 : (wr (hI h 437 3 * 1957)).toNat = 1957 * q.toNat := by rw [hq, wr_of (by omega) (by omega)]; omega
  rw [d2] at eh2
  have f2 : ∀ b, ¬ b = 439 → sameC h h2 b := fun b n => by rw [eh2]; exact sameC_cA (fun z => n z.symm)
  have e2 : ∀ j, el h2 439 j = if 1957 * q.toNat ≤ j ∧ j < 1957 * q.toNat + 1957 then el h 438 (0 + (j - 1957 * q.toNat)) else el h 439 j := fun j => by rw [eh2]; exact el_cA (t := T) (u := 0) L.2.2.2.2.2.2.2.1 L.2.2.2.2.2.2.2.2 (by decide) (by rw [L.2.2.2.2.2.1]; omega) (by rw [L.2.2.2.2.2.2.1]; omega) j
  intro h3 eh3 t3 u3
  have g3 : hI h3 437 3 = (q + 1) % 10 := by
    rw [eh3, sameC_I (f2 437 (by decide)), hq, wr_of (by omega) (by omega), irem_pos ⟨by omega, by omega⟩ (rgk rfl) (by omega) (by decide)]
    exact hI_eq (by rw [(lstn t2).2.2.2.2.1]; decide) ⟨by omega, by omega⟩
  have g3u : hI h3 437 2 = u := by rw [eh3, hI_ni (by decide), sameC_I (f2 437 (by decide))]; exact hu
  refine c_J9_min_7cf53 ?_
  intro x4 qx4
  intro rx4
  have e4 : x4 = min 10 (u + 1) := by
    rw [g3u, wr_of (by omega) (by omega)] at qx4
    omega
  intro h5 eh5 t5 u5
  intro h6 eh6 t6 u6
  have f6 : ∀ b, ¬ b = 437 → sameC h2 h6 b := fun b n => by
    have c3 : sameC h2 h3 b := by rw [eh3]; exact sameC_sV (fun z => n z.symm)
    have c5 : sameC h3 h5 b := by rw [eh5]; exact sameC_sV (fun z => n z.symm)
    have c6 : sameC h5 h6 b := by rw [eh6]; exact sameC_sV (fun z => n z.symm)
    exact sameC_tr (sameC_tr c3 c5) c6
  refine k _ ⟨fun b _ n => sameC_tr (f2 b (fun z => n (.inr z))) (f6 b (fun z => n (.inl z))), by rw [eh6, len_sV, eh5, len_sV, eh3, len_sV, eh2, len_cA], ?_, ?_, ?_, fun j n2 n3 n4 => ?_, ?_, fun k hk n => ?_, ?_⟩
  · rw [eh6, xhs_sV, eh5, xhs_sV, eh3, xhs_sV, eh2]
    exact xhs_cA (t := T) (u := 0) L.2.2.2.2.2.2.2.1 L.2.2.2.2.2.2.2.2 (by decide) (by rw [L.2.2.2.2.2.1]; omega) (by rw [L.2.2.2.2.2.2.1]; omega)
  · rw [eh6, hI_ni (by decide), eh5, hI_ni (by decide)]
    exact g3
  · rw [eh6, hI_ni (by decide), eh5, ← e4]
    exact hI_eq (by rw [(lstn t3).2.2.2.2.1]; decide) rx4
  · rw [eh6, el_ni (fun z => n4 z.symm), eh5, el_ni (fun z => n2 z.symm), eh3, el_ni (fun z => n3 z.symm)]
    exact sameC_el (f2 437 (by decide)) j
  · funext i
    by_cases c : i < 1957
    · unfold pst nw
      rw [if_pos c, sameC_I (f6 439 (by decide))]
      unfold hI
      rw [e2, if_pos ⟨by omega, by omega⟩, show 0 + (1957 * q.toNat + i - 1957 * q.toNat) = i by omega]
    · rw [nw_out T (by omega)]
      unfold pst
      rw [if_neg c]
  · funext i
    unfold pst
    by_cases c : i < 1957
    · rw [if_pos c, if_pos c, sameC_I (f6 439 (by decide))]
      unfold hI
      rw [e2, if_neg (by omega)]
    · rw [if_neg c, if_neg c]
  · have e : hI h5 437 4 = hI h 437 4 := by rw [eh5, hI_ni (by decide), eh3, hI_ni (by decide), sameC_I (f2 437 (by decide))]
    rw [← e, eh6]
    exact hI_eq (by rw [(lstn t5).2.2.2.2.1]; decide) (rgw _)
set_option maxHeartbeats 1000000 in
theorem c_X14_undo {q u : Int} (b0 : 0 ≤ q ∧ q < 10 ∧ 0 ≤ u ∧ u ≤ 10) {K : Int → XH → Prop} {h : XH} (T : HT h) (hq : hI h 437 3 = q) (hu : hI h 437 2 = u) (k0 : u = 0 → ∀ h1, h1 = sI h 437 5 0 → K (-1) h1) (k : 0 < u → ∀ h1, Rund q u h h1 → K (u - 1) h1) : w_X14_undo K h := by
  unfold w_X14_undo
  intro h1 eh1 t1 u1
  have g1 : hI h1 437 2 = u := by rw [eh1, hI_ni (by decide)]; exact hu
  have g1q : hI h1 437 3 = q := by rw [eh1, hI_ni (by decide)]; exact hq
  have g15 : hI h1 437 5 = 0 := by rw [eh1]; exact hI_eq (by rw [(lstn T).2.2.2.2.1]; decide) (rgk rfl)
  refine ⟨fun c7 => ?_, fun c7 => ?_⟩
  · intro h2 eh2 t2 u2
    intro h3 eh3 t3 u3
    have g2q : hI h2 437 3 = q := by rw [eh2, hI_ni (by decide)]; exact g1q
    have g3 : hI h3 437 3 = (q + 9) % 10 := by
      rw [eh3, g2q, wr_of (x := q + 10) (by omega) (by omega), wr_of (by omega) (by omega), irem_pos ⟨by omega, by omega⟩ (rgk rfl) (by omega) (by decide), show q + 10 - 1 = q + 9 by omega]
      exact hI_eq (by rw [(lstn t2).2.2.2.2.1]; decide) ⟨by omega, by omega⟩
    have L := lstn t3
    refine ⟨(by rw [g3, wr_of (by omega) (by omega)]; omega), ?_⟩
    intro h5 eh5 t5 u5
    have d5 : (wr (hI h3 437 3 * 1957)).toNat = 1957 * ((q + 9) % 10).toNat := by rw [g3, wr_of (by omega) (by omega)]; omega
    rw [d5] at eh5
    have f5 : ∀ b, ¬ b = 438 → sameC h3 h5 b := fun b n => by rw [eh5]; exact sameC_cA (fun z => n z.symm)
    have e5 : ∀ j, el h5 438 j = if 0 ≤ j ∧ j < 0 + 1957 then el h3 439 (1957 * ((q + 9) % 10).toNat + (j - 0)) else el h3 438 j := fun j => by rw [eh5]; exact el_cA (t := t3) (u := 0) L.2.2.2.2.2.2.2.2 L.2.2.2.2.2.2.2.1 (by decide) (by rw [L.2.2.2.2.2.2.1]; omega) (by rw [L.2.2.2.2.2.1]; omega) j
    intro h6 eh6 t6 u6
    have f3 : ∀ b, ¬ b = 437 → sameC h h3 b := fun b n => by
      have c1 : sameC h h1 b := by rw [eh1]; exact sameC_sV (fun z => n z.symm)
      have c2 : sameC h1 h2 b := by rw [eh2]; exact sameC_sV (fun z => n z.symm)
      have c3 : sameC h2 h3 b := by rw [eh3]; exact sameC_sV (fun z => n z.symm)
      exact sameC_tr (sameC_tr c1 c2) c3
    have f6 : ∀ b, ¬ b = 437 → sameC h5 h6 b := fun b n => by rw [eh6]; exact sameC_sV (fun z => n z.symm)
    have g6 : hI h6 437 2 = u - 1 := by
      rw [eh6, hI_ni (by decide), sameC_I (f5 437 (by decide)), eh3, hI_ni (by decide), eh2, g1, wr_of (by omega) (by omega)]
      exact hI_eq (by rw [(lstn t1).2.2.2.2.1]; decide) ⟨by omega, by omega⟩
    rw [g6]
    refine k (by omega) _ ⟨fun b _ n => sameC_tr (sameC_tr (f3 b (fun z => n (.inl z))) (f5 b (fun z => n (.inr z)))) (f6 b (fun z => n (.inl z))), by rw [eh6, len_sV, eh5, len_cA, eh3, len_sV, eh2, len_sV, eh1, len_sV], ?_, ?_, g6, ?_, fun j n2 n3 n4 n5 => ?_, ?_, ?_⟩
    · rw [eh6, xhs_sV, eh5, xhs_cA (t := t3) (u := 0) L.2.2.2.2.2.2.2.2 L.2.2.2.2.2.2.2.1 (by decide) (by rw [L.2.2.2.2.2.2.1]; omega) (by rw [L.2.2.2.2.2.1]; omega), eh3, xhs_sV, eh2, xhs_sV, eh1, xhs_sV]
    · rw [eh6, hI_ni (by decide), sameC_I (f5 437 (by decide)), eh3, hI_ni (by decide), eh2, hI_ni (by decide)]
      exact g15
    · rw [eh6, hI_ni (by decide), sameC_I (f5 437 (by decide))]
      exact g3
    · rw [eh6, el_ni (fun z => n4 z.symm), sameC_el (f5 437 (by decide)), eh3, el_ni (fun z => n3 z.symm), eh2, el_ni (fun z => n2 z.symm), eh1, el_ni (fun z => n5 z.symm)]
    · funext i
      by_cases c : i < 1957
      · unfold pst nw
        rw [if_pos c, sameC_I (f6 438 (by decide)), ← sameC_I (f3 439 (by decide))]
        unfold hI
        rw [e5, if_pos ⟨by omega, by omega⟩, Nat.sub_zero]
      · rw [nw_out t6 (by omega)]
        unfold pst
        rw [if_neg c]
    · have e : hI h5 437 4 = hI h 437 4 := by rw [sameC_I (f5 437 (by decide)), eh3, hI_ni (by decide), eh2, hI_ni (by decide), eh1, hI_ni (by decide)]
      rw [← e, eh6]
      exact hI_eq (by rw [(lstn t5).2.2.2.2.1]; decide) (rgw _)
  · exact k0 (by omega) _ eh1
set_option maxHeartbeats 1000000 in
theorem c_X12_undo {o u : Int} (b0 : 0 ≤ o ∧ o < 10 ∧ 0 ≤ u ∧ u ≤ 10) {K : Int → XH → Prop} {h : XH} (T : HT h) (ho : hI h 2 9 = o) (hu : hI h 2 10 = u) (hs : hI h 43 2 = 10) (k0 : u = 0 → K (-1) h) (k : 0 < u → ∀ h1, Cund o u h h1 → K (u - 1) h1) : w_X12_undo K h := by
  unfold w_X12_undo
  refine ⟨fun c12 => ?_, fun c12 => ?_⟩
  · intro h1 eh1 t1 u1
    have g1 : hI h1 2 10 = u - 1 := by
      rw [eh1, hu, wr_of (by omega) (by omega)]
      exact hI_eq (by have := (lstn T).2.2.2.1; omega) ⟨by omega, by omega⟩
    intro h2 eh2 t2 u2
    have g2 : hI h2 2 10 = u - 1 := by rw [eh2, hI_ni (by decide)]; exact g1
    have g2o : hI h2 2 9 = o := by rw [eh2, hI_ni (by decide), eh1, hI_ni (by decide)]; exact ho
    have s2' : hI h2 43 2 = 10 := by rw [eh2, hI_ne (by decide), eh1, hI_ne (by decide)]; exact hs
    have l2 : h2.length = h.length := by rw [eh2, len_sV, eh1, len_sV]
    intro x3 ex3 rx3
    have e3 : x3 = (o + u - 1) % 10 := by
      rw [ex3, g2o, g2, wr_of (by omega) (by omega), irem_pos ⟨by omega, by omega⟩ (rgk rfl) (by omega) (by decide), show o + (u - 1) = o + u - 1 by omega]
    refine ⟨_, fun h4 t4 s4 z5 => z5, ?_⟩
    refine ⟨fun c11 => ?_, fun c11 => ?_⟩
    · exact absurd c11 (by omega)
    · refine c_Jx4a65c_size_8abf5 (by assumption) ?_
      intro rx6
      refine ⟨fun c10 => ?_, fun c10 => ?_⟩
      · exact absurd c10 (by omega)
      · refine c_Jx4a65c_get_915e3 (by omega) (by assumption) t2 s2' ?_
        refine ⟨(bs_k t2 (by omega)), ?_⟩
        refine c_X11_copyFrom t2 (lstn t2).1 (bs_k t2 (by omega)) (by have := bs_lt (k := x3.toNat) (by omega); omega) ?_
        intro h9 d9
        intro t9 u9
        have B := bs_lt (k := ((o + u - 1) % 10).toNat) (by omega)
        have e3' : x3.toNat = ((o + u - 1) % 10).toNat := by rw [e3]
        rw [e3'] at d9
        have C2 : sameC h2 h9 2 := d9.1 2 (by rw [l2]; have := T.2.1.2.2.2; have : lyN = 468 := rfl; omega) (by omega)
        rw [sameC_I C2, g2]
        refine k (by omega) _ ⟨fun b hb n => ?_, by rw [d9.2.1, l2], by rw [d9.2.2.1, eh2, xhs_sV, eh1, xhs_sV], by rw [sameC_I C2]; exact g2o, by rw [sameC_I C2]; exact g2, fun j n10 n11 => ?_, fun j i hj f => ?_, ?_⟩
        · have n1 : ¬ b = 2 := fun z => n (.inl z)
          have f1 : sameC h h1 b := by rw [eh1]; exact sameC_sV (fun z => n1 z.symm)
          have f2 : sameC h1 h2 b := by rw [eh2]; exact sameC_sV (fun z => n1 z.symm)
          exact sameC_tr (sameC_tr f1 f2) (d9.1 b (by rw [l2]; exact hb) (fun z => n (.inr z)))
        · rw [sameC_el C2, eh2, el_ni (fun z => n11 z.symm), eh1, el_ni (fun z => n10 z.symm)]
        · rw [d9.2.2.2 j i hj f, eh2, el_ne (by omega), eh1, el_ne (by omega)]
        · rw [sameC_I C2, eh2]
          exact hI_eq (by have := (lstn t1).2.2.2.1; omega) (rgk rfl)
  · exact k0 (by omega)
