/-! A STATE TOLD OF ONE ROW HOLDS OF ANOTHER ONE WITH THE SAME NUMBERS -/
section VEs
variable {N M : Nat → Int}
theorem CSV_ve {h : XH} {b : Nat} {nd : Nat → ND} (E : VE N M) (hW : N 4 ≤ 40) (z : CSV h b N nd) : CSV h b M nd := by
  refine ⟨by rw [E 0 (by omega) (by omega)]; exact z.1, by rw [E 4 (by omega) (by omega)]; exact z.2.1, fun v hv => ?_⟩
  rw [VE_c E] at hv
  have h40 : v < 40 := by unfold vc at hv; omega
  have w : ∀ k, k < 20 → nV M v k = nV N v k := fun k hk => VE_v E h40 hk
  obtain ⟨a1, a2, a3, a4, a5, a6, a7, a8, a9, a10, a11, a12, a13⟩ := z.2.2 v hv
  rw [w 0 (by decide), w 1 (by decide), w 2 (by decide), w 3 (by decide), w 4 (by decide), w 5 (by decide), w 6 (by decide), w 7 (by decide), w 11 (by decide), w 12 (by decide), w 15 (by decide)]
  refine ⟨a1, a2, a3, a4, a5, a6, a7, a8, fun k h3 hk => ?_, a10, fun k h2 hk => ?_, a12, fun k h2 hk => ?_⟩
  · rw [w (8 + k) (by omega)]; exact a9 k h3 hk
  · rw [w (13 + k) (by omega)]; exact a11 k h2 hk
  · rw [w (16 + 2 * k) (by omega), w (17 + 2 * k) (by omega)]; exact a13 k h2 hk
theorem CSP_ve {h : XH} {b : Nat} (E : VE N M) (hW : N 4 ≤ 40) (z : CSP h b N) : CSP h b M := by
  intro p hp
  rw [VE_p E] at hp
  have h40 : ∀ v, v < vc N → v < 40 := fun v hv => by unfold vc at hv; omega
  obtain ⟨a1, a2, a3, a4, a5, a6⟩ := z p hp
  refine ⟨a1, a2, fun j => ?_, fun i hi => ?_, fun v hv e => ?_, fun i j hij hj => ?_⟩
  · rw [a3 j, VE_c E]
    constructor
    · intro y
      rcases y with ⟨y1, y2⟩ | y
      · exact .inl ⟨y1, by rw [VE_v E (h40 j y1) (by decide)]; exact y2⟩
      · exact .inr y
    · intro y
      rcases y with ⟨y1, y2⟩ | y
      · rw [VE_v E (h40 j y1) (by decide)] at y2
        exact .inl ⟨y1, y2⟩
      · exact .inr y
  · obtain ⟨v, v1, v2, v3⟩ := a4 i hi
    exact ⟨v, by rw [VE_c E]; exact v1, v2, by rw [VE_v E (h40 v v1) (by decide)]; exact v3⟩
  · rw [VE_c E] at hv
    rw [VE_v E (h40 v hv) (by decide)] at e
    exact a5 v hv e
  · obtain ⟨v, v1, v2, v3⟩ := a4 i (by omega)
    obtain ⟨w, w1, w2, w3⟩ := a4 j hj
    have := a6 i j hij hj
    rw [v2, w2] at this ⊢
    rw [VE_v E (h40 _ (by omega)) (by decide), VE_v E (h40 _ (by omega)) (by decide)]
    exact this
theorem CSR_vf {h : XH} {b : Nat} {nd : Nat → ND} {r : Nat} (E : VF N M) (hW : N 4 ≤ 40) (hp : ∀ v, v < vc N → 0 ≤ nV N v 0 ∧ nV N v 0 < 12) (e : ∀ k, k < 291 → nR M r k = nR N r k) (z : CSR h b N nd r) : CSR h b M nd r := by
  obtain ⟨a1, a2, a3, a4, a5, a6, a7, a8, a9, a10, a11, a12⟩ := z
  unfold CSR
  rw [e 0 (by decide), e 9 (by decide), e 22 (by decide), e 47 (by decide), e 288 (by decide), e 289 (by decide), e 290 (by decide)]
  refine ⟨a1, fun w h8 hw => ?_, a3, fun p hp => ?_, a5, SetR_vf E hW (fun p hp => e _ (by omega)) hp a6, SetR_vf E hW (fun p hp => e _ (by omega)) hp a7, a8, fun i hi hq => SetR_vf E hW (fun p hp => e _ (by omega)) hp (a9 i hi hq), a10, a11, a12⟩
  · rw [e (1 + w) (by omega)]; exact a2 w h8 hw
  · rw [e (10 + p) (by omega)]; exact a4 p hp
theorem CSR_ve {h : XH} {b : Nat} {nd : Nat → ND} {r : Nat} (E : VE N M) (hW : N 4 ≤ 40) (hp : ∀ v, v < vc N → 0 ≤ nV N v 0 ∧ nV N v 0 < 12) (e : ∀ k, k < 291 → nR M r k = nR N r k) (z : CSR h b N nd r) : CSR h b M nd r := CSR_vf (VE_F E) hW hp e z
theorem CST_vf {h : XH} {b : Nat} (E : VF N M) (hW : N 4 ≤ 40) (hp : ∀ v, v < vc N → 0 ≤ nV N v 0 ∧ nV N v 0 < 12) (e : ∀ i, (1 ≤ i ∧ i ≤ 3) ∨ (1678 ≤ i ∧ i < 1957) → M i = N i) (z : CST h b N) : CST h b M := by
  obtain ⟨a1, a2, a3, a4, a5⟩ := z
  refine ⟨by rw [e 1 (by omega)]; exact a1, by rw [e 3 (by omega)]; exact a2, by rw [e 2 (by omega)]; exact a3, fun l hl => SetR_vf E hW (fun p hp => e _ (by omega)) hp (a4 l hl), fun m hm => ?_⟩
  obtain ⟨q1, q2, q3⟩ := a5 m hm
  refine ⟨by rw [e _ (by omega)]; exact q1, fun v hv => ?_, fun v hv x => ?_⟩
  · rw [q2 v hv]
    constructor
    · intro ⟨y1, y2⟩; exact ⟨y1, by rw [e _ (by omega)]; exact y2⟩
    · intro ⟨y1, y2⟩; rw [e _ (by omega)] at y2; exact ⟨y1, y2⟩
  · rw [e _ (by omega)] at x
    rw [e _ (by omega)]
    exact q3 v hv x
theorem CST_ve {h : XH} {b : Nat} (E : VE N M) (hW : N 4 ≤ 40) (hp : ∀ v, v < vc N → 0 ≤ nV N v 0 ∧ nV N v 0 < 12) (e : ∀ i, (1 ≤ i ∧ i ≤ 3) ∨ (1678 ≤ i ∧ i < 1957) → M i = N i) (z : CST h b N) : CST h b M := CST_vf (VE_F E) hW hp e z
theorem WV_ve {m : Nat} (E : VE N M) (z : WV N m) : WV M m := by
  obtain ⟨b1, b2, b3, b4, b5, b6, b7⟩ := z
  unfold WV
  rw [VE_c E, E 0 (by omega) (by omega), E 4 (by omega) (by omega)]
  have h40 : ∀ v, v < vc N → v < 40 := fun v hv => by unfold vc at hv; omega
  refine ⟨b1, b2, b3, b4, fun v hv => ?_, fun v hv h4 k hk => by rw [VE_v E h4 hk]; exact b6 v hv h4 k hk, fun v w hv hw e1 e2 => ?_⟩
  · have w : ∀ k, k < 20 → nV M v k = nV N v k := fun k hk => VE_v E (h40 v hv) hk
    obtain ⟨c1, c2, c3, c4, c5, c6, c7, c8, c9, c10, c11, c12, c13, c14, c15, c16, c17, c18, c19, c20, c21, c22⟩ := b5 v hv
    rw [w 0 (by decide), w 1 (by decide), w 2 (by decide), w 3 (by decide), w 5 (by decide), w 6 (by decide), w 7 (by decide), w 11 (by decide), w 12 (by decide), w 15 (by decide)]
    refine ⟨c1, c2, c3, c4, c5, c6, c7, c8, c9, c10, c11, c12, c13, fun k h3 hk => ?_, c15, c16, c17, c18, fun k h2 hk => ?_, c20, c21, fun k h2 hk => ?_⟩
    · rw [w (8 + k) (by omega)]; exact c14 k h3 hk
    · rw [w (13 + k) (by omega)]; exact c19 k h2 hk
    · rw [w (16 + 2 * k) (by omega), w (17 + 2 * k) (by omega)]; exact c22 k h2 hk
  · rw [VE_v E (h40 v hv) (by decide), VE_v E (h40 w hw) (by decide)] at e1 e2
    exact b7 v w hv hw e1 e2
theorem WRt_ve {m r : Nat} (E : VE N M) (e : ∀ k, k < 291 → nR M r k = nR N r k) (z : WRt N m r) : WRt M m r := by
  obtain ⟨c1, c2, c3, c4, c5, c6, c7, c8, c9, c10, c11⟩ := z
  unfold WRt
  rw [e 0 (by decide), e 9 (by decide), e 22 (by decide), e 47 (by decide), E 0 (by omega) (by omega)]
  refine ⟨c1, c2, fun w h8 hw => ?_, c4, c5, c6, fun p hp => ?_, c8, c9, c10, c11⟩
  · rw [e (1 + w) (by omega)]; exact c3 w h8 hw
  · rw [e (10 + p) (by omega)]; exact c7 p hp
theorem WT_ve (E : VE N M) (e : ∀ i, (1 ≤ i ∧ i ≤ 3) ∨ (1678 ≤ i ∧ i < 1957) → M i = N i) (z : WT N) : WT M := by
  obtain ⟨c1, c2, c3, c4, c5, c6, c7⟩ := z
  unfold WT
  rw [e 1 (by omega), e 2 (by omega), e 3 (by omega)]
  refine ⟨c1, c2, c3, c4, c5, c6, fun m hm => ?_⟩
  obtain ⟨q1, q2, q3⟩ := c7 m hm
  rw [e _ (by omega)]
  refine ⟨q1, q2, fun v hv => ?_⟩
  rw [e _ (by omega), VE_c E]
  exact q3 v hv
theorem WV_hp {m : Nat} (z : WV N m) (v : Nat) (hv : v < vc N) : 0 ≤ nV N v 0 ∧ nV N v 0 < 12 := by
  have := z.2.2.2.2.1 v hv
  have := z.2.1
  omega
end VEs
