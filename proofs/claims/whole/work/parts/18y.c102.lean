/-! PAIRS OF A PROOF, the reference: one comes -/
theorem xor_m1 (b : BitVec 64) : b ^^^ 18446744073709551615#64 = ~~~b := bits_eq (fun j hj => by rw [not_m1_at hj, BitVec.getLsbD_not, decide_eq_true hj, Bool.true_and])
def RowR (h : XH) (R : List Row) : Prop := hI h 437 47 = R.length ∧ R.length ≤ 200 ∧ ∀ i, i < R.length → hL h 454 i = (R.getD i r0).1 ∧ hL h 455 i = (R.getD i r0).2.1 ∧ hI h 456 i = (R.getD i r0).2.2.1 ∧ hI h 457 i = (R.getD i r0).2.2.2
def cnd (R : List Row) (i j : Nat) : Prop := popc (rClash (R.getD i r0) (R.getD j r0)) = 1 ∧ ∀ r, r < R.length → ¬ rAll (rYes (R.getD i r0) (R.getD j r0)) (rNo (R.getD i r0) (R.getD j r0)) (R.getD r r0)
/-- it has come -/
def AP (h g : XH) (L : List Row) : Prop := Fr (fun b => b = 437 ∨ ∃ j, 52 ≤ j ∧ j ≤ 55 ∧ b = hR h 437 j) h g ∧ (∀ j, ¬ (52 ≤ j ∧ j ≤ 56) → el g 437 j = el h 437 j) ∧ h.length ≤ g.length ∧ (∀ j, owP j → hR g 437 j = hR h 437 j ∨ h.length ≤ hR g 437 j) ∧ (StR g ∧ DJo g) ∧ PairR g L ∧ g.length + cq h ≤ h.length + cq g ∧ xhs g + 10 * cq h ≤ xhs h + 10 * cq g ∧ cq h ≤ cq g
theorem StR_sh2 {h g : XH} (ek : ∀ a, hk g a = hk h a) (en : ∀ a, hn g a = hn h a) (r : ∀ j, owP j → hR g 437 j = hR h 437 j) (z : StR h) : StR g := by
  have r24 := r 24 (by unfold owP; omega)
  have r25 := r 25 (by unfold owP; omega)
  have r26 := r 26 (by unfold owP; omega)
  have r27 := r 27 (by unfold owP; omega)
  have r28 := r 28 (by unfold owP; omega)
  have r31 := r 31 (by unfold owP; omega)
  have r52 := r 52 (by unfold owP; omega)
  have r53 := r 53 (by unfold owP; omega)
  have r54 := r 54 (by unfold owP; omega)
  have r55 := r 55 (by unfold owP; omega)
  unfold StR own at *
  simp only [r24, r25, r26, r27, r28, r31, r52, r53, r54, r55, ek, en]
  exact z
theorem row_app {L : List Row} {c : Row} {i : Nat} : (L ++ [c]).getD i r0 = if i = L.length then c else L.getD i r0 := by
  rw [List.getD_eq_getElem?_getD, List.getD_eq_getElem?_getD]
  by_cases e : i = L.length
  · rw [if_pos e, e, List.getElem?_append_right (Nat.le_refl _), Nat.sub_self]; rfl
  · rw [if_neg e]
    by_cases y : i < L.length
    · rw [List.getElem?_append_left y]
    · rw [List.getElem?_eq_none (by simp; omega), List.getElem?_eq_none (by omega)]
set_option maxHeartbeats 1000000 in
theorem c_X14_hasAll {p0 p1 p2 p3 : BitVec 64} {h : XH} {K : Int → Prop} (k : ∀ x, bq x (p2 &&& ~~~p0 = 0#64 ∧ p3 &&& ~~~p1 = 0#64) → K x) : w_X14_hasAll p0 p1 p2 p3 K h := by
  unfold w_X14_hasAll
  rw [xor_m1, xor_m1]
  refine ⟨fun x => bq x (p2 &&& ~~~p0 = 0#64 ∧ p3 &&& ~~~p1 = 0#64), ?_, ?_⟩
  · intro x1 rx1 z2
    refine ⟨vOr z2, ?_⟩
    exact k _ z2
  · refine ⟨¬ (p2 &&& ~~~p0 = 0#64 ∧ p3 &&& ~~~p1 = 0#64), ?_, ?_⟩
    · intro z4
      first
        | exact bqF z4
        | exact fun y => c6 y.1
        | exact fun y => c5 y.2
        | exact bqT ⟨Decidable.not_not.mp c6, Decidable.not_not.mp c5⟩
    · refine ⟨fun c6 => ?_, fun c6 => ?_⟩
      · first
          | exact bqF z4
          | exact fun y => c6 y.1
          | exact fun y => c5 y.2
          | exact bqT ⟨Decidable.not_not.mp c6, Decidable.not_not.mp c5⟩
      · refine ⟨fun c5 => ?_, fun c5 => ?_⟩
        · first
            | exact bqF z4
            | exact fun y => c6 y.1
            | exact fun y => c5 y.2
            | exact bqT ⟨Decidable.not_not.mp c6, Decidable.not_not.mp c5⟩
        · first
            | exact bqF z4
            | exact fun y => c6 y.1
            | exact fun y => c5 y.2
            | exact bqT ⟨Decidable.not_not.mp c6, Decidable.not_not.mp c5⟩
set_option maxHeartbeats 16000000 in
theorem c_X14_addPair {p0 p1 : Int} {R L : List Row} {nd : Nat → ND} {h : XH} (T : HT h) (St : StR h) (Dj : DJo h) (Z : NT h nd) (Bq : B45 h) (RR : RowR h R) (z : PairR h L) (lt : L.length < 30000) (b0 : 0 ≤ p0 ∧ p0 < R.length) (b1 : 0 ≤ p1 ∧ p1 < R.length) {K : XH → Prop} (k0 : ¬ cnd R p0.toNat p1.toNat → K h) (k1 : cnd R p0.toNat p1.toNat → ∀ g, HT g → AP h g (L ++ [rNew R p0.toNat p1.toNat]) → K g) : w_X14_addPair p0 p1 K h := by
  unfold w_X14_addPair
  have L0 := HT_len T
  obtain ⟨-, -, -, -, -, -, -, -, -, -, o52, o53, o54, o55, n53, n54, n55, n64, n65⟩ := id St
  have cqe : cq h = hn h (hR h 437 52) := rfl
  obtain ⟨i47, r200, rv⟩ := RR
  obtain ⟨i, rfl⟩ : ∃ i : Nat, p0 = i := ⟨p0.toNat, by omega⟩
  obtain ⟨j, rfl⟩ : ∃ j : Nat, p1 = j := ⟨p1.toNat, by omega⟩
  rw [Int.toNat_natCast, Int.toNat_natCast] at k0 k1
  obtain ⟨a1, a2, -⟩ := rv i (by omega)
  obtain ⟨b1, b2, -⟩ := rv j (by omega)
  refine ⟨(by omega), ?_⟩
  refine ⟨(by omega), ?_⟩
  intro b3 eb3
  rw [Int.toNat_natCast, Int.toNat_natCast, a1, a2, b1, b2] at eb3
  have f3 : b3 = rClash (R.getD i r0) (R.getD j r0) := eb3
  refine c_J13_bitCount_95d88 ?_
  intro rx4
  refine ⟨fun c64 => ?_, fun c64 => ?_⟩
  · intro b5 eb5
    rw [Int.toNat_natCast, Int.toNat_natCast, a1, b1, f3, xor_m1] at eb5
    have f5 : b5 = rYes (R.getD i r0) (R.getD j r0) := eb5
    intro b6 eb6
    rw [Int.toNat_natCast, Int.toNat_natCast, a2, b2, f3, xor_m1] at eb6
    have f6 : b6 = rNo (R.getD i r0) (R.getD j r0) := eb6
    refine ⟨fun x => 0 ≤ x ∧ x ≤ (R.length : Int) ∧ ∀ r : Nat, (r : Int) < x → ¬ rAll b5 b6 (R.getD r r0), fun x => ((R.length : Int) - x).toNat, ?_, ?_⟩
    · exact ⟨by omega, by omega, fun r hr => by omega⟩
    · intro x7 rx7 z8
      obtain ⟨u0, u1, un⟩ := z8
      refine ⟨fun c63 => ?_, fun c63 => ?_⟩
      · rw [i47] at c63
        have cd : cnd R i j := ⟨by rw [← f3]; have := c64; omega, fun r hr => by rw [← f5, ← f6]; exact un r (by omega)⟩
        refine ⟨o52.1, ?_⟩
        refine ⟨(by omega), ?_⟩
        refine ⟨fun g => A16 h g L, ?_, ?_⟩
        · intro h15 t15 s15 z16
          obtain ⟨F8, E8_, l8, R8_, ⟨St8, Dj8⟩, z8, lt8, g8, x8, c8_⟩ := z16
          obtain ⟨-, -, -, -, -, -, -, -, -, -, o52_8, o53_8, o54_8, o55_8, m53, m54, m55, m64, m65⟩ := id St8
          have L8 := HT_len t15
          have j56 : hI h15 437 56 = (L.length : Nat) := z8.1
          have cqe8 : cq h15 = hn h15 (hR h15 437 52) := rfl
          have oo : ∀ j, 52 ≤ j → j ≤ 55 → ¬ hR h15 437 j = 437 := fun j a b => by
            have := (own_j St8 (j := j) (by unfold owP; omega)).2.2
            omega
          refine ⟨o52_8.1, ?_⟩
          refine ⟨(by omega), ?_⟩
          intro h19 eh19 t19 u19
          have R19 : ∀ j, el h19 437 j = el h15 437 j := fun j => by rw [eh19]; exact el_ne (oo 52 (by decide) (by decide))
          have K19 : ∀ a, hk h19 a = hk h15 a := fun a => by rw [eh19]; exact hk_sV _ _ _ _ _
          have N19 : ∀ a, hn h19 a = hn h15 a := fun a => by rw [eh19]; exact hn_sV _ _ _ _ _
          refine ⟨(by rw [show hR h19 437 53 = hR h15 437 53 from congrArg gvR (R19 53), K19]; exact o53_8.1), ?_⟩
          refine ⟨(by rw [show hR h19 437 53 = hR h15 437 53 from congrArg gvR (R19 53), show hI h19 437 56 = hI h15 437 56 from congrArg gvI (R19 56), N19, m53]; omega), ?_⟩
          intro h22 eh22 t22 u22
          rw [show hR h19 437 53 = hR h15 437 53 from congrArg gvR (R19 53), show hI h19 437 56 = hI h15 437 56 from congrArg gvI (R19 56)] at eh22
          have R22 : ∀ j, el h22 437 j = el h15 437 j := fun j => by rw [eh22, el_ne (oo 53 (by decide) (by decide))]; exact R19 j
          have K22 : ∀ a, hk h22 a = hk h15 a := fun a => by rw [eh22]; exact (hk_sV _ _ _ _ _).trans (K19 a)
          have N22 : ∀ a, hn h22 a = hn h15 a := fun a => by rw [eh22]; exact (hn_sV _ _ _ _ _).trans (N19 a)
          refine ⟨(by rw [show hR h22 437 54 = hR h15 437 54 from congrArg gvR (R22 54), K22]; exact o54_8.1), ?_⟩
          refine ⟨(by rw [show hR h22 437 54 = hR h15 437 54 from congrArg gvR (R22 54), show hI h22 437 56 = hI h15 437 56 from congrArg gvI (R22 56), N22, m54]; omega), ?_⟩
          intro h25 eh25 t25 u25
          rw [show hR h22 437 54 = hR h15 437 54 from congrArg gvR (R22 54), show hI h22 437 56 = hI h15 437 56 from congrArg gvI (R22 56)] at eh25
          have R25 : ∀ j, el h25 437 j = el h15 437 j := fun j => by rw [eh25, el_ne (oo 54 (by decide) (by decide))]; exact R22 j
          have K25 : ∀ a, hk h25 a = hk h15 a := fun a => by rw [eh25]; exact (hk_sV _ _ _ _ _).trans (K22 a)
          have N25 : ∀ a, hn h25 a = hn h15 a := fun a => by rw [eh25]; exact (hn_sV _ _ _ _ _).trans (N22 a)
          refine ⟨(by rw [show hR h25 437 55 = hR h15 437 55 from congrArg gvR (R25 55), K25]; exact o55_8.1), ?_⟩
          refine ⟨(by rw [show hR h25 437 55 = hR h15 437 55 from congrArg gvR (R25 55), show hI h25 437 56 = hI h15 437 56 from congrArg gvI (R25 56), N25, m55]; omega), ?_⟩
          intro h28 eh28 t28 u28
          rw [show hR h25 437 55 = hR h15 437 55 from congrArg gvR (R25 55), show hI h25 437 56 = hI h15 437 56 from congrArg gvI (R25 56)] at eh28
          have R28 : ∀ j, el h28 437 j = el h15 437 j := fun j => by rw [eh28, el_ne (oo 55 (by decide) (by decide))]; exact R25 j
          have K28 : ∀ a, hk h28 a = hk h15 a := fun a => by rw [eh28]; exact (hk_sV _ _ _ _ _).trans (K25 a)
          have N28 : ∀ a, hn h28 a = hn h15 a := fun a => by rw [eh28]; exact (hn_sV _ _ _ _ _).trans (N25 a)
          intro h29 eh29 t29 u29
          rw [show hI h28 437 56 = hI h15 437 56 from congrArg gvI (R28 56)] at eh29
          rw [j56, Int.toNat_natCast] at eh19 eh22 eh25 eh28
          rw [j56, wr_of (by omega) (by omega)] at eh29
          have D8 := Dj8.1
          have ne : ∀ j k, 52 ≤ j → j ≤ 55 → 52 ≤ k → k ≤ 55 → ¬ j = k → ¬ hR h15 437 j = hR h15 437 k := fun j k a b c d n => D8 j k (by unfold owP; omega) (by unfold owP; omega) n
          have f29 : ∀ b, ¬ b = 437 → (∀ j, 52 ≤ j → j ≤ 55 → ¬ b = hR h15 437 j) → sameC h15 h29 b := fun b n m => by
            rw [eh29, eh28, eh25, eh22, eh19]
            exact sameC_tr (sameC_sV (fun y => m 52 (by decide) (by decide) y.symm)) (sameC_tr (sameC_sV (fun y => m 53 (by decide) (by decide) y.symm)) (sameC_tr (sameC_sV (fun y => m 54 (by decide) (by decide) y.symm)) (sameC_tr (sameC_sV (fun y => m 55 (by decide) (by decide) y.symm)) (sameC_sV (fun y => n y.symm)))))
          have R29 : ∀ j, ¬ j = 56 → el h29 437 j = el h15 437 j := fun j n => by rw [eh29, el_ni (fun y => n y.symm)]; exact R28 j
          have r29 : ∀ j, ¬ j = 56 → hR h29 437 j = hR h15 437 j := fun j n => congrArg gvR (R29 j n)
          have K29 : ∀ a, hk h29 a = hk h15 a := fun a => by rw [eh29]; exact (hk_sV _ _ _ _ _).trans (K28 a)
          have N29 : ∀ a, hn h29 a = hn h15 a := fun a => by rw [eh29]; exact (hn_sV _ _ _ _ _).trans (N28 a)
          have l29 : h29.length = h15.length := by rw [eh29, eh28, eh25, eh22, eh19]; simp only [len_sV]
          have x29 : xhs h29 = xhs h15 := by rw [eh29, eh28, eh25, eh22, eh19]; simp only [xhs_sV]
          have cq29 : cq h29 = cq h15 := by unfold cq; rw [r29 52 (by decide), N29]
          refine k1 cd _ t29 ⟨fun b hb n => ?_, fun j n => (R29 j (by omega)).trans (E8_ j (by omega)), by omega, fun j hj => ?_, ⟨StR_sh2 K29 N29 (fun j hj => r29 j (by unfold owP at hj; omega)) St8, ?_⟩, ⟨?_, ?_, fun t ht => ?_⟩, by omega, by omega, by omega⟩
          · refine sameC_tr (F8 b hb (fun y => n (.inl y))) (f29 b (fun y => n (.inl y)) (fun j a c y => ?_))
            rcases R8_ j (by unfold owP; omega) with q | q
            · exact n (.inr ⟨j, a, c, y.trans q⟩)
            · omega
          · rw [r29 j (by unfold owP at hj; omega)]; exact R8_ j hj
          · refine DJo_fr (fun b x y => f29 b (by omega) (fun j a c e => ?_)) L8 (fun j hj => R29 j (by unfold owP at hj; omega)) Dj8
            have q := own_j St8 (j := j) (by unfold owP; omega)
            rw [← e] at q
            omega
          · rw [eh29, hI_eq (by rw [(lstn t28).2.2.2.2.1]; decide) (by unfold rg; omega), List.length_append, List.length_singleton]; omega
          · rw [r29 52 (by decide), N29, List.length_append, List.length_singleton]; omega
          · rw [List.length_append, List.length_singleton] at ht
            rw [r29 52 (by decide), r29 53 (by decide), r29 54 (by decide), r29 55 (by decide), row_app]
            have n53_ := ne 52 53 (by decide) (by decide) (by decide) (by decide) (by decide)
            have n54_ := ne 52 54 (by decide) (by decide) (by decide) (by decide) (by decide)
            have n55_ := ne 52 55 (by decide) (by decide) (by decide) (by decide) (by decide)
            have n34 := ne 53 54 (by decide) (by decide) (by decide) (by decide) (by decide)
            have n35 := ne 53 55 (by decide) (by decide) (by decide) (by decide) (by decide)
            have n45 := ne 54 55 (by decide) (by decide) (by decide) (by decide) (by decide)
            have x5 := oo 52 (by decide) (by decide)
            have x6 := oo 53 (by decide) (by decide)
            have x7 := oo 54 (by decide) (by decide)
            have x8 := oo 55 (by decide) (by decide)
            have e52 : hL h29 (hR h15 437 52) t = hL h19 (hR h15 437 52) t := by rw [eh29, hL_ne (fun y => x5 y.symm), eh28, hL_ne (fun y => n55_ y.symm), eh25, hL_ne (fun y => n54_ y.symm), eh22, hL_ne (fun y => n53_ y.symm)]
            have e53 : hL h29 (hR h15 437 53) t = hL h22 (hR h15 437 53) t := by rw [eh29, hL_ne (fun y => x6 y.symm), eh28, hL_ne (fun y => n35 y.symm), eh25, hL_ne (fun y => n34 y.symm)]
            have e54 : hI h29 (hR h15 437 54) t = hI h25 (hR h15 437 54) t := by rw [eh29, hI_ne (fun y => x7 y.symm), eh28, hI_ne (fun y => n45 y.symm)]
            have e55 : hI h29 (hR h15 437 55) t = hI h28 (hR h15 437 55) t := by rw [eh29, hI_ne (fun y => x8 y.symm)]
            rw [e52, e53, e54, e55]
            by_cases c : t = L.length
            · rw [if_pos c, c, eh19, hL_eq (by omega), eh22, hL_eq (by rw [N19]; omega), eh25, hI_eq (by rw [N22]; omega) (by unfold rg; omega), eh28, hI_eq (by rw [N25]; omega) (by unfold rg; omega), f5, f6]
              exact ⟨rfl, rfl, rfl, rfl⟩
            · rw [if_neg c]
              obtain ⟨v1, v2, v3, v4⟩ := z8.2.2 t (by omega)
              refine ⟨?_, ?_, ?_, ?_⟩
              · rw [eh19, hL_ni (fun y => c y.symm)]; exact v1
              · rw [eh22, hL_ni (fun y => c y.symm), eh19, hL_ne n53_]; exact v2
              · rw [eh25, hI_ni (fun y => c y.symm), eh22, hI_ne n34, eh19, hI_ne n54_]; exact v3
              · rw [eh28, hI_ni (fun y => c y.symm), eh25, hI_ne n45, eh22, hI_ne n35, eh19, hI_ne n55_]; exact v4
        · refine ⟨fun c58 => ?_, fun c58 => ?_⟩
          · exact ⟨Fr_rf _ _, fun _ _ => rfl, Nat.le_refl _, fun _ _ => .inl rfl, ⟨St, Dj⟩, z, by have := z.1; have := z.2.1; omega, by omega, by omega, Nat.le_refl _⟩
          · have n52_ : hn h (hR h 437 52) = L.length := by have := Decidable.not_not.mp c58; have := z.1; omega
            have S : Srp h L.length := by
              refine ⟨by omega, z.1, fun i hi => ?_⟩
              have : i = 0 ∨ i = 1 ∨ i = 2 ∨ i = 3 := by omega
              rcases this with y | y | y | y
              · rw [y]; exact ⟨o52.1, n52_, hk_lt o52.1 (by decide)⟩
              · rw [y]; exact ⟨o53.1, n53.trans n52_, hk_lt o53.1 (by decide)⟩
              · rw [y]; exact ⟨o54.1, n54.trans n52_, hk_lt o54.1 (by decide)⟩
              · rw [y]; exact ⟨o55.1, n55.trans n52_, hk_lt o55.1 (by decide)⟩
            have nC : L.length ≤ 2 * L.length := by omega
            have G0 := GQ_0 h (2 * L.length) L.length
            refine ⟨(oq_ (GQ_i S G0) lt).1, ?_⟩
            intro a31 h32 ea31 eh32 t32 u32 ca31 la31
            rw [(oq_ (GQ_i S G0) lt).2] at eh32 la31
            obtain ⟨G1, ba31⟩ := GQ_al G0 eh32 ea31 ca31 la31
            clear eh32 la31 ca31 ea31
            subst ba31
            refine ⟨(oq_ (GQ_i S G1) lt).1, ?_⟩
            intro a34 h35 ea34 eh35 t35 u35 ca34 la34
            rw [(oq_ (GQ_i S G1) lt).2] at eh35 la34
            obtain ⟨G2, ba34⟩ := GQ_al G1 eh35 ea34 ca34 la34
            clear eh35 la34 ca34 ea34
            subst ba34
            refine ⟨(oq_ (GQ_i S G2) lt).1, ?_⟩
            intro a37 h38 ea37 eh38 t38 u38 ca37 la37
            rw [(oq_ (GQ_i S G2) lt).2] at eh38 la37
            obtain ⟨G3, ba37⟩ := GQ_al G2 eh38 ea37 ca37 la37
            clear eh38 la37 ca37 ea37
            subst ba37
            refine ⟨(oq_ (GQ_i S G3) lt).1, ?_⟩
            intro a40 h41 ea40 eh41 t41 u41 ca40 la40
            rw [(oq_ (GQ_i S G3) lt).2] at eh41 la40
            obtain ⟨G4, ba40⟩ := GQ_al G3 eh41 ea40 ca40 la40
            clear eh41 la40 ca40 ea40
            subst ba40
            refine ⟨(GQ_o S G4 (i := 0) (by decide) nC).1, ?_⟩
            refine ⟨(GQ_o S G4 (i := 0) (by decide) nC).2, ?_⟩
            intro h44 eh44 t44 u44
            have H1 := GQ_cp (k := 0) t41 u44 S nC (by decide) G4 eh44
            refine ⟨(GQ_o S H1 (i := 1) (by decide) nC).1, ?_⟩
            refine ⟨(GQ_o S H1 (i := 1) (by decide) nC).2, ?_⟩
            intro h47 eh47 t47 u47
            have H2 := GQ_cp (k := 1) t44 u47 S nC (by decide) H1 eh47
            refine ⟨(GQ_o S H2 (i := 2) (by decide) nC).1, ?_⟩
            refine ⟨(GQ_o S H2 (i := 2) (by decide) nC).2, ?_⟩
            intro h50 eh50 t50 u50
            have H3 := GQ_cp (k := 2) t47 u50 S nC (by decide) H2 eh50
            refine ⟨(GQ_o S H3 (i := 3) (by decide) nC).1, ?_⟩
            refine ⟨(GQ_o S H3 (i := 3) (by decide) nC).2, ?_⟩
            intro h53 eh53 t53 u53
            have H4 := GQ_cp (k := 3) t50 u53 S nC (by decide) H3 eh53
            intro h54 eh54 t54 u54
            intro h55 eh55 t55 u55
            intro h56 eh56 t56 u56
            intro h57 eh57 t57 u57
            exact A16_GQ T t53 St Dj Z Bq z lt n52_ H4 (by rw [eh57, eh56, eh55, eh54]; rfl)
      · rw [i47] at c63
        obtain ⟨w1, w2, -⟩ := rv x7.toNat (by omega)
        refine ⟨(by omega), ?_⟩
        refine c_X14_hasAll ?_
        rw [w1, w2]
        intro x60 qx60
        intro rx60 vx60
        refine ⟨fun c62 => ?_, fun c62 => ?_⟩
        · intro x61 ex61 rx61
          rw [wr_of (by omega) (by omega)] at ex61
          refine ⟨⟨by omega, by omega, fun r hr => ?_⟩, by dsimp only; omega⟩
          by_cases c : r = x7.toNat
          · rw [c]; exact (bq1 qx60).2.1.mp c62
          · exact un r (by omega)
        · refine k0 (fun y => y.2 x7.toNat (by omega) ?_)
          rw [← f5, ← f6]
          exact (bq1 qx60).2.2.1.mp c62
  · refine k0 (fun y => c64 ?_)
    rw [f3, y.1]; rfl
