/-! CALLS SIDE BY SIDE: quota -/
theorem j_quota {h h2 h4 h5 g1 g5 g7 : XH} {nd : Nat → ND} {o u p0 : Int} {q : Nat} (T : HT h) (R : Core h nd o u) (hq : q < 3) (hp : 0 ≤ p0 ∧ p0 ≤ 40000) (r : Rmb o u h h2) (T2 : HT h2) (T4 : HT h4) (e4 : h4 = sI h2 (rc q) 4 p0) (e5 : h5 = sL h4 467 0 (i2l (hI h2 (rc q) 4))) (T5 : HT h5) (e1 : g1 = sI h5 437 5 0) (r3 : Rrec ((o + u) % 10) u g1 g5) (T6 : HT g5) (e7 : g7 = sI g5 438 (805 + 291 * q + 22) p0) : (∃ o' u', Core g7 nd o' u') ∧ hI g7 437 5 = 0 ∧ hL g7 467 0 = i2l (nR (nw g5) q 22) := by
  obtain ⟨C, W, -, P, -, -⟩ := id R
  have rb := rc_lt hq
  have F7 : Fr (fun b => b = 438) g5 g7 := by rw [e7]; exact Fr_sV rfl
  have F4 : Fr (fun b => b = rc q) h2 h4 := by rw [e4]; exact Fr_sV rfl
  obtain ⟨G, H, X, N5, Kc, Z, Y⟩ := j_set T R r F4 (fun b y => by omega) (by rw [e4, len_sV]) T4 e5 T5 e1 r3 T6 F7
  have en : ∀ j, nw g7 j = if j = 805 + 291 * q + 22 then p0 else nw h j := fun j => by rw [e7, nw_sI T6 (by omega) ⟨by omega, by omega⟩, N5]
  have E : VE (nw h) (nw g7) := fun i _ n => by rw [en, if_neg (by omega)]
  have hW := WF_b W
  have hv := WV_hp W.1
  have er : ∀ k, ¬ k = 22 → nR (nw g7) q k = nR (nw h) q k := fun k n => by unfold nR; rw [en, if_neg (by omega)]
  have er22 : nR (nw g7) q 22 = p0 := by unfold nR; rw [en, if_pos rfl]
  have c2 : ∀ b, 8 ≤ b → b < 86 → sameC h h2 b := fun b x y => Rmb_s T r P.1 x y
  have cI : ∀ i, ¬ i = 4 → hI g7 (rc q) i = hI h (rc q) i := fun i n => by
    rw [sameC_I (H (rc q) (by omega) (by omega)), e4, hI_ni (fun z => n z.symm), sameC_I (c2 (rc q) (by omega) (by omega))]
  have cL : ∀ i, ¬ i = 4 → hL g7 (rc q) i = hL h (rc q) i := fun i n => by
    rw [sameC_L (H (rc q) (by omega) (by omega)), e4, hL_ni (fun z => n z.symm), sameC_L (c2 (rc q) (by omega) (by omega))]
  have c4 : hI g7 (rc q) 4 = p0 := by
    rw [sameC_I (H (rc q) (by omega) (by omega)), e4]
    exact hI_eq (hn_obj T2 (rc_k T2 hq) rfl rfl) ⟨by omega, by omega⟩
  obtain ⟨a1, a2, a3, a4, a5, a6, a7, a8, a9, a10, a11, a12⟩ := R8 (C.2.2.1 q hq)
  have zr : CSR g7 8 (nw g7) nd q := by
    refine R8_mk ⟨?_, fun w h8 hw => ?_, ?_, fun p hp => ?_, ?_, ?_, ?_, ?_, fun i hi hw => ?_, ?_, ?_, ?_⟩
    · rw [cI 0 (by decide), er 0 (by decide)]; exact a1
    · rw [er 0 (by decide)] at hw
      rw [er (1 + w) (by omega), sameC_R (G (rc q + 1) (by omega) (by omega) (by omega))]
      exact (a2 w h8 hw).imp_right fun y => ⟨y.1, AtomR_fr X y.2⟩
    · rw [cI 2 (by decide), er 9 (by decide)]; exact a3
    · rw [er (10 + p) (by omega), sameC_R (G (rc q + 2) (by omega) (by omega) (by omega))]
      exact (a4 p hp).imp_right fun y => ⟨y.1, SpanR_fr X y.2⟩
    · rw [c4, er22]
    · rw [cL 5 (by decide)]; exact SetR_ve E hW.2.2.2 (fun p hp => er _ (by omega)) hv a6
    · rw [cL 6 (by decide)]; exact SetR_ve E hW.2.2.2 (fun p hp => er _ (by omega)) hv a7
    · rw [cI 7 (by decide), er 47 (by decide)]; exact a8
    · rw [er 47 (by decide)] at hw
      rw [sameC_L (G (rc q + 3) (by omega) (by omega) (by omega))]
      exact SetR_ve E hW.2.2.2 (fun p hp => er _ (by omega)) hv (a9 i hi hw)
    · rw [cI 9 (by decide), er 288 (by decide)]; exact a10
    · rw [cI 10 (by decide), er 289 (by decide)]; exact a11
    · rw [cI 11 (by decide), er 290 (by decide)]; exact a12
  have zw : WRt (nw g7) (hI h 437 7).toNat q := by
    obtain ⟨d1, d2, d3, d4, d5, d6, d7, d8, d9, d10, d11⟩ := W.2.1 q hq
    unfold WRt
    rw [er 0 (by decide), er 9 (by decide), er 47 (by decide), er22, E 0 (by omega) (by omega)]
    refine ⟨d1, d2, fun w h8 hw => ?_, d4, d5, d6, fun p hp => ?_, by omega, by omega, d10, d11⟩
    · rw [er (1 + w) (by omega)]; exact d3 w h8 hw
    · rw [er (10 + p) (by omega)]; exact d7 p hp
  obtain ⟨nC, nW⟩ := CS_one hq (fun c x y n => G c x y (by omega)) X W (fun i n => by rw [en, if_neg (by omega)]) C zr zw
  refine ⟨Kc nC nW, Z, ?_⟩
  rw [Y, sameC_I (c2 (rc q) (by omega) (by omega)), a5, N5]
