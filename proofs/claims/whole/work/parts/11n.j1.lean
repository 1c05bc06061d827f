/-! CALLS SIDE BY SIDE: root -/
/-- a number of the row at hand is changed -/
theorem nw_sI {h : XH} (T : HT h) {i : Nat} {x : Int} (hi : i < 1957) (rx : rg x) (j : Nat) : nw (sI h 438 i x) j = if j = i then x else nw h j := by
  unfold nw
  by_cases c : j = i
  · rw [if_pos c, c]
    exact hI_eq (by rw [(lstn T).2.2.2.2.2.1]; exact hi) rx
  · rw [if_neg c]
    exact hI_ni (fun z => c z.symm)
theorem j_root {h h2 h4 h5 g1 g5 g7 : XH} {nd : Nat → ND} {o u p0 : Int} (T : HT h) (R : Core h nd o u) (hp : 0 ≤ p0 ∧ p0 < 3) (r : Rmb o u h h2) (T2 : HT h2) (T4 : HT h4) (e4 : h4 = sI h2 8 4 p0) (e5 : h5 = sL h4 467 0 (i2l (hI h2 8 4))) (T5 : HT h5) (e1 : g1 = sI h5 437 5 0) (r3 : Rrec ((o + u) % 10) u g1 g5) (T6 : HT g5) (e7 : g7 = sI g5 438 1 p0) : (∃ o' u', Core g7 nd o' u') ∧ hI g7 437 5 = 0 ∧ hL g7 467 0 = i2l (hI g5 438 1) := by
  obtain ⟨C, W, Nt, P, B, Tp⟩ := id R
  have L := HT_len T
  have rl := r.2.1
  have bb := P.1
  have Bs := bs_lt (k := ((o + u) % 10).toNat) (by omega)
  have l1 : g1.length = h2.length := by rw [e1, len_sV, e5, len_sV, e4, len_sV]
  have ql := r3.2.1
  have F : Fr (fun b => b = 8 ∨ b = 467 ∨ b = 437) h2 g1 := fun b _ n => by
    have f4 : sameC h2 h4 b := by rw [e4]; exact sameC_sV (fun z => n (.inl z.symm))
    have f5 : sameC h4 h5 b := by rw [e5]; exact sameC_sV (fun z => n (.inr (.inl z.symm)))
    have f1 : sameC h5 g1 b := by rw [e1]; exact sameC_sV (fun z => n (.inr (.inr z.symm)))
    exact sameC_tr (sameC_tr f4 f5) f1
  have F7 : Fr (fun b => b = 438) g5 g7 := by rw [e7]; exact Fr_sV rfl
  have c2 : sameC h2 g1 2 := F 2 (by omega) (by omega)
  -- cells of the state at hand
  have G : ∀ b, b < h.length → ¬ b = 2 → ¬ (86 ≤ b ∧ b < 437) → ¬ b = 8 → ¬ b = 467 → ¬ b = 437 → ¬ b = 438 → ¬ b = 439 → sameC h g7 b := fun b hb n1 n2 n3 n4 n5 n6 n7 =>
    sameC_tr (sameC_tr (sameC_tr (r.1 b hb (fun y => y.elim n1 (fun y => n2 (by omega)))) (F b (by omega) (by omega))) (r3.1 b (by omega) (fun y => y.elim n5 n7))) (F7 b (by omega) n6)
  have X : ∀ a, hk h a = 1 ∨ hk h a = 11 → sameC h g7 a := fun a ha => by
    have ha4 : ¬ a < 468 := fun y => noTxt T y ha
    have hal : a < h.length := by rcases ha with e | e <;> exact hk_lt e (by decide)
    exact G a hal (by omega) (by omega) (by omega) (by omega) (by omega) (by omega) (by omega)
  have e8 : ∀ i, ¬ i = 4 → hI g7 8 i = hI h 8 i := fun i n => by
    rw [sameC_I (F7 8 (by omega) (by decide)), sameC_I (r3.1 8 (by omega) (by decide)), e1, hI_ne (by decide), e5, hI_ne (by decide), e4, hI_ni (fun z => n z.symm), sameC_I (r.1 8 (by omega) (by omega))]
  have e84 : hI g7 8 4 = p0 := by
    rw [sameC_I (F7 8 (by omega) (by decide)), sameC_I (r3.1 8 (by omega) (by decide)), e1, hI_ne (by decide), e5, hI_ne (by decide), e4]
    exact hI_eq (hn_obj T2 (lstn T2).1 rfl rfl) ⟨by omega, by omega⟩
  have en5 : nw g5 = nw h := by
    refine nw_fr (sameC_tr (sameC_tr (r.1 438 (by omega) (by omega)) (F 438 (by omega) (by decide))) (r3.1 438 (by omega) (by decide)))
  have en : ∀ j, nw g7 j = if j = 1 then p0 else nw h j := fun j => by rw [e7, nw_sI T6 (by decide) ⟨by omega, by omega⟩, en5]
  have E : VE (nw h) (nw g7) := fun i _ n => by rw [en, if_neg (by omega)]
  have hW := WF_b W
  have hv := WV_hp W.1
  have er : ∀ r k, nR (nw g7) r k = nR (nw h) r k := fun r k => by unfold nR; rw [en, if_neg (by omega)]
  have nC : CS g7 8 (nw g7) nd := by
    refine ⟨CSV_ve E hW.2.2.2 (CSV_cp (fun j i w x _ => sameC_el (G (8 + j) (by omega) (by omega) (by omega) (by omega) (by omega) (by omega) (by omega) (by omega)) i) X hW C.1), CSP_ve E hW.2.2.2 (CSP_cp (fun j i w x _ => sameC_el (G (8 + j) (by omega) (by omega) (by omega) (by omega) (by omega) (by omega) (by omega) (by omega)) i) hW C.2.1), fun q hq => CSR_ve E hW.2.2.2 hv (fun k _ => er q k) (CSR_cp (fun j i w _ => sameC_el (G _ (by omega) (by omega) (by omega) (by omega) (by omega) (by omega) (by omega) (by omega)) i) X (C.2.2.1 q hq)), ?_⟩
    obtain ⟨a1, a2, a3, a4, a5⟩ := C.2.2.2
    have s : ∀ b, 39 ≤ b → b < 43 → sameC h g7 b := fun b x y => G b (by omega) (by omega) (by omega) (by omega) (by omega) (by omega) (by omega) (by omega)
    refine ⟨by rw [e84, en, if_pos rfl], by rw [e8 6 (by decide), en, if_neg (by decide)]; exact a2, by rw [e8 7 (by decide), en, if_neg (by decide)]; exact a3, fun l hl => ?_, fun m hm => ?_⟩
    · rw [sameC_L (s 39 (by decide) (by decide))]
      exact SetR_ve E hW.2.2.2 (fun p hp => by rw [en, if_neg (by omega)]) hv (a4 l hl)
    · obtain ⟨q1, q2, q3⟩ := a5 m hm
      refine ⟨?_, fun v hv => ?_, fun v hv x => ?_⟩
      · rw [sameC_I (s 40 (by decide) (by decide)), en, if_neg (by omega)]; exact q1
      · rw [sameC_L (s 41 (by decide) (by decide)), en, if_neg (by omega)]; exact q2 v hv
      · rw [en, if_neg (by omega)] at x
        rw [sameC_I (s 42 (by decide) (by decide)), en, if_neg (by omega)]
        exact q3 v hv x
  have nW : WF (nw g7) (hI h 437 7).toNat := by
    refine ⟨WV_ve E W.1, fun r hr => WRt_ve E (fun k _ => er r k) (W.2.1 r hr), ?_⟩
    obtain ⟨c1, c2, c3, c4, c5, c6, c7⟩ := W.2.2
    unfold WT
    rw [en, if_pos rfl, en, if_neg (by decide), en, if_neg (by decide)]
    refine ⟨by omega, by omega, c3, c4, c5, c6, fun m hm => ?_⟩
    obtain ⟨q1, q2, q3⟩ := c7 m hm
    rw [en, if_neg (by omega)]
    refine ⟨q1, q2, fun v hv => ?_⟩
    rw [en, if_neg (by omega), VE_c E]
    exact q3 v hv
  refine ⟨Core_chg T R r F (fun b y => by omega) (by omega) (by rw [sameC_I c2]) (by rw [sameC_I c2]) (fun j hj => ?_) r3 T6 F7 nC nW, ?_, ?_⟩
  · rw [e1, el_ni (by omega), e5, el_ne (by decide), e4, el_ne (by decide)]
  · rw [sameC_I (F7 437 (by omega) (by decide)), show hI g5 437 5 = hI g1 437 5 from congrArg gvI (r3.2.2.2.2.2.1 5 (by decide) (by decide) (by decide))]
    exact h5_0 T5 (rgk rfl) e1
  · rw [sameC_L (F7 467 (by omega) (by decide)), sameC_L (r3.1 467 (by omega) (by decide)), e1, hL_ne (by decide), e5]
    rw [hL_eq (by rw [lyn (c := 101) (n := 1) T4 rfl]; decide)]
    have x1 : hI h2 8 4 = nw h 1 := by rw [sameC_I (r.1 8 (by omega) (by omega))]; exact C.2.2.2.1
    have x2 : hI g5 438 1 = nw h 1 := congrFun en5 1
    rw [x1, x2]
