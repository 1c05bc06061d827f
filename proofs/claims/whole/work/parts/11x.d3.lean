/-! CALLS OF THE LAW: mirror -/
theorem j_mirror {h h2 h4 h5 g1 g5 g7 : XH} {nd : Nat → ND} {o u : Int} (T : HT h) (R : Core h nd o u) (hp : hI h 8 6 < 3) (r : Rmb o u h h2) (T2 : HT h2) (T4 : HT h4) (e4 : h4 = sI h2 8 6 (wr (hI h2 8 6 + 1))) (e5 : h5 = sL h4 467 0 (i2l (hI h2 8 6))) (T5 : HT h5) (e1 : g1 = sI h5 437 5 0) (r3 : Rrec ((o + u) % 10) u g1 g5) (T6 : HT g5) (e7 : g7 = sI g5 438 3 (wr (hI g5 438 3 + 1))) : (∃ o' u', Core g7 nd o' u') ∧ hI g7 437 5 = 0 ∧ hL g7 467 0 = i2l (wr (hI g7 438 3 - 1)) := by
  obtain ⟨C, W, -, P, -, -⟩ := id R
  have F7 : Fr (fun b => b = 438) g5 g7 := by rw [e7]; exact Fr_sV rfl
  have F4 : Fr (fun b => b = 8) h2 h4 := by rw [e4]; exact Fr_sV rfl
  obtain ⟨G, H, X, N5, Kc, Z, Y⟩ := j_set T R r F4 (fun b y => by omega) (by rw [e4, len_sV]) T4 e5 T5 e1 r3 T6 F7
  have n3 : hI h 8 6 = nw h 3 := C.2.2.2.2.1
  have w3 : 0 ≤ nw h 3 ∧ nw h 3 ≤ 3 := ⟨W.2.2.2.2.2.2.1, W.2.2.2.2.2.2.2.1⟩
  have g3 : hI g5 438 3 = nw h 3 := congrFun N5 3
  have wx : wr (nw h 3 + 1) = nw h 3 + 1 := wr_of (by omega) (by omega)
  have en : ∀ j, nw g7 j = if j = 3 then nw h 3 + 1 else nw h j := fun j => by rw [e7, g3, wx, nw_sI T6 (by decide) ⟨by omega, by omega⟩, N5]
  have E : VE (nw h) (nw g7) := fun i _ n => by rw [en, if_neg (by omega)]
  have hW := WF_b W
  have hv := WV_hp W.1
  have c2 : sameC h h2 8 := Rmb_s T r P.1 (by decide) (by decide)
  have e8 : ∀ i, ¬ i = 6 → hI g7 8 i = hI h 8 i := fun i n => by
    rw [sameC_I (H 8 (by decide) (by decide)), e4, hI_ni (fun z => n z.symm), sameC_I c2]
  have e86 : hI g7 8 6 = nw h 3 + 1 := by
    rw [sameC_I (H 8 (by decide) (by decide)), e4, sameC_I c2, n3, wx]
    exact hI_eq (hn_obj T2 (lstn T2).1 rfl rfl) ⟨by omega, by omega⟩
  have er : ∀ r k, nR (nw g7) r k = nR (nw h) r k := fun r k => by unfold nR; rw [en, if_neg (by omega)]
  have nC : CS g7 8 (nw g7) nd := by
    refine ⟨CSV_ve E hW.2.2.2 (CSV_cp (fun j i w x _ => sameC_el (G (8 + j) (by omega) (by omega) (by omega)) i) X hW C.1), CSP_ve E hW.2.2.2 (CSP_cp (fun j i w x _ => sameC_el (G (8 + j) (by omega) (by omega) (by omega)) i) hW C.2.1), fun q hq => CSR_ve E hW.2.2.2 hv (fun k _ => er q k) (CSR_cp (fun j i w _ => sameC_el (G _ (by omega) (by omega) (by omega)) i) X (C.2.2.1 q hq)), ?_⟩
    obtain ⟨a1, a2, a3, a4, a5⟩ := C.2.2.2
    have s : ∀ b, 39 ≤ b → b < 43 → sameC h g7 b := fun b x y => G b (by omega) (by omega) (by omega)
    refine ⟨by rw [e8 4 (by decide), en, if_neg (by decide)]; exact a1, by rw [e86, en, if_pos rfl], by rw [e8 7 (by decide), en, if_neg (by decide)]; exact a3, fun l hl => ?_, fun m hm => ?_⟩
    · rw [sameC_L (s 39 (by decide) (by decide))]
      exact SetR_ve E hW.2.2.2 (fun p hp => by rw [en, if_neg (by omega)]) hv (a4 l hl)
    · obtain ⟨q1, q2, q3⟩ := a5 m hm
      refine ⟨?_, fun v hv => ?_, fun v hv x => ?_⟩
      · rw [sameC_I (s 40 (by decide) (by decide)), en, if_neg (by omega)]; exact q1
      · rw [sameC_L (s 41 (by decide) (by decide)), en, if_neg (by omega)]; exact q2 v hv
      · rw [en, if_neg (by omega)] at x
        rw [sameC_I (s 42 (by decide) (by decide)), en, if_neg (by omega)]
        exact q3 v hv x
  have nW : WF (nw g7) (hI h 437 7).toNat := by
    refine ⟨WV_ve E W.1, fun r hr => WRt_ve E (fun k _ => er r k) (W.2.1 r hr), ?_⟩
    obtain ⟨c1, c2, c3, c4, c5, c6, c7⟩ := W.2.2
    unfold WT
    rw [en 3, if_pos rfl, en, if_neg (by decide), en, if_neg (by decide)]
    refine ⟨c1, c2, c3, c4, by omega, by omega, fun m hm => ?_⟩
    obtain ⟨q1, q2, q3⟩ := c7 m hm
    rw [en, if_neg (by omega)]
    refine ⟨q1, q2, fun v hv => ?_⟩
    rw [en, if_neg (by omega), VE_c E]
    exact q3 v hv
  refine ⟨Kc nC nW, Z, ?_⟩
  have y1 : hI g7 438 3 = nw h 3 + 1 := by
    show nw g7 3 = _
    rw [en, if_pos rfl]
  rw [Y, y1, sameC_I c2, n3, wr_of (by omega) (by omega)]
  congr 1
  omega
theorem d_mirror {h : XH} {nd : Nat → ND} {o u : Int} {c : Nat} (T : HT h) (R0 : Inv h nd o u c) (hc : c < 1000) {K : Int → XH → Prop} {J : XH → Prop} (k : ∀ h' o' u', HT h' → Inv h' nd o' u' (c + 1) → Gr 1 (xcs none) h h' → J h') : w_L_mirror (fun x h2 => HT h2 → HX h h2 → rg x → (w_X14_mirror (fun y h3 => HT h3 → HX h2 h3 → rg y → (w_X14_thrown (fun z => rg z → (((z = x → (∃ J' : Prop, (J' → (J h3)) ∧ ((¬ x = 0 → J') ∧ (¬ (¬ x = 0) → (((hL h3 467 0 = i2l y → J') ∧ (¬ (hL h3 467 0 = i2l y) → (K 0 h3)))))))) ∧ (¬ (z = x) → (K 0 h3))))) h3)) h2)) h := by
  have R := R0.1
  obtain ⟨C, W, Nt, P, B, Tp⟩ := id R
  obtain ⟨b0, p1, p2, p3, p4, p5⟩ := id P
  have L := HT_len T
  have n3 : hI h 8 6 = hI h 438 3 := C.2.2.2.2.1
  refine c_L_mirror b0 T p1 p2 B (fun z => ?_) (fun z h2 h4 h5 r T2 s2 e4 T4 s4 e5 => ?_)
  · intro t1 u1 rx
    have s := nT_s h (b := 437) (by omega)
    have s8 := nT_s h (b := 438) (by omega)
    refine c_X14_mirror (q := (o + u) % 10) (u := u) (by omega) t1 (by rw [sameC_I s]; exact p4) (by rw [sameC_I s]; exact p3) (fun _ g1 g2 tg e1 e2 => ?_) (fun z' => (z (by rw [sameC_I s8] at z'; omega)).elim)
    intro t2 u2 ry
    obtain ⟨q1, q2, q3⟩ := bad_ T t1 R0 tg (rgk rfl) e1 e2
    exact fin_ q2 (fun n => by omega) (k g2 o u t2 (Inv_mono (Nat.le_succ c) q1) q3)
  · intro t1 u1 rx
    have Bs := bs_lt (k := ((o + u) % 10).toNat) (by omega)
    have s : ∀ j, el h5 437 j = el h 437 j := fun j => by
      rw [e5, el_ne (by decide), e4, el_ne (by decide), sameC_el (r.1 437 (by omega) (by omega))]
    have s8 : hI h5 438 3 = hI h 438 3 := by
      rw [e5, hI_ne (by decide), e4, hI_ne (by decide), sameC_I (r.1 438 (by omega) (by omega))]
    refine c_X14_mirror (q := (o + u) % 10) (u := u) (by omega) t1 ((congrArg gvI (s 3)).trans p4) ((congrArg gvI (s 2)).trans p3) (fun n => (n (by rw [s8]; omega)).elim) (fun _ g1 g5 g7 tg e1 r3 T6 e7 => ?_)
    intro t2 u2 ry
    obtain ⟨⟨o', u', R'⟩, Z, Y⟩ := j_mirror T R z r T2 T4 e4 e5 t1 e1 r3 T6 e7
    exact fin_ Z (fun _ => Y) (k g7 o' u' t2 (Inv_set T R0 hc r (S := fun b => b = 8) (by rw [e4]; exact Fr_sV rfl) (fun b y => by omega) (by rw [e4, len_sV]) e5 e1 r3 (by rw [e7]; exact Fr_sV rfl) R' (fun e b => BdN_sI e7 (by omega) (by omega) (by omega) (by omega) (by omega) (WF_b W).2.2.2 e b)) (Gr_set r e4 e5 e1 r3 e7))
