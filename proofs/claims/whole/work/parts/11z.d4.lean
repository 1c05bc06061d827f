/-! CALLS OF THE LAW: pack -/
theorem j_pack {h h2 h4 h5 g1 g5 g7 : XH} {nd : Nat → ND} {o u : Int} (T : HT h) (R : Core h nd o u) (hp : hI h 9 0 < 12) (r : Rmb o u h h2) (a : Apk (hI h 9 0) h2 h4) (T4 : HT h4) (e5 : h5 = sL h4 467 0 (i2l (hI h 9 0))) (T5 : HT h5) (e1 : g1 = sI h5 437 5 0) (r3 : Rrec ((o + u) % 10) u g1 g5) (T6 : HT g5) (e7 : g7 = sI g5 438 0 (wr (hI g5 438 0 + 1))) : (∃ o' u', Core g7 nd o' u') ∧ hI g7 437 5 = 0 ∧ hL g7 467 0 = i2l (wr (hI g7 438 0 - 1)) := by
  obtain ⟨C, W, -, P, -, -⟩ := id R
  obtain ⟨F4, al, -, a90, a9, a10, a11, ao⟩ := a
  have F7 : Fr (fun b => b = 438) g5 g7 := by rw [e7]; exact Fr_sV rfl
  obtain ⟨G, H, X, N5, Kc, Z, Y⟩ := j_set T R r F4 (fun b y => by omega) al T4 e5 T5 e1 r3 T6 F7
  have n0 : hI h 9 0 = nw h 0 := C.1.1
  have hW := WF_b W
  have hv := WV_hp W.1
  have hv0 : ∀ v, v < vc (nw h) → nV (nw h) v 0 < nw h 0 := fun v y => (W.1.2.2.2.2.1 v y).2.1
  have g0 : hI g5 438 0 = nw h 0 := congrFun N5 0
  have wx : wr (nw h 0 + 1) = nw h 0 + 1 := wr_of (by omega) (by omega)
  have en : ∀ j, nw g7 j = if j = 0 then nw h 0 + 1 else nw h j := fun j => by rw [e7, g0, wx, nw_sI T6 (by decide) ⟨by omega, by omega⟩, N5]
  have E : VF (nw h) (nw g7) := fun i _ _ => by rw [en, if_neg (by omega)]
  have c2 : ∀ b, 8 ≤ b → b < 86 → sameC h h2 b := fun b x y => Rmb_s T r P.1 x y
  have f9 : ∀ j, ¬ j = 0 → el g7 9 j = el h 9 j := fun j n => by rw [sameC_el (H 9 (by decide) (by decide)), a9 j n, sameC_el (c2 9 (by decide) (by decide))]
  have f10 : ∀ j, ¬ j = (hI h 9 0).toNat → el g7 10 j = el h 10 j := fun j n => by rw [sameC_el (H 10 (by decide) (by decide)), (ao j n).1, sameC_el (c2 10 (by decide) (by decide))]
  have f11 : ∀ j, ¬ j = (hI h 9 0).toNat → el g7 11 j = el h 11 j := fun j n => by rw [sameC_el (H 11 (by decide) (by decide)), (ao j n).2, sameC_el (c2 11 (by decide) (by decide))]
  have er : ∀ r k, nR (nw g7) r k = nR (nw h) r k := fun r k => by unfold nR; rw [en, if_neg (by omega)]
  have G' : ∀ b, 12 ≤ b → b < 43 → sameC h g7 b := fun b x y => G b (by omega) y (by omega)
  have h40 : ∀ v, v < vc (nw h) → v < 40 := fun v y => by unfold vc at y; omega
  have nCV : CSV g7 8 (nw g7) nd := by
    refine ⟨?_, ?_, fun v hv' => ?_⟩
    · rw [sameC_I (H 9 (by decide) (by decide)), a90, en, if_pos rfl, n0]
    · rw [show hI g7 (8 + 1) 1 = hI h 9 1 from congrArg gvI (f9 1 (by decide)), en, if_neg (by decide)]
      exact C.1.2.1
    · rw [VF_c E] at hv'
      have w : ∀ k, k < 20 → nV (nw g7) v k = nV (nw h) v k := fun k hk => VF_v E (h40 v hv') hk
      obtain ⟨b1, b2, b3, b4, b5, b6, b7, b8, b9, b10, b11, b12, b13⟩ := C.1.2.2 v hv'
      rw [w 0 (by decide), w 1 (by decide), w 2 (by decide), w 3 (by decide), w 4 (by decide), w 5 (by decide), w 6 (by decide), w 7 (by decide), w 11 (by decide), w 12 (by decide), w 15 (by decide)]
      rw [sameC_I (G' (8 + 5) (by decide) (by decide)), sameC_I (G' (8 + 6) (by decide) (by decide)), sameC_I (G' (8 + 7) (by decide) (by decide)), sameC_I (G' (8 + 8) (by decide) (by decide)), sameC_I (G' (8 + 9) (by decide) (by decide)), show hL g7 (8 + 1) 10 = hL h (8 + 1) 10 from congrArg gvL (f9 10 (by decide)), sameC_R (G' (8 + 18) (by decide) (by decide)), sameC_I (G' (8 + 10) (by decide) (by decide)), sameC_I (G' (8 + 13) (by decide) (by decide)), sameC_I (G' (8 + 15) (by decide) (by decide))]
      refine ⟨b1, b2, b3, b4, b5, b6, b7.imp_right fun y => ⟨y.1, AtomR_fr X y.2⟩, b8, fun k h3 hk => ?_, b10, fun k h2 hk => ?_, b12, fun k h2 hk => ?_⟩
      · rw [w (8 + k) (by omega), sameC_R (G' (8 + 11) (by decide) (by decide)), sameC_I (G' (8 + 12) (by decide) (by decide))]
        exact ⟨AtomR_fr X (b9 k h3 hk).1, (b9 k h3 hk).2⟩
      · rw [w (13 + k) (by omega), sameC_R (G' (8 + 14) (by decide) (by decide))]
        exact AtomR_fr X (b11 k h2 hk)
      · rw [w (16 + 2 * k) (by omega), w (17 + 2 * k) (by omega), sameC_I (G' (8 + 16) (by decide) (by decide)), sameC_I (G' (8 + 17) (by decide) (by decide))]
        exact b13 k h2 hk
  have nCP : CSP g7 8 (nw g7) := by
    intro p hp'
    have epc : pc (nw g7) = pc (nw h) + 1 := by unfold pc; rw [en, if_pos rfl]; omega
    rw [epc] at hp'
    by_cases e : p = pc (nw h)
    · have ep : p = (hI h 9 0).toNat := by rw [n0]; exact e
      have z10 : hI g7 (8 + 2) p = 0 := by rw [sameC_I (H (8 + 2) (by decide) (by decide)), ep]; exact a10
      have z11 : hL g7 (8 + 3) p = bit1 (40 + p) := by rw [sameC_L (H (8 + 3) (by decide) (by decide)), ep]; exact a11
      have no : ∀ v, v < vc (nw h) → ¬ nV (nw h) v 0 = p := fun v y => by have := hv0 v y; unfold pc at e; omega
      rw [z10, z11]
      refine ⟨by decide, by decide, fun j => ?_, fun i hi => by omega, fun v hv' ev => ?_, fun i j _ hj => by omega⟩
      · rw [bit1_at (by unfold pc at e; omega), decide_eq_true_iff, VF_c E]
        constructor
        · exact .inr
        · intro y
          rcases y with ⟨y1, y2⟩ | y
          · rw [VF_v E (h40 j y1) (by decide)] at y2
            exact (no j y1 y2).elim
          · exact y
      · rw [VF_c E] at hv'
        rw [VF_v E (h40 v hv') (by decide)] at ev
        exact (no v hv' ev).elim
    · have np : ¬ p = (hI h 9 0).toNat := by rw [n0]; exact e
      have z10 : hI g7 (8 + 2) p = hI h (8 + 2) p := congrArg gvI (f10 p np)
      have z11 : hL g7 (8 + 3) p = hL h (8 + 3) p := congrArg gvL (f11 p np)
      have z12 : ∀ i, hI g7 (8 + 4) i = hI h (8 + 4) i := fun i => sameC_I (G' (8 + 4) (by decide) (by decide)) i
      obtain ⟨b1, b2, b3, b4, b5, b6⟩ := C.2.1 p (by omega)
      rw [z10, z11]
      refine ⟨b1, b2, fun j => ?_, fun i hi => ?_, fun v hv' ev => ?_, fun i j hij hj => ?_⟩
      · rw [b3 j, VF_c E]
        constructor
        · intro y
          rcases y with ⟨y1, y2⟩ | y
          · exact .inl ⟨y1, by rw [VF_v E (h40 j y1) (by decide)]; exact y2⟩
          · exact .inr y
        · intro y
          rcases y with ⟨y1, y2⟩ | y
          · rw [VF_v E (h40 j y1) (by decide)] at y2
            exact .inl ⟨y1, y2⟩
          · exact .inr y
      · obtain ⟨v, v1, v2, v3⟩ := b4 i hi
        exact ⟨v, by rw [VF_c E]; exact v1, by rw [z12]; exact v2, by rw [VF_v E (h40 v v1) (by decide)]; exact v3⟩
      · rw [VF_c E] at hv'
        rw [VF_v E (h40 v hv') (by decide)] at ev
        obtain ⟨i, i1, i2⟩ := b5 v hv' ev
        exact ⟨i, i1, by rw [z12]; exact i2⟩
      · obtain ⟨v, v1, v2, v3⟩ := b4 i (by omega)
        obtain ⟨w, w1, w2, w3⟩ := b4 j hj
        have := b6 i j hij hj
        rw [z12, z12]
        rw [v2, w2] at this ⊢
        rw [VF_v E (h40 _ (by omega)) (by decide), VF_v E (h40 _ (by omega)) (by decide)]
        exact this
  have nC : CS g7 8 (nw g7) nd := ⟨nCV, nCP, fun q hq => CSR_vf E hW.2.2.2 hv (fun k _ => er q k) (CSR_cp (fun j i w _ => sameC_el (G' _ (by omega) (by omega)) i) X (C.2.2.1 q hq)), CST_vf E hW.2.2.2 hv (fun i hi => by rw [en, if_neg (by omega)]) (CST_cp (fun j i w _ => sameC_el (G (8 + j) (by omega) (by omega) (by omega)) i) C.2.2.2)⟩
  have nW : WF (nw g7) (hI h 437 7).toNat := by
    obtain ⟨b1, b2, b3, b4, b5, b6, b7⟩ := W.1
    have w0 : nw g7 0 = nw h 0 + 1 := by rw [en, if_pos rfl]
    have w4 : nw g7 4 = nw h 4 := by rw [en, if_neg (by decide)]
    refine ⟨?_, fun q hq => ?_, ?_⟩
    · unfold WV
      rw [VF_c E, w0, w4]
      refine ⟨by omega, by omega, b3, b4, fun v hv' => ?_, fun v hv' h4 k hk => by rw [VF_v E h4 hk]; exact b6 v hv' h4 k hk, fun v w hv' hw e1 e2 => ?_⟩
      · have w : ∀ k, k < 20 → nV (nw g7) v k = nV (nw h) v k := fun k hk => VF_v E (h40 v hv') hk
        obtain ⟨c1, c2, c3, c4, c5, c6, c7, c8, c9, c10, c11, c12, c13, c14, c15, c16, c17, c18, c19, c20, c21, c22⟩ := b5 v hv'
        rw [w 0 (by decide), w 1 (by decide), w 2 (by decide), w 3 (by decide), w 5 (by decide), w 6 (by decide), w 7 (by decide), w 11 (by decide), w 12 (by decide), w 15 (by decide)]
        refine ⟨c1, by omega, c3, c4, c5, c6, c7, c8, c9, c10, c11, c12, c13, fun k h3 hk => ?_, c15, c16, c17, c18, fun k h2 hk => ?_, c20, c21, fun k h2 hk => ?_⟩
        · rw [w (8 + k) (by omega)]; exact c14 k h3 hk
        · rw [w (13 + k) (by omega)]; exact c19 k h2 hk
        · rw [w (16 + 2 * k) (by omega), w (17 + 2 * k) (by omega)]
          have := c22 k h2 hk
          exact ⟨this.1, by omega, this.2.2⟩
      · rw [VF_v E (h40 v hv') (by decide), VF_v E (h40 w hw) (by decide)] at e1 e2
        exact b7 v w hv' hw e1 e2
    · obtain ⟨d1, d2, d3, d4, d5, d6, d7, d8, d9, d10, d11⟩ := W.2.1 q hq
      unfold WRt
      rw [er q 0, er q 9, er q 22, er q 47, w0]
      refine ⟨d1, d2, fun w h8 hw => by rw [er]; exact d3 w h8 hw, d4, d5, fun p hp y => by have := d6 p hp y; omega, fun p hp => ?_, d8, d9, d10, d11⟩
      rw [er]
      exact ⟨(d7 p hp).1, (d7 p hp).2.1, fun y => (d7 p hp).2.2 (by omega)⟩
    · obtain ⟨c1, c2, c3, c4, c5, c6, c7⟩ := W.2.2
      unfold WT
      rw [en 1, if_neg (by decide), en 2, if_neg (by decide), en 3, if_neg (by decide)]
      refine ⟨c1, c2, c3, c4, c5, c6, fun m hm => ?_⟩
      obtain ⟨q1, q2, q3⟩ := c7 m hm
      rw [en, if_neg (by omega)]
      refine ⟨q1, q2, fun v hv => ?_⟩
      rw [en, if_neg (by omega), VF_c E]
      exact q3 v hv
  refine ⟨Kc nC nW, Z, ?_⟩
  have y1 : hI g7 438 0 = nw h 0 + 1 := by
    show nw g7 0 = _
    rw [en, if_pos rfl]
  rw [Y, y1, n0, wr_of (by omega) (by omega)]
  congr 1
  omega
theorem d_pack {h : XH} {nd : Nat → ND} {o u : Int} {c : Nat} (T : HT h) (R0 : Inv h nd o u c) (hc : c < 1000) {K : Int → XH → Prop} {J : XH → Prop} (k : ∀ h' o' u', HT h' → Inv h' nd o' u' (c + 1) → Gr 1 (xcs none) h h' → J h') : w_L_pack (fun x h2 => HT h2 → HX h h2 → rg x → (w_X14_pack (fun y h3 => HT h3 → HX h2 h3 → rg y → (w_X14_thrown (fun z => rg z → (((z = x → (∃ J' : Prop, (J' → (J h3)) ∧ ((¬ x = 0 → J') ∧ (¬ (¬ x = 0) → (((hL h3 467 0 = i2l y → J') ∧ (¬ (hL h3 467 0 = i2l y) → (K 0 h3)))))))) ∧ (¬ (z = x) → (K 0 h3))))) h3)) h2)) h := by
  have R := R0.1
  obtain ⟨C, W, Nt, P, B, Tp⟩ := id R
  obtain ⟨b0, p1, p2, p3, p4, p5⟩ := id P
  have L := HT_len T
  have n0 : hI h 9 0 = hI h 438 0 := C.1.1
  have w0 : 0 ≤ hI h 438 0 := (WF_b W).1
  refine c_L_pack b0 T p1 p2 B (by omega) (fun z => ?_) (fun z h2 h4 h5 r T2 s2 a T4 e5 => ?_)
  · intro t1 u1 rx
    have s := nT_s h (b := 437) (by omega)
    have s8 := nT_s h (b := 438) (by omega)
    refine c_X14_pack (q := (o + u) % 10) (u := u) (by omega) t1 (by rw [sameC_I s]; exact p4) (by rw [sameC_I s]; exact p3) (fun _ g1 g2 tg e1 e2 => ?_) (fun z' => (z (by rw [sameC_I s8] at z'; omega)).elim)
    intro t2 u2 ry
    obtain ⟨q1, q2, q3⟩ := bad_ T t1 R0 tg (rgk rfl) e1 e2
    exact fin_ q2 (fun n => by omega) (k g2 o u t2 (Inv_mono (Nat.le_succ c) q1) q3)
  · intro t1 u1 rx
    have Bs := bs_lt (k := ((o + u) % 10).toNat) (by omega)
    have l2 := r.2.1
    have c7 : sameC h h4 437 := sameC_tr (r.1 437 (by omega) (by omega)) (a.1 437 (by omega) (by decide))
    have c8 : sameC h h4 438 := sameC_tr (r.1 438 (by omega) (by omega)) (a.1 438 (by omega) (by decide))
    have s : ∀ j, el h5 437 j = el h 437 j := fun j => by rw [e5, el_ne (by decide), sameC_el c7]
    have s8 : hI h5 438 0 = hI h 438 0 := by rw [e5, hI_ne (by decide), sameC_I c8]
    refine c_X14_pack (q := (o + u) % 10) (u := u) (by omega) t1 ((congrArg gvI (s 3)).trans p4) ((congrArg gvI (s 2)).trans p3) (fun n => (n (by rw [s8]; omega)).elim) (fun _ g1 g5 g7 tg e1 r3 T6 e7 => ?_)
    intro t2 u2 ry
    obtain ⟨⟨o', u', R'⟩, Z, Y⟩ := j_pack T R z r a T4 e5 t1 e1 r3 T6 e7
    refine fin_ Z (fun _ => Y) (k g7 o' u' t2 (Inv_set T R0 hc r a.1 (fun b y => by omega) a.2.1 e5 e1 r3 (by rw [e7]; exact Fr_sV rfl) R' (fun e b => BdN_sI e7 (by omega) (by omega) (by omega) (by omega) (by omega) (WF_b W).2.2.2 e b)) ?_)
    have x1 := r.2.2.1
    have x2 := a.2.1
    have x3 := a.2.2.1
    have x4 := r3.2.1
    have x5 := r3.2.2.1
    rw [e1, len_sV, e5, len_sV] at x4
    rw [e1, xhs_sV, e5, xhs_sV] at x5
    rw [e7]
    exact ⟨by rw [len_sV]; omega, by rw [xhs_sV]; omega⟩
