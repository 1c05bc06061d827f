/-! VERSION, the calls -/
set_option maxHeartbeats 1000000 in
theorem c_X8_hasRoomIn {p : Nat} {h : XH} {N : Nat → Int} {nd : Nat → ND} {m : Nat} (T : HT h) (C : CS h 8 N nd) (W : WF N m) (hp : (p : Int) < N 0) {K : Int → Prop} (k : ∀ x, bq x (N 4 < 40 ∧ (vsl N p).length < 8) → K x) : w_X8_hasRoomIn (p : Int) K h := by
  unfold w_X8_hasRoomIn
  have n12 := W.1.2.1
  have w0 := W.1.1
  have c9 := (V80 C.1).2
  obtain ⟨c10, c10b, -⟩ := vsl_C W.1 C.2.1 (p := p) (by unfold pc; omega)
  refine ⟨fun x => bq x (N 4 < 40 ∧ (vsl N p).length < 8), ?_, ?_⟩
  · intro x1 rx1 z2
    refine ⟨(by rcases z2 with y | y; exact .inr y.1; exact .inl y.1), ?_⟩
    exact k _ z2
  · refine ⟨¬ (N 4 < 40 ∧ (vsl N p).length < 8), ?_, ?_⟩
    · intro z4
      exact bqF z4
    · refine ⟨fun c7 => ?_, fun c7 => ?_⟩
      · intro y; omega
      · refine ⟨(by omega), ?_⟩
        refine ⟨fun c6 => ?_, fun c6 => ?_⟩
        · rw [Int.toNat_natCast] at c6
          intro y; omega
        · rw [Int.toNat_natCast] at c6
          exact bqT ⟨by omega, by omega⟩
set_option maxHeartbeats 4000000 in
theorem c_X8_addVersion {p0 p1 p2 p3 p4 : Int} {h : XH} {N : Nat → Int} {nd : Nat → ND} {m : Nat} (T : HT h) (C : CS h 8 N nd) (W : WF N m) (r2 : rg p2) (r4 : rg p4) (q1 : (0 ≤ p0 ∧ p0 < N 0)) (q2 : ((0 ≤ p1 ∧ p1 < 1000000 ∧ ¬ p1 % 100 = 0) ∧ 0 ≤ p2 ∧ 0 ≤ p3 ∧ p3 ≤ 1000)) (q3 : (slotF N p0 p1 = -1 ∧ (vsl N p0.toNat).length < 8 ∧ N 4 < 40)) {K : Int → XH → Prop} (k : ∀ g, Fr (fun b => (9 ≤ b ∧ b < 19) ∨ b = 21 ∨ b = 23 ∨ b = 26) h g → g.length = h.length → xhs g = xhs h → CS g 8 (verN N p0 p1 p2 p3 p4) nd → K (((vsl N p0.toNat).length : Int) + 1) g) : w_X8_addVersion p0 p1 p2 p3 p4 K h := by
  unfold w_X8_addVersion
  obtain ⟨p, ep⟩ : ∃ p : Nat, p0 = (p : Int) := ⟨p0.toNat, by omega⟩
  have pN : p0.toNat = p := by omega
  have n12 := W.1.2.1
  have w3 := W.1.2.2.1
  have v40 : vc N < 40 := by unfold vc; omega
  have vcN : (vc N : Int) = N 4 := by unfold vc; omega
  have c9 := (V80 C.1).2
  rw [pN] at q3 k
  obtain ⟨c10, c10b, c12⟩ := vsl_C W.1 C.2.1 (p := p) (by unfold pc; omega)
  have L := HT_len T
  intro x1 ex1 rx1
  rw [c9] at ex1
  intro h2 eh2 t2 u2
  rw [c9, wr_of (by omega) (by omega)] at eh2
  refine ⟨(by omega), ?_⟩
  intro h4 eh4 t4 u4
  have ev : x1.toNat = vc N := by omega
  rw [ev] at eh4 ⊢
  intro h5 eh5 t5 u5
  intro h6 eh6 t6 u6
  intro h7 eh7 t7 u7
  intro h8 eh8 t8 u8
  intro h9 eh9 t9 u9
  intro h10 eh10 t10 u10
  intro h11 eh11 t11 u11
  intro h12 eh12 t12 u12
  intro h13 eh13 t13 u13
  refine ⟨(by omega), ?_⟩
  intro h15 eh15 t15 u15
  rw [pN] at eh15
  rw [show x1 = (vc N : Int) by omega] at eh9 eh15
  rw [lshl1 (by omega)] at eh15
  have f13 : ∀ w, hI h15 13 w = if w = vc N then p0 else hI h 13 w := fun w => by
    rw [eh15, hI_ne (by decide), eh13, hI_ne (by decide), eh12, hI_ne (by decide), eh11, hI_ne (by decide), eh10, hI_ne (by decide), eh9, hI_ne (by decide), eh8, hI_ne (by decide), eh7, hI_ne (by decide), eh6, hI_ne (by decide), eh5, hI_ne (by decide), eh4]
    by_cases c : w = vc N
    · rw [if_pos c, c]; exact hI_eq (by rw [lyn (c := 100) (n := 40) t2 rfl]; omega) (by first | exact rgk rfl | assumption | (unfold rg; omega))
    · rw [if_neg c, hI_ni (fun z => c z.symm), eh2, hI_ne (by decide)]
  have f14 : ∀ w, hI h15 14 w = if w = vc N then p1 else hI h 14 w := fun w => by
    rw [eh15, hI_ne (by decide), eh13, hI_ne (by decide), eh12, hI_ne (by decide), eh11, hI_ne (by decide), eh10, hI_ne (by decide), eh9, hI_ne (by decide), eh8, hI_ne (by decide), eh7, hI_ne (by decide), eh6, hI_ne (by decide), eh5]
    by_cases c : w = vc N
    · rw [if_pos c, c]; exact hI_eq (by rw [lyn (c := 100) (n := 40) t4 rfl]; omega) (by first | exact rgk rfl | assumption | (unfold rg; omega))
    · rw [if_neg c, hI_ni (fun z => c z.symm), eh4, hI_ne (by decide), eh2, hI_ne (by decide)]
  have f15 : ∀ w, hI h15 15 w = if w = vc N then p2 else hI h 15 w := fun w => by
    rw [eh15, hI_ne (by decide), eh13, hI_ne (by decide), eh12, hI_ne (by decide), eh11, hI_ne (by decide), eh10, hI_ne (by decide), eh9, hI_ne (by decide), eh8, hI_ne (by decide), eh7, hI_ne (by decide), eh6]
    by_cases c : w = vc N
    · rw [if_pos c, c]; exact hI_eq (by rw [lyn (c := 100) (n := 40) t5 rfl]; omega) (by first | exact rgk rfl | assumption | (unfold rg; omega))
    · rw [if_neg c, hI_ni (fun z => c z.symm), eh5, hI_ne (by decide), eh4, hI_ne (by decide), eh2, hI_ne (by decide)]
  have f16 : ∀ w, hI h15 16 w = if w = vc N then p3 else hI h 16 w := fun w => by
    rw [eh15, hI_ne (by decide), eh13, hI_ne (by decide), eh12, hI_ne (by decide), eh11, hI_ne (by decide), eh10, hI_ne (by decide), eh9, hI_ne (by decide), eh8, hI_ne (by decide), eh7]
    by_cases c : w = vc N
    · rw [if_pos c, c]; exact hI_eq (by rw [lyn (c := 100) (n := 40) t6 rfl]; omega) (by first | exact rgk rfl | assumption | (unfold rg; omega))
    · rw [if_neg c, hI_ni (fun z => c z.symm), eh6, hI_ne (by decide), eh5, hI_ne (by decide), eh4, hI_ne (by decide), eh2, hI_ne (by decide)]
  have f17 : ∀ w, hI h15 17 w = if w = vc N then p4 else hI h 17 w := fun w => by
    rw [eh15, hI_ne (by decide), eh13, hI_ne (by decide), eh12, hI_ne (by decide), eh11, hI_ne (by decide), eh10, hI_ne (by decide), eh9, hI_ne (by decide), eh8]
    by_cases c : w = vc N
    · rw [if_pos c, c]; exact hI_eq (by rw [lyn (c := 100) (n := 40) t7 rfl]; omega) (by first | exact rgk rfl | assumption | (unfold rg; omega))
    · rw [if_neg c, hI_ni (fun z => c z.symm), eh7, hI_ne (by decide), eh6, hI_ne (by decide), eh5, hI_ne (by decide), eh4, hI_ne (by decide), eh2, hI_ne (by decide)]
  have f18 : ∀ w, hI h15 18 w = if w = vc N then 0 else hI h 18 w := fun w => by
    rw [eh15, hI_ne (by decide), eh13, hI_ne (by decide), eh12, hI_ne (by decide), eh11, hI_ne (by decide), eh10]
    by_cases c : w = vc N
    · rw [if_pos c, c]; exact hI_eq (by rw [lyn (c := 100) (n := 40) t9 rfl]; omega) (by first | exact rgk rfl | assumption | (unfold rg; omega))
    · rw [if_neg c, hI_ni (fun z => c z.symm), eh9, hI_ne (by decide), eh8, hI_ne (by decide), eh7, hI_ne (by decide), eh6, hI_ne (by decide), eh5, hI_ne (by decide), eh4, hI_ne (by decide), eh2, hI_ne (by decide)]
  have f21 : ∀ w, hI h15 21 w = if w = vc N then 0 else hI h 21 w := fun w => by
    rw [eh15, hI_ne (by decide), eh13, hI_ne (by decide), eh12, hI_ne (by decide), eh11]
    by_cases c : w = vc N
    · rw [if_pos c, c]; exact hI_eq (by rw [lyn (c := 100) (n := 40) t10 rfl]; omega) (by first | exact rgk rfl | assumption | (unfold rg; omega))
    · rw [if_neg c, hI_ni (fun z => c z.symm), eh10, hI_ne (by decide), eh9, hI_ne (by decide), eh8, hI_ne (by decide), eh7, hI_ne (by decide), eh6, hI_ne (by decide), eh5, hI_ne (by decide), eh4, hI_ne (by decide), eh2, hI_ne (by decide)]
  have f23 : ∀ w, hI h15 23 w = if w = vc N then 0 else hI h 23 w := fun w => by
    rw [eh15, hI_ne (by decide), eh13, hI_ne (by decide), eh12]
    by_cases c : w = vc N
    · rw [if_pos c, c]; exact hI_eq (by rw [lyn (c := 100) (n := 40) t11 rfl]; omega) (by first | exact rgk rfl | assumption | (unfold rg; omega))
    · rw [if_neg c, hI_ni (fun z => c z.symm), eh11, hI_ne (by decide), eh10, hI_ne (by decide), eh9, hI_ne (by decide), eh8, hI_ne (by decide), eh7, hI_ne (by decide), eh6, hI_ne (by decide), eh5, hI_ne (by decide), eh4, hI_ne (by decide), eh2, hI_ne (by decide)]
  have f26 : ∀ w, hR h15 26 w = if w = vc N then 0 else hR h 26 w := fun w => by
    rw [eh15, hR_ne (by decide), eh13]
    by_cases c : w = vc N
    · rw [if_pos c, c]; exact hR_eq (by rw [lyn (c := 103) (n := 40) t12 rfl]; omega)
    · rw [if_neg c, hR_ni (fun z => c z.symm), eh12, hR_ne (by decide), eh11, hR_ne (by decide), eh10, hR_ne (by decide), eh9, hR_ne (by decide), eh8, hR_ne (by decide), eh7, hR_ne (by decide), eh6, hR_ne (by decide), eh5, hR_ne (by decide), eh4, hR_ne (by decide), eh2, hR_ne (by decide)]
  have f9 : hI h15 9 0 = hI h 9 0 ∧ hI h15 9 1 = N 4 + 1 := by
    have e9 : ∀ j, ¬ j = 10 → el h15 9 j = el h2 9 j := fun j n => by rw [eh15, el_ne (by decide), eh13, el_ne (by decide), eh12, el_ne (by decide), eh11, el_ne (by decide), eh10, el_ne (by decide), eh9, el_ni (fun z => n z.symm), eh8, el_ne (by decide), eh7, el_ne (by decide), eh6, el_ne (by decide), eh5, el_ne (by decide), eh4, el_ne (by decide)]
    refine ⟨(congrArg gvI (e9 0 (by decide))).trans (by rw [show gvI (el h2 9 0) = hI h2 9 0 from rfl, eh2, hI_ni (by decide)]), (congrArg gvI (e9 1 (by decide))).trans ?_⟩
    show hI h2 9 1 = _
    rw [eh2]
    exact hI_eq (hn_obj T (lyk (n := 20) T rfl) rfl rfl) (by unfold rg; omega)
  have f9f : ∀ w, w < 40 → (hL h15 9 10).getLsbD w = ((hL h 9 10).getLsbD w && !decide (w = vc N)) := fun w hw => by
    have o9 : hL h8 9 10 = hL h 9 10 := by rw [eh8, hL_ne (by decide), eh7, hL_ne (by decide), eh6, hL_ne (by decide), eh5, hL_ne (by decide), eh4, hL_ne (by decide), eh2, hL_ni (by decide)]
    rw [eh15, hL_ne (by decide), eh13, hL_ne (by decide), eh12, hL_ne (by decide), eh11, hL_ne (by decide), eh10, hL_ne (by decide), eh9, hL_eq (hn_obj t8 (lyk (n := 20) t8 rfl) rfl rfl), clr_at (by omega) (by omega), o9]
  have f11 : ∀ q, hL h15 11 q = if q = p then hL h 11 q ||| bit1 (vc N) else hL h 11 q := fun q => by
    have o11 : ∀ q, hL h13 11 q = hL h 11 q := fun q => by rw [eh13, hL_ne (by decide), eh12, hL_ne (by decide), eh11, hL_ne (by decide), eh10, hL_ne (by decide), eh9, hL_ne (by decide), eh8, hL_ne (by decide), eh7, hL_ne (by decide), eh6, hL_ne (by decide), eh5, hL_ne (by decide), eh4, hL_ne (by decide), eh2, hL_ne (by decide)]
    rw [eh15]
    by_cases c : q = p
    · rw [if_pos c, c, hL_eq (by rw [lyn (c := 101) (n := 12) t13 rfl]; omega), o11]
    · rw [if_neg c, hL_ni (fun z => c z.symm), o11]
  have so : ∀ b, ¬ (b = 9 ∨ b = 11 ∨ (13 ≤ b ∧ b < 19) ∨ b = 21 ∨ b = 23 ∨ b = 26) → sameC h h15 b := fun b n => by
    rw [eh15, eh13, eh12, eh11, eh10, eh9, eh8, eh7, eh6, eh5, eh4, eh2]
    have s : ∀ {g : XH} {a i : Nat} {v : Value}, (a = 9 ∨ a = 11 ∨ (13 ≤ a ∧ a < 19) ∨ a = 21 ∨ a = 23 ∨ a = 26) → sameC g (sV g a i v) b := fun y => sameC_sV (fun z => n (z ▸ y))
    exact sameC_tr (s (by decide)) (sameC_tr (s (by decide)) (sameC_tr (s (by decide)) (sameC_tr (s (by decide)) (sameC_tr (s (by decide)) (sameC_tr (s (by decide)) (sameC_tr (s (by decide)) (sameC_tr (s (by decide)) (sameC_tr (s (by decide)) (sameC_tr (s (by decide)) (sameC_tr (s (by decide)) (s (by decide))))))))))))
  have l15 : h15.length = h.length := by rw [eh15, eh13, eh12, eh11, eh10, eh9, eh8, eh7, eh6, eh5, eh4, eh2]; simp only [len_sV]
  have y15 : xhs h15 = xhs h := by rw [eh15, eh13, eh12, eh11, eh10, eh9, eh8, eh7, eh6, eh5, eh4, eh2]; simp only [xhs_sV]
  have s10 := so 10 (by decide)
  have s12 := so 12 (by decide)
  have rw_ : ∀ i, i < (vsl N p).length → ∃ v, v < vc N ∧ hI h 12 (8 * p + i) = (v : Nat) ∧ nV N v 0 = p := fun i hi => C.2.1 p (by unfold pc; omega) |>.2.2.2.1 i (by have := c10; show (i : Int) < hI h 10 p; omega)
  rw [ep, show x1 = (vc N : Int) by omega]
  refine c_X8_putByAge (n := (vsl N p).length) t15 (by omega) v40 (by rw [sameC_I s10]; exact c10) q3.2.1 (fun i hi => by rw [sameC_I s12]; obtain ⟨v, hv, e, -⟩ := rw_ i hi; omega) ?_
  intro h16 j jn F16 l16 y16 g10 g12 hgt hlt
  intro t16 u16
  have o16 : ∀ b, b < 437 → ¬ b = 10 → ¬ b = 12 → sameC h15 h16 b := fun b hb n1 n2 => F16 b (by omega) (by omega)
  have c14 : ∀ w, w < vc N → hI h15 14 w = nV N w 1 := fun w hw => by rw [f14, if_neg (by omega)]; exact (V8 C.1 hw).2.1
  have cv : hI h15 14 (vc N) = p1 := by rw [f14, if_pos rfl]
  have X : ∀ a, hk h a = 1 ∨ hk h a = 11 → sameC h h16 a := fun a ha => by
    have n : ¬ a < 468 := fun z => noTxt T z ha
    have la : a < h.length := by rcases ha with z | z <;> exact hk_lt z (by decide)
    exact sameC_tr (so a (by omega)) (F16 a (by omega) (by omega))
  have CN := CS_newV (g := h16) (e := p4) (j := j) (n := (vsl N p).length) C W q3.2.2 ep (by omega) q2.1 q2.2.1 ⟨q2.2.2.1, q2.2.2.2⟩ q3.1 c10 q3.2.1 jn (fun c _ _ hc => sameC_tr (so c (by omega)) (o16 c (by omega) (by omega) (by omega))) X
    ⟨by rw [sameC_I (o16 9 (by decide) (by decide) (by decide))]; exact f9.1, by rw [sameC_I (o16 9 (by decide) (by decide) (by decide))]; exact f9.2⟩ (fun w hw => by rw [sameC_L (o16 9 (by decide) (by decide) (by decide))]; exact f9f w hw)
    (fun w => by rw [sameC_I (o16 13 (by decide) (by decide) (by decide))]; exact f13 w) (fun w => by rw [sameC_I (o16 14 (by decide) (by decide) (by decide))]; exact f14 w) (fun w => by rw [sameC_I (o16 15 (by decide) (by decide) (by decide))]; exact f15 w) (fun w => by rw [sameC_I (o16 16 (by decide) (by decide) (by decide))]; exact f16 w) (fun w => by rw [sameC_I (o16 17 (by decide) (by decide) (by decide))]; exact f17 w)
    (fun w => by rw [sameC_I (o16 18 (by decide) (by decide) (by decide))]; exact f18 w) (fun w => by rw [sameC_I (o16 21 (by decide) (by decide) (by decide))]; exact f21 w) (fun w => by rw [sameC_I (o16 23 (by decide) (by decide) (by decide))]; exact f23 w) (fun w => by rw [sameC_R (o16 26 (by decide) (by decide) (by decide))]; exact f26 w)
    (fun q => by rw [sameC_L (o16 11 (by decide) (by decide) (by decide))]; exact f11 q) (fun q => by rw [g10 q, sameC_I s10]) (fun i => by rw [g12 i, sameC_I s12, sameC_I s12]) (fun i h1 h2 => by
      have := hgt i h1 h2
      obtain ⟨v, hv, e, -⟩ := rw_ i h2
      rw [cv, sameC_I s12, e, Int.toNat_natCast, c14 v hv] at this
      rw [e, Int.toNat_natCast]; exact this) (fun h0 => by
      have := hlt h0
      obtain ⟨v, hv, e, -⟩ := rw_ (j - 1) (by omega)
      rw [cv, sameC_I s12, e, Int.toNat_natCast, c14 v hv] at this
      rw [e, Int.toNat_natCast]; exact this)
  rw [Int.toNat_natCast, g10 p, if_pos rfl]
  exact k h16 (fun b hb n => sameC_tr (so b (by omega)) (F16 b (by omega) (by omega))) (by omega) (by omega) (by rw [← ep] at *; exact CN)
