/-! INSTALL: what is set -/
def whyN (N : Nat → Int) (r : Nat) (a b c : Int) : Nat → Int := updN (updN (updN N (805 + 291 * r + 288) a) (805 + 291 * r + 289) b) (805 + 291 * r + 290) c
def cuN (N : Nat → Int) (k : Nat) : Nat → Int := updN N (1714 + 81 * k) (N (1714 + 81 * k) + 1)
def feN (N : Nat → Int) : Nat → Int := updN N 2 (N 2 + 1)
def entN (N : Nat → Int) (r : Nat) : Nat → Int := updN (putF (putF N (805 + 291 * r + 23) (goal N r)) (805 + 291 * r + 48 + 12 * ((nR N r 47).toNat % 20)) (goal N r)) (805 + 291 * r + 47) (nR N r 47 + 1)
theorem why_at {N : Nat → Int} {r : Nat} {a b c : Int} : ∀ i, ¬ (805 + 291 * r + 288 ≤ i ∧ i ≤ 805 + 291 * r + 290) → whyN N r a b c i = N i := fun i n => by unfold whyN; rw [updN_ne (by omega), updN_ne (by omega), updN_ne (by omega)]
theorem why_3 {N : Nat → Int} {r : Nat} {a b c : Int} : nR (whyN N r a b c) r 288 = a ∧ nR (whyN N r a b c) r 289 = b ∧ nR (whyN N r a b c) r 290 = c := by
  unfold nR whyN
  exact ⟨by rw [updN_ne (by omega), updN_ne (by omega), updN_eq], by rw [updN_ne (by omega), updN_eq], updN_eq⟩
theorem why_why {N : Nat → Int} {r : Nat} {a b c x y z : Int} : whyN (whyN N r a b c) r x y z = whyN N r x y z := by
  funext i
  by_cases h : 805 + 291 * r + 288 ≤ i ∧ i ≤ 805 + 291 * r + 290
  · have : i = 805 + 291 * r + 288 ∨ i = 805 + 291 * r + 289 ∨ i = 805 + 291 * r + 290 := by omega
    rcases this with e | e | e
    · rw [e]; exact (why_3 (N := whyN N r a b c)).1.trans (why_3 (N := N)).1.symm
    · rw [e]; exact (why_3 (N := whyN N r a b c)).2.1.trans (why_3 (N := N)).2.1.symm
    · rw [e]; exact (why_3 (N := whyN N r a b c)).2.2.trans (why_3 (N := N)).2.2.symm
  · rw [why_at i h, why_at i h, why_at i h]
theorem E8_why {N : Nat → Int} {r : Nat} {a b c : Int} : E8 N (whyN N r a b c) := fun i h _ => why_at i (by omega)
theorem cu_at {N : Nat → Int} {k : Nat} : ∀ i, ¬ i = 1714 + 81 * k → cuN N k i = N i := fun i m => updN_ne m
theorem cu_k {N : Nat → Int} {k : Nat} : cuN N k (1714 + 81 * k) = N (1714 + 81 * k) + 1 := updN_eq
theorem fe_at {N : Nat → Int} : ∀ i, ¬ i = 2 → feN N i = N i := fun i m => updN_ne m
theorem fe_2 {N : Nat → Int} : feN N 2 = N 2 + 1 := updN_eq
theorem E8_cu {N : Nat → Int} {k : Nat} : E8 N (cuN N k) := fun i h n => cu_at i (by omega)
theorem E8_fe {N : Nat → Int} : E8 N (feN N) := fun i h n => fe_at i n
theorem cu_why {N : Nat → Int} {r k : Nat} {a b c : Int} (hr : r < 3) : cuN (whyN N r a b c) k = whyN (cuN N k) r a b c := by
  funext i
  by_cases h : 805 + 291 * r + 288 ≤ i ∧ i ≤ 805 + 291 * r + 290
  · rw [cu_at i (by omega)]
    have : i = 805 + 291 * r + 288 ∨ i = 805 + 291 * r + 289 ∨ i = 805 + 291 * r + 290 := by omega
    rcases this with e | e | e
    · rw [e]; exact (why_3 (N := N)).1.trans (why_3 (N := cuN N k)).1.symm
    · rw [e]; exact (why_3 (N := N)).2.1.trans (why_3 (N := cuN N k)).2.1.symm
    · rw [e]; exact (why_3 (N := N)).2.2.trans (why_3 (N := cuN N k)).2.2.symm
  · rw [why_at i h]
    by_cases h3 : i = 1714 + 81 * k
    · rw [h3, cu_k, cu_k, why_at _ (by omega)]
    · rw [cu_at i h3, cu_at i h3, why_at i h]
theorem fe_why {N : Nat → Int} {r : Nat} {a b c : Int} : feN (whyN N r a b c) = whyN (feN N) r a b c := by
  funext i
  by_cases h : 805 + 291 * r + 288 ≤ i ∧ i ≤ 805 + 291 * r + 290
  · rw [fe_at i (by omega)]
    have : i = 805 + 291 * r + 288 ∨ i = 805 + 291 * r + 289 ∨ i = 805 + 291 * r + 290 := by omega
    rcases this with e | e | e
    · rw [e]; exact (why_3 (N := N)).1.trans (why_3 (N := feN N)).1.symm
    · rw [e]; exact (why_3 (N := N)).2.1.trans (why_3 (N := feN N)).2.1.symm
    · rw [e]; exact (why_3 (N := N)).2.2.trans (why_3 (N := feN N)).2.2.symm
  · rw [why_at i h]
    by_cases h2 : i = 2
    · rw [h2, fe_2, fe_2, why_at 2 (by omega)]
    · rw [fe_at i h2, fe_at i h2, why_at i h]
theorem ent_at {N : Nat → Int} {r : Nat} : ∀ i, ¬ (805 + 291 * r + 23 ≤ i ∧ i < 805 + 291 * r + 35) → ¬ (805 + 291 * r + 47 ≤ i ∧ i < 805 + 291 * r + 288) → entN N r i = N i := fun i n m => by
  unfold entN
  have := Nat.mod_lt (nR N r 47).toNat (show 20 > 0 by decide)
  rw [updN_ne (by omega), putF_out (by omega), putF_out (by omega)]
theorem E8_ent {N : Nat → Int} {r : Nat} : E8 N (entN N r) := fun i h _ => ent_at i (by omega) (by omega)
theorem ent_i {N : Nat → Int} {r p : Nat} (hp : p < 12) : inst (entN N r) r p = goal N r p := by
  unfold inst entN
  have := Nat.mod_lt (nR N r 47).toNat (show 20 > 0 by decide)
  show updN _ _ _ (805 + 291 * r + (23 + p)) = _
  rw [updN_ne (by omega), putF_out (by omega), ← Nat.add_assoc, putF_in hp]
theorem ent_47 {N : Nat → Int} {r : Nat} : nR (entN N r) r 47 = nR N r 47 + 1 := updN_eq
theorem ent_h {N : Nat → Int} {r i p : Nat} (hp : p < 12) (hi : i < 20) : nR (entN N r) r (48 + 12 * i + p) = if i = (nR N r 47).toNat % 20 then goal N r p else nR N r (48 + 12 * i + p) := by
  unfold entN
  have := Nat.mod_lt (nR N r 47).toNat (show 20 > 0 by decide)
  show updN _ _ _ (805 + 291 * r + (48 + 12 * i + p)) = _
  rw [updN_ne (by omega)]
  by_cases c : i = (nR N r 47).toNat % 20
  · rw [if_pos c, show 805 + 291 * r + (48 + 12 * i + p) = (805 + 291 * r + 48 + 12 * ((nR N r 47).toNat % 20)) + p by omega, putF_in hp]
  · rw [if_neg c, putF_out (by omega), putF_out (by omega)]; rfl
theorem CS_why {h h1 h2 g : XH} {N : Nat → Int} {nd : Nat → ND} {m r : Nat} {a b c : Int} (T : HT h) (C : CS h 8 N nd) (W : WF N m) (hr : r < 3) (ra : rg a) (rb_ : rg b) (rc_ : rg c) (T1 : HT h1) (T2 : HT h2) (e1 : h1 = sI h (rc r) 9 a) (e2 : h2 = sI h1 (rc r) 10 b) (e3 : g = sI h2 (rc r) 11 c) : CS g 8 (whyN N r a b c) nd ∧ WF (whyN N r a b c) m := by
  have rb := rc_lt hr
  have hW := WF_b W
  have hv := WV_hp W.1
  have G : ∀ c, 8 ≤ c → c < 43 → ¬ c = rc r → sameC h g c := fun c _ _ n => by rw [e3, e2, e1]; exact sameC_tr (sameC_sV (fun z => n z.symm)) (sameC_tr (sameC_sV (fun z => n z.symm)) (sameC_sV (fun z => n z.symm)))
  have X : ∀ a, hk h a = 1 ∨ hk h a = 11 → sameC h g a := fun a ha => by
    have n : ¬ a < 468 := fun z => noTxt T z ha
    rw [e3, e2, e1]; exact sameC_tr (sameC_sV (by omega)) (sameC_tr (sameC_sV (by omega)) (sameC_sV (by omega)))
  have cI : ∀ i, i < 9 → hI g (rc r) i = hI h (rc r) i := fun i n => by rw [e3, hI_ni (by omega), e2, hI_ni (by omega), e1, hI_ni (by omega)]
  have cL : ∀ i, i < 9 → hL g (rc r) i = hL h (rc r) i := fun i n => by rw [e3, hL_ni (by omega), e2, hL_ni (by omega), e1, hL_ni (by omega)]
  have en : ∀ j, ¬ (805 + 291 * r + 288 ≤ j ∧ j ≤ 805 + 291 * r + 290) → whyN N r a b c j = N j := fun j n => why_at j n
  have E : VE N (whyN N r a b c) := fun i _ _ => en i (by omega)
  have er : ∀ k, k < 288 → nR (whyN N r a b c) r k = nR N r k := fun k n => en _ (by omega)
  obtain ⟨w1, w2, w3⟩ := why_3 (N := N) (r := r) (a := a) (b := b) (c := c)
  obtain ⟨a1, a2, a3, a4, a5, a6, a7, a8, a9, a10, a11, a12⟩ := R8 (C.2.2.1 r hr)
  refine CS_one hr (fun c x y n => G c x y (by omega)) X W (fun i n => en i (by omega)) C ?_ ?_
  · refine R8_mk ⟨?_, fun w h8 hw => ?_, ?_, fun p hp => ?_, ?_, ?_, ?_, ?_, fun i hi hw => ?_, ?_, ?_, ?_⟩
    · rw [cI 0 (by decide), er 0 (by omega)]; exact a1
    · rw [er 0 (by omega)] at hw
      rw [er (1 + w) (by omega), sameC_R (G (rc r + 1) (by omega) (by omega) (by omega))]
      exact (a2 w h8 hw).imp_right fun y => ⟨y.1, AtomR_fr X y.2⟩
    · rw [cI 2 (by decide), er 9 (by omega)]; exact a3
    · rw [er (10 + p) (by omega), sameC_R (G (rc r + 2) (by omega) (by omega) (by omega))]
      exact (a4 p hp).imp_right fun y => ⟨y.1, SpanR_fr X y.2⟩
    · rw [cI 4 (by decide), er 22 (by omega)]; exact a5
    · rw [cL 5 (by decide)]; exact SetR_ve E hW.2.2.2 (fun p hp => er _ (by omega)) hv a6
    · rw [cL 6 (by decide)]; exact SetR_ve E hW.2.2.2 (fun p hp => er _ (by omega)) hv a7
    · rw [cI 7 (by decide), er 47 (by omega)]; exact a8
    · rw [er 47 (by omega)] at hw
      rw [sameC_L (G (rc r + 3) (by omega) (by omega) (by omega))]
      exact SetR_ve E hW.2.2.2 (fun p hp => er _ (by omega)) hv (a9 i hi hw)
    · rw [w1, e3, hI_ni (by decide), e2, hI_ni (by decide), e1]; exact hI_eq (hn_obj T (rc_k T hr) rfl rfl) ra
    · rw [w2, e3, hI_ni (by decide), e2]; exact hI_eq (hn_obj T1 (rc_k T1 hr) rfl rfl) rb_
    · rw [w3, e3]; exact hI_eq (hn_obj T2 (rc_k T2 hr) rfl rfl) rc_
  · obtain ⟨d1, d2, d3, d4, d5, d6, d7, d8, d9, d10, d11⟩ := W.2.1 r hr
    unfold WRt
    rw [er 0 (by omega), er 9 (by omega), er 47 (by omega), er 22 (by omega), E 0 (by omega) (by omega)]
    refine ⟨d1, d2, fun w h8 hw => ?_, d4, d5, d6, fun p hp => ?_, d8, d9, d10, d11⟩
    · rw [er (1 + w) (by omega)]; exact d3 w h8 hw
    · rw [er (10 + p) (by omega)]; exact d7 p hp
theorem WF_why {N : Nat → Int} {m r : Nat} {a b c : Int} (W : WF N m) (hr : r < 3) : WF (whyN N r a b c) m := by
  have E : VE N (whyN N r a b c) := fun i _ _ => why_at i (by omega)
  refine ⟨WV_ve E W.1, fun q hq => ?_, WT_ve E (fun i hi => why_at i (by omega)) W.2.2⟩
  by_cases c : q = r
  · subst c
    obtain ⟨d1, d2, d3, d4, d5, d6, d7, d8, d9, d10, d11⟩ := W.2.1 q hr
    have er : ∀ k, k < 288 → nR (whyN N q a b c) q k = nR N q k := fun k n => why_at _ (by omega)
    unfold WRt
    rw [er 0 (by omega), er 9 (by omega), er 47 (by omega), er 22 (by omega), E 0 (by omega) (by omega)]
    refine ⟨d1, d2, fun w h8 hw => ?_, d4, d5, d6, fun p hp => ?_, d8, d9, d10, d11⟩
    · rw [er (1 + w) (by omega)]; exact d3 w h8 hw
    · rw [er (10 + p) (by omega)]; exact d7 p hp
  · exact WRt_ve E (fun k hk => why_at _ (by omega)) (W.2.1 q hq)
theorem WF_cu {N : Nat → Int} {m k : Nat} (W : WF N m) (k3 : k < 3) (lk : N (1714 + 81 * k) < 100000) : WF (cuN N k) m := by
  have E : VE N (cuN N k) := fun i _ n => cu_at i (by omega)
  refine ⟨WV_ve E W.1, fun q hq => WRt_ve E (fun j hj => cu_at _ (by omega)) (W.2.1 q hq), ?_⟩
  obtain ⟨t1, t2, t3, t4, t5, t6, t7⟩ := W.2.2
  unfold WT
  rw [cu_at 1 (by omega), cu_at 3 (by omega), cu_at 2 (by omega), VE_c E]
  refine ⟨t1, t2, t3, t4, t5, t6, fun j hj => ?_⟩
  obtain ⟨y1, y2, y3⟩ := t7 j hj
  refine ⟨?_, ?_, fun v hv => by rw [cu_at _ (by omega)]; exact y3 v hv⟩
  · by_cases c : j = k
    · rw [c, cu_k]; rw [c] at y1; omega
    · rw [cu_at _ (by omega)]; exact y1
  · by_cases c : j = k
    · rw [c, cu_k]; omega
    · rw [cu_at _ (by omega)]; exact y2
theorem WF_fe {N : Nat → Int} {m : Nat} (W : WF N m) (l2 : N 2 < 12000) : WF (feN N) m := by
  have E : VE N (feN N) := fun i _ n => fe_at i (by omega)
  refine ⟨WV_ve E W.1, fun q hq => WRt_ve E (fun j hj => fe_at _ (by omega)) (W.2.1 q hq), ?_⟩
  obtain ⟨t1, t2, t3, t4, t5, t6, t7⟩ := W.2.2
  unfold WT
  rw [fe_at 1 (by decide), fe_at 3 (by decide), fe_2, VE_c E]
  exact ⟨t1, t2, by omega, by omega, t5, t6, fun j hj => by
    rw [fe_at _ (by omega)]
    exact ⟨(t7 j hj).1, (t7 j hj).2.1, fun v hv => by rw [fe_at _ (by omega)]; exact (t7 j hj).2.2 v hv⟩⟩
theorem CS_cu {h g : XH} {N : Nat → Int} {nd : Nat → ND} {m k : Nat} (T : HT h) (C : CS h 8 N nd) (W : WF N m) (k3 : k < 3) (lk : N (1714 + 81 * k) < 100000) (e1 : g = sI h 40 k (N (1714 + 81 * k) + 1)) : CS g 8 (cuN N k) nd := by
  have hW := WF_b W
  have hv := WV_hp W.1
  have t2 := W.2.2
  have E : VE N (cuN N k) := fun i _ n => cu_at i (by omega)
  have G : ∀ c, ¬ c = 40 → sameC h g c := fun c m => by rw [e1]; exact sameC_sV (fun z => m z.symm)
  have X : ∀ a, hk h a = 1 ∨ hk h a = 11 → sameC h g a := fun a ha => by
    have n : ¬ a < 468 := fun z => noTxt T z ha
    exact G a (by omega)
  have s8 : sameC h g 8 := G 8 (by decide)
  obtain ⟨y1, y2, y3, y4, y5⟩ := C.2.2.2
  refine ⟨CSV_ve E hW.2.2.2 (CSV_cp (fun j i w x _ => sameC_el (G (8 + j) (by omega)) i) X hW C.1), CSP_ve E hW.2.2.2 (CSP_cp (fun j i w x _ => sameC_el (G (8 + j) (by omega)) i) hW C.2.1), fun r hr => CSR_ve E hW.2.2.2 hv (fun j hj => cu_at _ (by omega)) (CSR_cp (fun j i w _ => sameC_el (G _ (by omega)) i) X (C.2.2.1 r hr)), ?_, ?_, ?_, fun l hl => ?_, fun j hj => ?_⟩
  · rw [sameC_I s8, cu_at 1 (by omega)]; exact y1
  · rw [sameC_I s8, cu_at 3 (by omega)]; exact y2
  · rw [sameC_I s8, cu_at 2 (by omega)]; exact y3
  · have s39 : hL g (8 + 31) l = hL h (8 + 31) l := sameC_L (G 39 (by decide)) l
    rw [s39]
    exact SetR_ve E hW.2.2.2 (fun p hp => cu_at _ (by omega)) hv (y4 l hl)
  · obtain ⟨z1, z2, z3⟩ := y5 j hj
    have s41 : ∀ i, hL g (8 + 33) i = hL h (8 + 33) i := fun i => sameC_L (G 41 (by decide)) i
    have s42 : ∀ i, hI g (8 + 34) i = hI h (8 + 34) i := fun i => sameC_I (G 42 (by decide)) i
    refine ⟨?_, fun v hv => ?_, fun v hv y => ?_⟩
    · show hI g 40 j = _
      rw [e1]
      by_cases c : j = k
      · rw [c, cu_k]; exact hI_eq (by rw [lyn (c := 100) (n := 3) T rfl]; omega) (by have := (t2.2.2.2.2.2.2 k k3).1; unfold rg; omega)
      · rw [hI_ni (fun z => c z.symm), cu_at _ (by omega)]; exact z1
    · rw [s41, z2 v hv]
      constructor
      · rintro ⟨q, y⟩; exact ⟨q, by rw [cu_at _ (by omega)]; exact y⟩
      · rintro ⟨q, y⟩; rw [cu_at _ (by omega)] at y; exact ⟨q, y⟩
    · rw [cu_at _ (by omega)] at y ⊢
      rw [s42]; exact z3 v hv y
theorem CS_fe {h g : XH} {N : Nat → Int} {nd : Nat → ND} {m : Nat} (T : HT h) (C : CS h 8 N nd) (W : WF N m) (l2 : N 2 < 12000) (e2 : g = sI h 8 7 (N 2 + 1)) : CS g 8 (feN N) nd := by
  have hW := WF_b W
  have hv := WV_hp W.1
  have t2 := W.2.2
  have E : VE N (feN N) := fun i _ n => fe_at i (by omega)
  have G : ∀ c, ¬ c = 8 → sameC h g c := fun c m => by rw [e2]; exact sameC_sV (fun z => m z.symm)
  have X : ∀ a, hk h a = 1 ∨ hk h a = 11 → sameC h g a := fun a ha => by
    have n : ¬ a < 468 := fun z => noTxt T z ha
    exact G a (by omega)
  have c8 : ∀ i, ¬ i = 7 → hI g 8 i = hI h 8 i := fun i n => by rw [e2, hI_ni (fun z => n z.symm)]
  have c87 : hI g 8 7 = N 2 + 1 := by rw [e2]; exact hI_eq (hn_obj T (lyk (n := 11) T rfl) rfl rfl) (by have := t2.2.2.1; unfold rg; omega)
  obtain ⟨y1, y2, y3, y4, y5⟩ := C.2.2.2
  refine ⟨CSV_ve E hW.2.2.2 (CSV_cp (fun j i w x _ => sameC_el (G (8 + j) (by omega)) i) X hW C.1), CSP_ve E hW.2.2.2 (CSP_cp (fun j i w x _ => sameC_el (G (8 + j) (by omega)) i) hW C.2.1), fun r hr => CSR_ve E hW.2.2.2 hv (fun j hj => fe_at _ (by omega)) (CSR_cp (fun j i w _ => sameC_el (G _ (by omega)) i) X (C.2.2.1 r hr)), ?_, ?_, ?_, fun l hl => ?_, fun j hj => ?_⟩
  · rw [c8 4 (by decide), fe_at 1 (by decide)]; exact y1
  · rw [c8 6 (by decide), fe_at 3 (by decide)]; exact y2
  · rw [c87, fe_2]
  · have s39 : hL g (8 + 31) l = hL h (8 + 31) l := sameC_L (G 39 (by decide)) l
    rw [s39]
    exact SetR_ve E hW.2.2.2 (fun p hp => fe_at _ (by omega)) hv (y4 l hl)
  · obtain ⟨z1, z2, z3⟩ := y5 j hj
    refine ⟨?_, fun v hv => ?_, fun v hv y => ?_⟩
    · show hI g 40 j = _
      rw [fe_at _ (by omega), sameC_I (G 40 (by decide))]; exact z1
    · rw [fe_at _ (by omega)]
      show (hL g 41 j).getLsbD v = true ↔ _
      rw [sameC_L (G 41 (by decide))]; exact z2 v hv
    · rw [fe_at _ (by omega)] at y ⊢
      show hI g 42 _ = _
      rw [sameC_I (G 42 (by decide))]; exact z3 v hv y
theorem WF_ent {N : Nat → Int} {m r : Nat} (W : WF N m) (hr : r < 3) (l : nR N r 47 < 600) : WF (entN N r) m := by
  have E : VE N (entN N r) := fun i _ _ => ent_at i (by omega) (by omega)
  refine ⟨WV_ve E W.1, fun q hq => ?_, WT_ve E (fun i hi => ent_at i (by omega) (by omega)) W.2.2⟩
  by_cases c : q = r
  · subst c
    obtain ⟨d1, d2, d3, d4, d5, d6, d7, d8, d9, d10, d11⟩ := W.2.1 q hr
    have er : ∀ k, k < 23 → nR (entN N q) q k = nR N q k := fun k n => ent_at _ (by omega) (by omega)
    unfold WRt
    rw [er 0 (by omega), er 9 (by omega), ent_47, er 22 (by omega), E 0 (by omega) (by omega)]
    refine ⟨d1, d2, fun w h8 hw => ?_, d4, d5, d6, fun p hp => ?_, d8, d9, by omega, by omega⟩
    · rw [er (1 + w) (by omega)]; exact d3 w h8 hw
    · rw [er (10 + p) (by omega)]; exact d7 p hp
  · exact WRt_ve E (fun k hk => ent_at _ (by omega) (by omega)) (W.2.1 q hq)
theorem CS_ent {h h1 h2 g : XH} {N : Nat → Int} {nd : Nat → ND} {m r : Nat} (T : HT h) (C : CS h 8 N nd) (W : WF N m) (hr : r < 3) (l : nR N r 47 < 600) (T1 : HT h1) (T2 : HT h2) (e1 : h1 = sL h (rc r) 6 (hL h (rc r) 5)) (e2 : h2 = sL h1 (rc r + 3) ((nR N r 47).toNat % 20) (hL h (rc r) 5)) (k20 : hn h1 (rc r + 3) = 20) (e3 : g = sI h2 (rc r) 7 (nR N r 47 + 1)) : CS g 8 (entN N r) nd := by
  have rb := rc_lt hr
  have hW := WF_b W
  have hv := WV_hp W.1
  have md := Nat.mod_lt (nR N r 47).toNat (show 20 > 0 by decide)
  have G : ∀ c, ¬ c = rc r → ¬ c = rc r + 3 → sameC h g c := fun c n m => by rw [e3, e2, e1]; exact sameC_tr (sameC_sV (fun z => n z.symm)) (sameC_tr (sameC_sV (fun z => m z.symm)) (sameC_sV (fun z => n z.symm)))
  have X : ∀ a, hk h a = 1 ∨ hk h a = 11 → sameC h g a := fun a ha => by
    have n : ¬ a < 468 := fun z => noTxt T z ha
    exact G a (by omega) (by omega)
  have cI : ∀ i, ¬ i = 6 → ¬ i = 7 → hI g (rc r) i = hI h (rc r) i := fun i n m => by rw [e3, hI_ni (fun z => m z.symm), e2, hI_ne (by omega), e1, hI_ni (fun z => n z.symm)]
  have cL : ∀ i, ¬ i = 6 → ¬ i = 7 → hL g (rc r) i = hL h (rc r) i := fun i n m => by rw [e3, hL_ni (fun z => m z.symm), e2, hL_ne (by omega), e1, hL_ni (fun z => n z.symm)]
  have c6 : hL g (rc r) 6 = hL h (rc r) 5 := by rw [e3, hL_ni (by decide), e2, hL_ne (by omega), e1]; exact hL_eq (hn_obj T (rc_k T hr) rfl rfl)
  have c7 : hI g (rc r) 7 = nR N r 47 + 1 := by rw [e3]; exact hI_eq (hn_obj T2 (rc_k T2 hr) rfl rfl) (by have := (W.2.1 r hr).2.2.2.2.2.2.2.2.2.1; unfold rg; omega)
  have c3 : ∀ i, hL g (rc r + 3) i = if i = (nR N r 47).toNat % 20 then hL h (rc r) 5 else hL h (rc r + 3) i := fun i => by
    rw [e3, hL_ne (by omega), e2]
    by_cases c : i = (nR N r 47).toNat % 20
    · rw [if_pos c, c]; exact hL_eq (by omega)
    · rw [if_neg c, hL_ni (fun z => c z.symm), e1, hL_ne (by omega)]
  have E : VE N (entN N r) := fun i _ _ => ent_at i (by omega) (by omega)
  have er : ∀ k, k < 23 ∨ (35 ≤ k ∧ k < 47) ∨ 288 ≤ k ∧ k < 291 → nR (entN N r) r k = nR N r k := fun k n => ent_at _ (by omega) (by omega)
  obtain ⟨a1, a2, a3, a4, a5, a6, a7, a8, a9, a10, a11, a12⟩ := R8 (C.2.2.1 r hr)
  refine (CS_one hr (fun c x y n => G c (by omega) (by omega)) X W (fun i n => ent_at i (by omega) (by omega)) C ?_ ((WF_ent W hr l).2.1 r hr)).1
  refine R8_mk ⟨?_, fun w h8 hw => ?_, ?_, fun p hp => ?_, ?_, ?_, ?_, ?_, fun i hi hw => ?_, ?_, ?_, ?_⟩
  · rw [cI 0 (by decide) (by decide), er 0 (by omega)]; exact a1
  · rw [er 0 (by omega)] at hw
    rw [er (1 + w) (by omega), sameC_R (G (rc r + 1) (by omega) (by omega))]
    exact (a2 w h8 hw).imp_right fun y => ⟨y.1, AtomR_fr X y.2⟩
  · rw [cI 2 (by decide) (by decide), er 9 (by omega)]; exact a3
  · rw [er (10 + p) (by omega), sameC_R (G (rc r + 2) (by omega) (by omega))]
    exact (a4 p hp).imp_right fun y => ⟨y.1, SpanR_fr X y.2⟩
  · rw [cI 4 (by decide) (by decide), er 22 (by omega)]; exact a5
  · rw [cL 5 (by decide) (by decide)]; exact SetR_ve E hW.2.2.2 (fun p hp => er _ (by omega)) hv a6
  · rw [c6]; exact SetR_ve E hW.2.2.2 (fun p hp => ent_i hp) hv a6
  · rw [c7, ent_47]
  · rw [c3]
    by_cases c : i = (nR N r 47).toNat % 20
    · rw [if_pos c]
      exact SetR_ve E hW.2.2.2 (fun p hp => by rw [ent_h hp hi, if_pos c]; rfl) hv a6
    · rw [if_neg c]
      rw [ent_47] at hw
      have w0 : 0 ≤ nR N r 47 := (W.2.1 r hr).2.2.2.2.2.2.2.2.2.1
      have : (i : Int) < nR N r 47 := by
        by_cases z : nR N r 47 < 20
        · rw [Nat.mod_eq_of_lt (by omega)] at c; omega
        · omega
      exact SetR_ve E hW.2.2.2 (fun p hp => by rw [ent_h hp hi, if_neg c]) hv (a9 i hi this)
  · rw [cI 9 (by decide) (by decide), er 288 (by omega)]; exact a10
  · rw [cI 10 (by decide) (by decide), er 289 (by omega)]; exact a11
  · rw [cI 11 (by decide) (by decide), er 290 (by omega)]; exact a12
