/-! PACK -/
/-- a package was added to the class's shelf: x, its number -/
def Apk (x : Int) (h h1 : XH) : Prop := Fr (fun b => b = 9 ∨ b = 10 ∨ b = 11) h h1 ∧ h1.length = h.length ∧ xhs h1 = xhs h ∧ hI h1 9 0 = x + 1 ∧ (∀ j, ¬ j = 0 → el h1 9 j = el h 9 j) ∧ hI h1 10 x.toNat = 0 ∧ hL h1 11 x.toNat = bit1 (40 + x.toNat) ∧ ∀ j, ¬ j = x.toNat → el h1 10 j = el h 10 j ∧ el h1 11 j = el h 11 j
set_option maxHeartbeats 1000000 in
theorem c_X8_addPack {x : Int} (bx : 0 ≤ x ∧ x < 12) {K : Int → XH → Prop} {h : XH} (T : HT h) (hx : hI h 9 0 = x) (k : ∀ h1, Apk x h h1 → K x h1) : w_X8_addPack K h := by
  unfold w_X8_addPack
  intro x1 ex1 rx1
  rw [hx] at ex1
  subst ex1
  refine ⟨(by first | decide | omega | ((try simp (disch := omega) only [wr_of] at *); omega)), ?_⟩
  intro h3 eh3 t3 u3
  refine c_X12_switchOf bx ?_
  intro h5 eh5 t5 u5
  intro h6 eh6 t6 u6
  have n10 : hn h 10 = 12 := lyn (c := 100) (n := 12) T rfl
  have n11 : hn h3 11 = 12 := lyn (c := 101) (n := 12) t3 rfl
  have s9 : ∀ j, el h5 9 j = el h 9 j := fun j => by rw [eh5, el_ne (by decide), eh3, el_ne (by decide)]
  have x9 : hI h5 9 0 = x1 := (congrArg gvI (s9 0)).trans hx
  refine k _ ⟨fun b _ n => ?_, by rw [eh6, len_sV, eh5, len_sV, eh3, len_sV], by rw [eh6, xhs_sV, eh5, xhs_sV, eh3, xhs_sV], ?_, fun j n => ?_, ?_, ?_, fun j n => ⟨?_, ?_⟩⟩
  · have f3 : sameC h h3 b := by rw [eh3]; exact sameC_sV (fun z => n (.inr (.inl z.symm)))
    have f5 : sameC h3 h5 b := by rw [eh5]; exact sameC_sV (fun z => n (.inr (.inr z.symm)))
    have f6 : sameC h5 h6 b := by rw [eh6]; exact sameC_sV (fun z => n (.inl z.symm))
    exact sameC_tr (sameC_tr f3 f5) f6
  · rw [eh6, x9, wr_of (by omega) (by omega)]
    exact hI_eq (hn_obj t5 (c := 9) (lyk (n := 20) t5 rfl) rfl rfl) ⟨by omega, by omega⟩
  · rw [eh6, el_ni (fun z => n z.symm)]
    exact s9 j
  · rw [eh6, hI_ne (by decide), eh5, hI_ne (by decide), eh3]
    exact hI_eq (by rw [n10]; omega) (rgk rfl)
  · rw [eh6, hL_ne (by decide), eh5]
    exact hL_eq (by rw [n11]; omega)
  · rw [eh6, el_ne (by decide), eh5, el_ne (by decide), eh3, el_ni (fun z => n z.symm)]
  · rw [eh6, el_ne (by decide), eh5, el_ni (fun z => n z.symm), eh3, el_ne (by decide)]
set_option maxHeartbeats 1000000 in
theorem c_X12_pack {o u : Int} (B0 : 0 ≤ o ∧ o < 10 ∧ 0 ≤ u ∧ u ≤ 10) {h : XH} (T : HT h) (Bo : hI h 2 9 = o) (Bu : hI h 2 10 = u) (Bs : hI h 43 2 = 10) (w0 : 0 ≤ hI h 9 0) {K : Int → XH → Prop} {E : Nat → XH → Prop} (k0 : ¬ hI h 9 0 < 12 → E 0 (nT h)) (k : hI h 9 0 < 12 → ∀ h1 h3, Rmb o u h h1 → HT h1 → HX h h1 → Apk (hI h 9 0) h1 h3 → K (hI h 9 0) h3) : w_X12_pack K E h := by
  unfold w_X12_pack
  refine ⟨fun c4 => ?_, fun c4 => ?_⟩
  · refine c_X12_remember B0 (by assumption) Bo Bu Bs ?_
    intro h1 qh1
    intro t1 u1
    refine c_X8_addPack (x := hI h 9 0) (by omega) t1 (sameC_I (Rmb_s T qh1 B0 (by decide) (by decide)) 0) ?_
    intro h3 qh3
    intro t3 u3
    intro rx2
    exact k (by assumption) _ _ qh1 t1 u1 qh3
  · exact k0 (by assumption)
set_option maxHeartbeats 1000000 in
theorem c_L_pack {o u : Int} (B0 : 0 ≤ o ∧ o < 10 ∧ 0 ≤ u ∧ u ≤ 10) {h : XH} (T : HT h) (Bo : hI h 2 9 = o) (Bu : hI h 2 10 = u) (Bs : hI h 43 2 = 10) (w0 : 0 ≤ hI h 9 0) {K : Int → XH → Prop} (k0 : ¬ hI h 9 0 < 12 → K 1 (nT h)) (k : hI h 9 0 < 12 → ∀ h2 h4 h5, Rmb o u h h2 → HT h2 → HX h h2 → Apk (hI h 9 0) h2 h4 → HT h4 → h5 = sL h4 467 0 (i2l (hI h 9 0)) → K 0 h5) : w_L_pack K h := by
  unfold w_L_pack
  refine c_X12_pack B0 T Bo Bu Bs w0 (fun q => ⟨rfl, k0 q⟩) ?_
  intro q g2 h2 qg tg ug qh2
  intro t2 u2
  intro rx1
  intro h5 eh5 t5 u5
  exact k q _ _ _ qg tg ug qh2 t2 eh5
set_option maxHeartbeats 1000000 in
theorem c_X14_pack {q u : Int} (B1 : 0 ≤ q ∧ q < 10 ∧ 0 ≤ u ∧ u ≤ 10) {h : XH} (T : HT h) (Rq : hI h 437 3 = q) (Ru : hI h 437 2 = u) {K : Int → XH → Prop} (k0 : ¬ hI h 438 0 < 12 → ∀ h1 h2, HT h1 → h1 = sI h 437 5 0 → h2 = sI h1 437 5 1 → K 0 h2) (k : hI h 438 0 < 12 → ∀ h1 h5 h7, HT h1 → h1 = sI h 437 5 0 → Rrec q u h1 h5 → HT h5 → h7 = sI h5 438 0 (wr (hI h5 438 0 + 1)) → K (wr (hI h7 438 0 - 1)) h7) : w_X14_pack K h := by
  unfold w_X14_pack
  intro h1 eh1 t1 u1
  have Rq1 : hI h1 437 3 = q := by rw [eh1, hI_ni (by decide)]; exact Rq
  have Ru1 : hI h1 437 2 = u := by rw [eh1, hI_ni (by decide)]; exact Ru
  have s1 : hI h1 438 0 = hI h 438 0 := by rw [eh1, hI_ne (by decide)]
  refine ⟨_, fun x2 rx2 z3 => z3, ?_⟩
  refine ⟨fun c9 => ?_, fun c9 => ?_⟩
  · refine c_X14_refused (bqF (Q := hI h1 438 0 < 12) (by omega)) ?_
    intro x4 h5 qx4
    intro t5 u5
    intro rx4 vx4
    refine ⟨fun c8 => ?_, fun c8 => ?_⟩
    · obtain ⟨b4, e4⟩ : hI h1 438 0 < 12 ∧ h5 = h1 := by
        rcases qx4 with ⟨_, y, z⟩ | ⟨y, _⟩
        · exact ⟨y, z⟩
        · omega
      subst e4
      refine c_X14_record B1 t5 Rq1 Ru1 ?_
      intro h6 qh6
      intro t6 u6
      intro h7 eh7 t7 u7
      first
        | exact k (by rw [← s1]; exact b4) _ _ _ t5 eh1 qh6 t6 eh7
        | (rcases qx4 with ⟨y, _⟩ | ⟨_, y, e4⟩
           · exact absurd y c8
           · exact k0 (by rw [← s1]; exact y) _ _ t1 eh1 e4)
    · first
        | exact k (by rw [← s1]; exact b4) _ _ _ t5 eh1 qh6 t6 eh7
        | (rcases qx4 with ⟨y, _⟩ | ⟨_, y, e4⟩
           · exact absurd y c8
           · exact k0 (by rw [← s1]; exact y) _ _ t1 eh1 e4)
  · refine c_X14_refused (bqT (Q := hI h1 438 0 < 12) (by omega)) ?_
    intro x4 h5 qx4
    intro t5 u5
    intro rx4 vx4
    refine ⟨fun c8 => ?_, fun c8 => ?_⟩
    · obtain ⟨b4, e4⟩ : hI h1 438 0 < 12 ∧ h5 = h1 := by
        rcases qx4 with ⟨_, y, z⟩ | ⟨y, _⟩
        · exact ⟨y, z⟩
        · omega
      subst e4
      refine c_X14_record B1 t5 Rq1 Ru1 ?_
      intro h6 qh6
      intro t6 u6
      intro h7 eh7 t7 u7
      first
        | exact k (by rw [← s1]; exact b4) _ _ _ t5 eh1 qh6 t6 eh7
        | (rcases qx4 with ⟨y, _⟩ | ⟨_, y, e4⟩
           · exact absurd y c8
           · exact k0 (by rw [← s1]; exact y) _ _ t1 eh1 e4)
    · first
        | exact k (by rw [← s1]; exact b4) _ _ _ t5 eh1 qh6 t6 eh7
        | (rcases qx4 with ⟨y, _⟩ | ⟨_, y, e4⟩
           · exact absurd y c8
           · exact k0 (by rw [← s1]; exact y) _ _ t1 eh1 e4)
