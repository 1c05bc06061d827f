/-! COPIES OF ROOTS, SHELVES, STATES -/
theorem vkO {h : XH} (t : HT h) {a c f k : Nat} (hc : hk h a = c) (h16 : Nat.blt c 16 = true) (hf : fk c f = k) (h9 : k < 9 := by decide) : vk (el h a f) = k := (el_obj t.1 hc (Nat.le_of_ble_eq_true h16) hf h9).2.1
theorem vkA {h : XH} (t : HT h) {a u i k : Nat} (hc : hk h a = 100 + u) (hu : u < 8) (hi : i < hn h a) (e : tyA u = k) : vk (el h a i) = k := (el_arr t.1 hc hu hi).1.trans e
theorem hn_obj {h : XH} (t : HT h) {a c f : Nat} (hc : hk h a = c) (h16 : Nat.blt c 16 = true) (hf : Nat.blt (fk c f) 9 = true) : f < hn h a := (el_obj t.1 hc (Nat.le_of_ble_eq_true h16) rfl (Nat.le_of_ble_eq_true hf)).1
theorem le_ly {n m : Nat} (e : n = m) : m ≤ n := by omega
set_option maxHeartbeats 1000000 in
theorem c_X6_tellFailure {t : Nat} {p0 p1 p2 : Int} {K : XH → Prop} {h : XH} (k : ∀ h1 h2 h3, h1 = sI h t 9 p0 → h2 = sI h1 t 10 p1 → h3 = sI h2 t 11 p2 → HT h1 → HT h2 → HT h3 → HX h h1 → HX h1 h2 → HX h2 h3 → K h3) : w_X6_tellFailure t p0 p1 p2 K h := by
  unfold w_X6_tellFailure
  intro h1 eh1 t1 u1
  intro h2 eh2 t2 u2
  intro h3 eh3 t3 u3
  exact k _ _ _ eh1 eh2 eh3 t1 t2 t3 u1 u2 u3
set_option maxHeartbeats 1000000 in
theorem c_X6_copyFrom {t p0 : Nat} {K : XH → Prop} {h : XH} (T : HT h) (ht : hk h t = 7) (hp : hk h p0 = 7) (ov : p0 + 4 ≤ t ∨ t + 4 ≤ p0) (k : ∀ h1, CPd 4 (fun j i => (j = 0 ∧ i < 12 ∧ ¬ i = 1 ∧ ¬ i = 3 ∧ ¬ i = 8) ∨ (j = 1 ∧ i < 8) ∨ (j = 2 ∧ i < 12) ∨ (j = 3 ∧ i < 20)) t p0 h h1 → K h1) : w_X6_copyFrom t p0 K h := by
  unfold w_X6_copyFrom
  have KP : ∀ {g}, HX h g → hk g p0 = 7 := fun s => HX_hk s hp (by decide)
  have KT : ∀ {g}, HX h g → hk g t = 7 := fun s => HX_hk s ht (by decide)
  have hL : p0 + 4 ≤ h.length := hk_lt (lyo_7_8 T hp).1 (by decide)
  refine ⟨hp, ?_⟩
  intro h2 eh2 t2 u2
  have s2 := u2
  have C2 := CP_st (CP_0 4 t p0 h) ov hL (j := 0) (i := 0) (by decide) (hn_obj T (KT (HX_refl h)) rfl rfl) (el_I' T (vkO T (KP (HX_refl h)) rfl rfl)) eh2
  refine ⟨fun x g => 0 ≤ x ∧ x ≤ 8 ∧ CPd 4 (fun j i => (j = 0 ∧ i = 0) ∨ (j = 1 ∧ (i : Int) < x)) t p0 h g, fun x _ => (8 - x).toNat, ?_, ?_⟩
  · exact ⟨by omega, by omega, CP_mono C2 (fun j i z => by omega)⟩
  · intro x3 h4 t4 s4 rx3 z5
    obtain ⟨a1, a2, C4⟩ := z5
    refine ⟨fun c28 => ?_, fun c28 => ?_⟩
    · refine ⟨(KP s4), ?_⟩
      intro h7 eh7 t7 u7
      have s7 := HX_trans s4 u7
      have C7 := CP_st C4 ov hL (j := 0) (i := 2) (by decide) (hn_obj t4 (KT s4) rfl rfl) (el_I' t4 (vkO t4 (KP s4) rfl rfl)) eh7
      refine ⟨fun x g => 0 ≤ x ∧ x ≤ 12 ∧ CPd 4 (fun j i => (j = 0 ∧ (i = 0 ∨ i = 2)) ∨ (j = 1 ∧ i < 8) ∨ (j = 2 ∧ (i : Int) < x)) t p0 h g, fun x _ => (12 - x).toNat, ?_, ?_⟩
      · exact ⟨by omega, by omega, CP_mono C7 (fun j i z => by omega)⟩
      · intro x8 h9 t9 s9 rx8 z10
        obtain ⟨b1, b2, C9⟩ := z10
        refine ⟨fun c23 => ?_, fun c23 => ?_⟩
        · refine ⟨(KP s9), ?_⟩
          intro h12 eh12 t12 u12
          have s12 := HX_trans s9 u12
          have C12 := CP_st C9 ov hL (j := 0) (i := 4) (by decide) (hn_obj t9 (KT s9) rfl rfl) (el_I' t9 (vkO t9 (KP s9) rfl rfl)) eh12
          intro h13 eh13 t13 u13
          have s13 := HX_trans s12 u13
          have C13 := CP_st C12 ov hL (j := 0) (i := 5) (by decide) (hn_obj t12 (KT s12) rfl rfl) (el_L' (vkO t12 (KP s12) rfl rfl)) eh13
          intro h14 eh14 t14 u14
          have s14 := HX_trans s13 u14
          have C14 := CP_st C13 ov hL (j := 0) (i := 6) (by decide) (hn_obj t13 (KT s13) rfl rfl) (el_L' (vkO t13 (KP s13) rfl rfl)) eh14
          intro h15 eh15 t15 u15
          have s15 := HX_trans s14 u15
          have C15 := CP_st C14 ov hL (j := 0) (i := 7) (by decide) (hn_obj t14 (KT s14) rfl rfl) (el_I' t14 (vkO t14 (KP s14) rfl rfl)) eh15
          refine ⟨(by first | decide | omega | ((try simp (disch := omega) only [wr_of] at *); omega)), ?_⟩
          intro h17 eh17 t17 u17
          have s17 := HX_trans s15 u17
          have C17 := CP_cp C15 t15 ov hL (j := 3) (m := 20) (u := 1) (by decide) (lyo_7_8 t15 (KP s15)).1 (lyo_7_8 t15 (KT s15)).1 (by decide) (le_ly (lyo_7_8 t15 (KP s15)).2) (le_ly (lyo_7_8 t15 (KT s15)).2) eh17
          refine c_X6_tellFailure ?_
          intro g1 g2 h18 eg1 eg2 eh18 tg1 tg2 tg3 ug1 ug2 ug3
          intro t18 u18
          have q1 : el g1 p0 10 = el h17 p0 10 := by rw [eg1]; exact el_ne (by omega)
          have q2 : el g2 p0 11 = el h17 p0 11 := by rw [eg2, el_ne (by omega), eg1]; exact el_ne (by omega)
          have sg1 := HX_trans s17 ug1
          have sg2 := HX_trans sg1 ug2
          have G1 := CP_st C17 ov hL (j := 0) (i := 9) (by decide) (hn_obj t17 (KT s17) rfl rfl) (el_I' t17 (vkO t17 (KP s17) rfl rfl)) eg1
          have G2 := CP_st G1 ov hL (j := 0) (i := 10) (by decide) (hn_obj tg1 (KT sg1) rfl rfl) ((el_I' t17 (vkO t17 (KP s17) rfl rfl)).trans q1.symm) eg2
          have G3 := CP_st G2 ov hL (j := 0) (i := 11) (by decide) (hn_obj tg2 (KT sg2) rfl rfl) ((el_I' t17 (vkO t17 (KP s17) rfl rfl)).trans q2.symm) eh18
          exact k _ (CP_mono G3 (fun j i z => by omega))
        · refine ⟨(KP s9), ?_⟩
          refine ⟨(by first | decide | omega | ((try simp (disch := omega) only [wr_of] at *); omega)), ?_⟩
          intro h21 eh21 t21 u21
          intro x22 ex22 rx22
          have C21 := CP_st C9 ov hL (j := 2) (i := x8.toNat) (by decide) (by rw [(lyo_7_3 t9 (KT s9)).2]; omega) (el_R' (vkA (u := 4) t9 (lyo_7_3 t9 (KP s9)).1 (by decide) (by rw [(lyo_7_3 t9 (KP s9)).2]; omega) rfl)) eh21
          have e22 : x22 = x8 + 1 := by rw [ex22, wr_of (by omega) (by omega)]
          exact ⟨⟨by omega, by omega, CP_mono C21 (fun j i z => by omega)⟩, by dsimp only; omega⟩
    · refine ⟨(KP s4), ?_⟩
      refine ⟨(by first | decide | omega | ((try simp (disch := omega) only [wr_of] at *); omega)), ?_⟩
      intro h26 eh26 t26 u26
      intro x27 ex27 rx27
      have C26 := CP_st C4 ov hL (j := 1) (i := x3.toNat) (by decide) (by rw [(lyo_7_1 t4 (KT s4)).2]; omega) (el_R' (vkA (u := 3) t4 (lyo_7_1 t4 (KP s4)).1 (by decide) (by rw [(lyo_7_1 t4 (KP s4)).2]; omega) rfl)) eh26
      have e27 : x27 = x3 + 1 := by rw [ex27, wr_of (by omega) (by omega)]
      exact ⟨⟨by omega, by omega, CP_mono C26 (fun j i z => by omega)⟩, by dsimp only; omega⟩
def SDa (j i : Nat) : Prop := (j = 0 ∧ (i = 0 ∨ i = 1 ∨ i = 10)) ∨ (j = 1 ∧ i < 12) ∨ (j = 2 ∧ i < 12) ∨ (j = 3 ∧ i < 96) ∨ (4 ≤ j ∧ j < 10 ∧ i < 40) ∨ ((j = 12 ∨ j = 14) ∧ i < 40) ∨ ((j = 15 ∨ j = 16) ∧ i < 80)
set_option maxHeartbeats 1000000 in
theorem c_X8_copyFrom {t p0 : Nat} {K : XH → Prop} {h : XH} (T : HT h) (ht : hk h t = 9) (hp : hk h p0 = 9) (ov : p0 + 18 ≤ t ∨ t + 18 ≤ p0) (k : ∀ h1, CPd 18 (fun j i => SDa j i ∨ ((j = 10 ∨ j = 11) ∧ i < 120) ∨ (j = 13 ∧ i < 80) ∨ (j = 17 ∧ i < 40)) t p0 h h1 → K h1) : w_X8_copyFrom t p0 K h := by
  unfold w_X8_copyFrom
  have KP : ∀ {g}, HX h g → hk g p0 = 9 := fun s => HX_hk s hp (by decide)
  have KT : ∀ {g}, HX h g → hk g t = 9 := fun s => HX_hk s ht (by decide)
  have hL : p0 + 18 ≤ h.length := hk_lt (lyo_9_19 T hp).1 (by decide)
  refine ⟨hp, ?_⟩
  intro h2 eh2 t2 u2
  have s2 := u2
  have C2 := CP_st (CP_0 18 t p0 h) ov hL (j := 0) (i := 0) (by decide) (hn_obj T (KT (HX_refl h)) rfl rfl) (el_I' T (vkO T (KP (HX_refl h)) rfl rfl)) eh2
  intro h3 eh3 t3 u3
  have s3 := HX_trans s2 u3
  have C3 := CP_st C2 ov hL (j := 0) (i := 1) (by decide) (hn_obj t2 (KT s2) rfl rfl) (el_I' t2 (vkO t2 (KP s2) rfl rfl)) eh3
  refine ⟨(by first | decide | omega | ((try simp (disch := omega) only [wr_of] at *); omega)), ?_⟩
  intro h5 eh5 t5 u5
  have s5 := HX_trans s3 u5
  have C5 := CP_cp C3 t3 ov hL (j := 1) (m := 12) (u := 0) (by decide) (lyo_9_2 t3 (KP s3)).1 (lyo_9_2 t3 (KT s3)).1 (by decide) (le_ly (lyo_9_2 t3 (KP s3)).2) (le_ly (lyo_9_2 t3 (KT s3)).2) eh5
  refine ⟨(by first | decide | omega | ((try simp (disch := omega) only [wr_of] at *); omega)), ?_⟩
  intro h7 eh7 t7 u7
  have s7 := HX_trans s5 u7
  have C7 := CP_cp C5 t5 ov hL (j := 2) (m := 12) (u := 1) (by decide) (lyo_9_3 t5 (KP s5)).1 (lyo_9_3 t5 (KT s5)).1 (by decide) (le_ly (lyo_9_3 t5 (KP s5)).2) (le_ly (lyo_9_3 t5 (KT s5)).2) eh7
  refine ⟨(by first | decide | omega | ((try simp (disch := omega) only [wr_of] at *); omega)), ?_⟩
  intro h9 eh9 t9 u9
  have s9 := HX_trans s7 u9
  have C9 := CP_cp C7 t7 ov hL (j := 3) (m := 96) (u := 0) (by decide) (lyo_9_4 t7 (KP s7)).1 (lyo_9_4 t7 (KT s7)).1 (by decide) (le_ly (lyo_9_4 t7 (KP s7)).2) (le_ly (lyo_9_4 t7 (KT s7)).2) eh9
  refine ⟨(by first | decide | omega | ((try simp (disch := omega) only [wr_of] at *); omega)), ?_⟩
  intro h11 eh11 t11 u11
  have s11 := HX_trans s9 u11
  have C11 := CP_cp C9 t9 ov hL (j := 4) (m := 40) (u := 0) (by decide) (lyo_9_5 t9 (KP s9)).1 (lyo_9_5 t9 (KT s9)).1 (by decide) (le_ly (lyo_9_5 t9 (KP s9)).2) (le_ly (lyo_9_5 t9 (KT s9)).2) eh11
  refine ⟨(by first | decide | omega | ((try simp (disch := omega) only [wr_of] at *); omega)), ?_⟩
  intro h13 eh13 t13 u13
  have s13 := HX_trans s11 u13
  have C13 := CP_cp C11 t11 ov hL (j := 5) (m := 40) (u := 0) (by decide) (lyo_9_6 t11 (KP s11)).1 (lyo_9_6 t11 (KT s11)).1 (by decide) (le_ly (lyo_9_6 t11 (KP s11)).2) (le_ly (lyo_9_6 t11 (KT s11)).2) eh13
  refine ⟨(by first | decide | omega | ((try simp (disch := omega) only [wr_of] at *); omega)), ?_⟩
  intro h15 eh15 t15 u15
  have s15 := HX_trans s13 u15
  have C15 := CP_cp C13 t13 ov hL (j := 6) (m := 40) (u := 0) (by decide) (lyo_9_7 t13 (KP s13)).1 (lyo_9_7 t13 (KT s13)).1 (by decide) (le_ly (lyo_9_7 t13 (KP s13)).2) (le_ly (lyo_9_7 t13 (KT s13)).2) eh15
  refine ⟨(by first | decide | omega | ((try simp (disch := omega) only [wr_of] at *); omega)), ?_⟩
  intro h17 eh17 t17 u17
  have s17 := HX_trans s15 u17
  have C17 := CP_cp C15 t15 ov hL (j := 7) (m := 40) (u := 0) (by decide) (lyo_9_8 t15 (KP s15)).1 (lyo_9_8 t15 (KT s15)).1 (by decide) (le_ly (lyo_9_8 t15 (KP s15)).2) (le_ly (lyo_9_8 t15 (KT s15)).2) eh17
  refine ⟨(by first | decide | omega | ((try simp (disch := omega) only [wr_of] at *); omega)), ?_⟩
  intro h19 eh19 t19 u19
  have s19 := HX_trans s17 u19
  have C19 := CP_cp C17 t17 ov hL (j := 8) (m := 40) (u := 0) (by decide) (lyo_9_9 t17 (KP s17)).1 (lyo_9_9 t17 (KT s17)).1 (by decide) (le_ly (lyo_9_9 t17 (KP s17)).2) (le_ly (lyo_9_9 t17 (KT s17)).2) eh19
  refine ⟨(by first | decide | omega | ((try simp (disch := omega) only [wr_of] at *); omega)), ?_⟩
  intro h21 eh21 t21 u21
  have s21 := HX_trans s19 u21
  have C21 := CP_cp C19 t19 ov hL (j := 9) (m := 40) (u := 0) (by decide) (lyo_9_11 t19 (KP s19)).1 (lyo_9_11 t19 (KT s19)).1 (by decide) (le_ly (lyo_9_11 t19 (KP s19)).2) (le_ly (lyo_9_11 t19 (KT s19)).2) eh21
  refine ⟨(by first | decide | omega | ((try simp (disch := omega) only [wr_of] at *); omega)), ?_⟩
  intro h23 eh23 t23 u23
  have s23 := HX_trans s21 u23
  have C23 := CP_cp C21 t21 ov hL (j := 12) (m := 40) (u := 0) (by decide) (lyo_9_14 t21 (KP s21)).1 (lyo_9_14 t21 (KT s21)).1 (by decide) (le_ly (lyo_9_14 t21 (KP s21)).2) (le_ly (lyo_9_14 t21 (KT s21)).2) eh23
  refine ⟨(by first | decide | omega | ((try simp (disch := omega) only [wr_of] at *); omega)), ?_⟩
  intro h25 eh25 t25 u25
  have s25 := HX_trans s23 u25
  have C25 := CP_cp C23 t23 ov hL (j := 14) (m := 40) (u := 0) (by decide) (lyo_9_16 t23 (KP s23)).1 (lyo_9_16 t23 (KT s23)).1 (by decide) (le_ly (lyo_9_16 t23 (KP s23)).2) (le_ly (lyo_9_16 t23 (KT s23)).2) eh25
  refine ⟨(by first | decide | omega | ((try simp (disch := omega) only [wr_of] at *); omega)), ?_⟩
  intro h27 eh27 t27 u27
  have s27 := HX_trans s25 u27
  have C27 := CP_cp C25 t25 ov hL (j := 15) (m := 80) (u := 0) (by decide) (lyo_9_17 t25 (KP s25)).1 (lyo_9_17 t25 (KT s25)).1 (by decide) (le_ly (lyo_9_17 t25 (KP s25)).2) (le_ly (lyo_9_17 t25 (KT s25)).2) eh27
  refine ⟨(by first | decide | omega | ((try simp (disch := omega) only [wr_of] at *); omega)), ?_⟩
  intro h29 eh29 t29 u29
  have s29 := HX_trans s27 u29
  have C29 := CP_cp C27 t27 ov hL (j := 16) (m := 80) (u := 0) (by decide) (lyo_9_18 t27 (KP s27)).1 (lyo_9_18 t27 (KT s27)).1 (by decide) (le_ly (lyo_9_18 t27 (KP s27)).2) (le_ly (lyo_9_18 t27 (KT s27)).2) eh29
  intro h30 eh30 t30 u30
  have s30 := HX_trans s29 u30
  have C30 := CP_st C29 ov hL (j := 0) (i := 10) (by decide) (hn_obj t29 (KT s29) rfl rfl) (el_L' (vkO t29 (KP s29) rfl rfl)) eh30
  refine ⟨fun x g => 0 ≤ x ∧ x ≤ 120 ∧ CPd 18 (fun j i => SDa j i ∨ ((j = 10 ∨ j = 11) ∧ (i : Int) < x)) t p0 h g, fun x _ => (120 - x).toNat, ?_, ?_⟩
  · refine ⟨by omega, by omega, CP_mono C30 (fun j i z => z.elim (fun z => ?_) (fun z => by omega))⟩
    unfold SDa at z
    rcases z with ⟨rfl, rfl | rfl | rfl⟩ | ⟨rfl, q⟩ | ⟨rfl, q⟩ | ⟨rfl, q⟩ | ⟨q1, q2, q⟩ | ⟨rfl | rfl, q⟩ | ⟨rfl | rfl, q⟩
    · exact .inl (.inl (.inl (.inl (.inl (.inl (.inl (.inl (.inl (.inl (.inl (.inl (.inl (.inl (.inl (.inr ⟨rfl, rfl⟩)))))))))))))))
    · exact .inl (.inl (.inl (.inl (.inl (.inl (.inl (.inl (.inl (.inl (.inl (.inl (.inl (.inl (.inr ⟨rfl, rfl⟩))))))))))))))
    · exact .inr ⟨rfl, rfl⟩
    · exact .inl (.inl (.inl (.inl (.inl (.inl (.inl (.inl (.inl (.inl (.inl (.inl (.inl (.inr ⟨rfl, q⟩)))))))))))))
    · exact .inl (.inl (.inl (.inl (.inl (.inl (.inl (.inl (.inl (.inl (.inl (.inl (.inr ⟨rfl, q⟩))))))))))))
    · exact .inl (.inl (.inl (.inl (.inl (.inl (.inl (.inl (.inl (.inl (.inl (.inr ⟨rfl, q⟩)))))))))))
    · have : j = 4 ∨ j = 5 ∨ j = 6 ∨ j = 7 ∨ j = 8 ∨ j = 9 := by omega
      rcases this with rfl | rfl | rfl | rfl | rfl | rfl
      · exact .inl (.inl (.inl (.inl (.inl (.inl (.inl (.inl (.inl (.inl (.inr ⟨rfl, q⟩))))))))))
      · exact .inl (.inl (.inl (.inl (.inl (.inl (.inl (.inl (.inl (.inr ⟨rfl, q⟩)))))))))
      · exact .inl (.inl (.inl (.inl (.inl (.inl (.inl (.inl (.inr ⟨rfl, q⟩))))))))
      · exact .inl (.inl (.inl (.inl (.inl (.inl (.inl (.inr ⟨rfl, q⟩)))))))
      · exact .inl (.inl (.inl (.inl (.inl (.inl (.inr ⟨rfl, q⟩))))))
      · exact .inl (.inl (.inl (.inl (.inl (.inr ⟨rfl, q⟩)))))
    · exact .inl (.inl (.inl (.inl (.inr ⟨rfl, q⟩))))
    · exact .inl (.inl (.inl (.inr ⟨rfl, q⟩)))
    · exact .inl (.inl (.inr ⟨rfl, q⟩))
    · exact .inl (.inr ⟨rfl, q⟩)
  · intro x31 h32 t32 s32 rx31 z33
    obtain ⟨a1, a2, C32⟩ := z33
    refine ⟨fun c55 => ?_, fun c55 => ?_⟩
    · refine ⟨fun x g => 0 ≤ x ∧ x ≤ 80 ∧ CPd 18 (fun j i => SDa j i ∨ ((j = 10 ∨ j = 11) ∧ i < 120) ∨ (j = 13 ∧ (i : Int) < x)) t p0 h g, fun x _ => (80 - x).toNat, ?_, ?_⟩
      · refine ⟨by omega, by omega, CP_mono C32 (fun j i z => z.imp_right fun y => by omega)⟩
      · intro x34 h35 t35 s35 rx34 z36
        obtain ⟨b1, b2, C35⟩ := z36
        refine ⟨fun c49 => ?_, fun c49 => ?_⟩
        · refine ⟨fun x g => 0 ≤ x ∧ x ≤ 40 ∧ CPd 18 (fun j i => SDa j i ∨ ((j = 10 ∨ j = 11) ∧ i < 120) ∨ (j = 13 ∧ i < 80) ∨ (j = 17 ∧ (i : Int) < x)) t p0 h g, fun x _ => (40 - x).toNat, ?_, ?_⟩
          · refine ⟨by omega, by omega, CP_mono C35 (fun j i z => z.imp_right fun y => by omega)⟩
          · intro x37 h38 t38 s38 rx37 z39
            obtain ⟨d1, d2, C38⟩ := z39
            refine ⟨fun c44 => ?_, fun c44 => ?_⟩
            · exact k _ (CP_mono C38 (fun j i z => z.imp_right fun y => by omega))
            · refine ⟨(KP s38), ?_⟩
              refine ⟨(by first | decide | omega | ((try simp (disch := omega) only [wr_of] at *); omega)), ?_⟩
              intro h42 eh42 t42 u42
              intro x43 ex43 rx43
              have C42 := CP_st C38 ov hL (j := 17) (i := x37.toNat) (by decide) (by rw [(lyo_9_19 t38 (KT s38)).2]; omega) (el_R' (vkA (u := 3) t38 (lyo_9_19 t38 (KP s38)).1 (by decide) (by rw [(lyo_9_19 t38 (KP s38)).2]; omega) rfl)) eh42
              have e43 : x43 = x37 + 1 := by rw [ex43, wr_of (by omega) (by omega)]
              exact ⟨⟨by omega, by omega, CP_mono C42 (fun j i z => z.elim (fun y => .inl (.inl y)) (fun y => Or.imp_left Or.inr (by omega)))⟩, by dsimp only; omega⟩
        · refine ⟨(KP s35), ?_⟩
          refine ⟨(by first | decide | omega | ((try simp (disch := omega) only [wr_of] at *); omega)), ?_⟩
          intro h47 eh47 t47 u47
          intro x48 ex48 rx48
          have C47 := CP_st C35 ov hL (j := 13) (i := x34.toNat) (by decide) (by rw [(lyo_9_15 t35 (KT s35)).2]; omega) (el_R' (vkA (u := 3) t35 (lyo_9_15 t35 (KP s35)).1 (by decide) (by rw [(lyo_9_15 t35 (KP s35)).2]; omega) rfl)) eh47
          have e48 : x48 = x34 + 1 := by rw [ex48, wr_of (by omega) (by omega)]
          exact ⟨⟨by omega, by omega, CP_mono C47 (fun j i z => z.elim (fun y => .inl (.inl y)) (fun y => Or.imp_left Or.inr (by omega)))⟩, by dsimp only; omega⟩
    · refine ⟨(KP s32), ?_⟩
      refine ⟨(by first | decide | omega | ((try simp (disch := omega) only [wr_of] at *); omega)), ?_⟩
      intro h52 eh52 t52 u52
      have s52 := HX_trans s32 u52
      have C52 := CP_st C32 ov hL (j := 10) (i := x31.toNat) (by decide) (by rw [(lyo_9_12 t32 (KT s32)).2]; omega) (el_R' (vkA (u := 3) t32 (lyo_9_12 t32 (KP s32)).1 (by decide) (by rw [(lyo_9_12 t32 (KP s32)).2]; omega) rfl)) eh52
      intro h53 eh53 t53 u53
      intro x54 ex54 rx54
      have C53 := CP_st C52 ov hL (j := 11) (i := x31.toNat) (by decide) (by rw [(lyo_9_13 t52 (KT s52)).2]; omega) (el_I' t52 (vkA (u := 2) t52 (lyo_9_13 t52 (KP s52)).1 (by decide) (by rw [(lyo_9_13 t52 (KP s52)).2]; omega) rfl)) eh53
      have e54 : x54 = x31 + 1 := by rw [ex54, wr_of (by omega) (by omega)]
      exact ⟨⟨by omega, by omega, CP_mono C53 (fun j i z => z.elim (fun y => .inl (.inl (.inl y))) (fun y => Or.imp_left (Or.imp_left Or.inr) (by omega)))⟩, by dsimp only; omega⟩
