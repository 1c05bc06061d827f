/-! COPIES OF STATES; WHAT IS KEPT FOR UNDO -/
theorem CP_sub {N n o t p : Nat} {D E : Nat → Nat → Prop} {h h1 h2 : XH} (c : CPd N D t p h h1) (ov : p + N ≤ t ∨ t + N ≤ p) (hp : p + N ≤ h.length) (hq : t + N ≤ h.length) (hn : o + n ≤ N) (s : CPd n E (t + o) (p + o) h1 h2) : CPd N (fun j i => (D j i ∧ ¬ (o ≤ j ∧ j < o + n)) ∨ (o ≤ j ∧ j < o + n ∧ E (j - o) i)) t p h h2 := by
  refine ⟨Fr_tr c.1 (by rw [c.2.1]; exact Nat.le_refl _) (Fr_mono s.1 (fun b z => by omega)), by rw [s.2.1]; exact c.2.1, by rw [s.2.2.1]; exact c.2.2.1, fun j i hj z => ?_⟩
  by_cases q : o ≤ j ∧ j < o + n
  · rcases z with z | z
    · exact absurd q z.2
    · have e := s.2.2.2 (j - o) i (by omega) z.2.2
      rw [show t + o + (j - o) = t + j by omega, show p + o + (j - o) = p + j by omega] at e
      rw [e]
      exact sameC_el (CP_src c ov hp hj) i
  · rcases z with z | z
    · rw [sameC_el (s.1 (t + j) (by rw [c.2.1]; omega) (fun y => q (by omega)))]
      exact c.2.2.2 j i hj z.1
    · exact absurd ⟨z.1, z.2.1⟩ q
theorem FDs_SD {j i : Nat} (z : FDs j i) : SDa j i ∨ ((j = 10 ∨ j = 11) ∧ i < 120) ∨ (j = 13 ∧ i < 80) ∨ (j = 17 ∧ i < 40) := by
  unfold FDs at z
  unfold SDa
  simpa only [or_assoc] using z
set_option maxHeartbeats 1000000 in
theorem c_X11_copyFrom {t p0 : Nat} {K : XH → Prop} {h : XH} (T : HT h) (ht : hk h t = 12) (hp : hk h p0 = 12) (ov : p0 + 35 ≤ t ∨ t + 35 ≤ p0) (k : ∀ h1, CPd 35 FD t p0 h h1 → K h1) : w_X11_copyFrom t p0 K h := by
  unfold w_X11_copyFrom
  have KP : ∀ {g}, HX h g → hk g p0 = 12 := fun s => HX_hk s hp (by decide)
  have KT : ∀ {g}, HX h g → hk g t = 12 := fun s => HX_hk s ht (by decide)
  have hL : p0 + 35 ≤ h.length := hk_lt (lyo_12_10 T hp).1 (by decide)
  have hT : t + 35 ≤ h.length := hk_lt (lyo_12_10 T ht).1 (by decide)
  refine ⟨hp, ?_⟩
  refine c_X8_copyFrom T (lyo_12_0 T ht).1 (lyo_12_0 T hp).1 (by omega) ?_
  intro h2 d2
  intro t2 u2
  have s2 := u2
  have C2 := CP_sub (CP_0 35 t p0 h) ov hL hT (o := 1) (by decide) d2
  refine c_X6_copyFrom t2 (lyo_12_1 t2 (KT s2)).1 (lyo_12_1 t2 (KP s2)).1 (by omega) ?_
  intro h3 d3
  intro t3 u3
  have s3 := HX_trans s2 u3
  have C3 := CP_sub C2 ov hL hT (o := 19) (by decide) d3
  refine c_X6_copyFrom t3 (lyo_12_2 t3 (KT s3)).1 (lyo_12_2 t3 (KP s3)).1 (by omega) ?_
  intro h4 d4
  intro t4 u4
  have s4 := HX_trans s3 u4
  have C4 := CP_sub C3 ov hL hT (o := 23) (by decide) d4
  refine c_X6_copyFrom t4 (lyo_12_3 t4 (KT s4)).1 (lyo_12_3 t4 (KP s4)).1 (by omega) ?_
  intro h5 d5
  intro t5 u5
  have s5 := HX_trans s4 u5
  have C5 := CP_sub C4 ov hL hT (o := 27) (by decide) d5
  intro h6 eh6 t6 u6
  have s6 := HX_trans s5 u6
  have C6 := CP_st C5 ov hL (j := 0) (i := 4) (by decide) (hn_obj t5 (KT s5) rfl rfl) (el_I' t5 (vkO t5 (KP s5) rfl rfl)) eh6
  refine ⟨(by first | decide | omega | ((try simp (disch := omega) only [wr_of] at *); omega)), ?_⟩
  intro h8 eh8 t8 u8
  have s8 := HX_trans s6 u8
  have C8 := CP_cp C6 t6 ov hL (j := 31) (m := 3) (u := 1) (by decide) (lyo_12_5 t6 (KP s6)).1 (lyo_12_5 t6 (KT s6)).1 (by decide) (le_ly (lyo_12_5 t6 (KP s6)).2) (le_ly (lyo_12_5 t6 (KT s6)).2) eh8
  intro h9 eh9 t9 u9
  have s9 := HX_trans s8 u9
  have C9 := CP_st C8 ov hL (j := 0) (i := 6) (by decide) (hn_obj t8 (KT s8) rfl rfl) (el_I' t8 (vkO t8 (KP s8) rfl rfl)) eh9
  intro h10 eh10 t10 u10
  have s10 := HX_trans s9 u10
  have C10 := CP_st C9 ov hL (j := 0) (i := 7) (by decide) (hn_obj t9 (KT s9) rfl rfl) (el_I' t9 (vkO t9 (KP s9) rfl rfl)) eh10
  refine ⟨(by first | decide | omega | ((try simp (disch := omega) only [wr_of] at *); omega)), ?_⟩
  intro h12 eh12 t12 u12
  have s12 := HX_trans s10 u12
  have C12 := CP_cp C10 t10 ov hL (j := 32) (m := 3) (u := 0) (by decide) (lyo_12_8 t10 (KP s10)).1 (lyo_12_8 t10 (KT s10)).1 (by decide) (le_ly (lyo_12_8 t10 (KP s10)).2) (le_ly (lyo_12_8 t10 (KT s10)).2) eh12
  refine ⟨(by first | decide | omega | ((try simp (disch := omega) only [wr_of] at *); omega)), ?_⟩
  intro h14 eh14 t14 u14
  have s14 := HX_trans s12 u14
  have C14 := CP_cp C12 t12 ov hL (j := 33) (m := 3) (u := 1) (by decide) (lyo_12_9 t12 (KP s12)).1 (lyo_12_9 t12 (KT s12)).1 (by decide) (le_ly (lyo_12_9 t12 (KP s12)).2) (le_ly (lyo_12_9 t12 (KT s12)).2) eh14
  refine ⟨(by first | decide | omega | ((try simp (disch := omega) only [wr_of] at *); omega)), ?_⟩
  intro h16 eh16 t16 u16
  have s16 := HX_trans s14 u16
  have C16 := CP_cp C14 t14 ov hL (j := 34) (m := 120) (u := 0) (by decide) (lyo_12_10 t14 (KP s14)).1 (lyo_12_10 t14 (KT s14)).1 (by decide) (le_ly (lyo_12_10 t14 (KP s14)).2) (le_ly (lyo_12_10 t14 (KT s14)).2) eh16
  refine k _ (CP_mono C16 (fun j i z => ?_))
  rcases z with ⟨rfl, q⟩ | ⟨q1, q2, q⟩ | ⟨q1, q2, q⟩ | ⟨q1, q2, q⟩ | ⟨q1, q2, q⟩ | ⟨q1, q2, q⟩ | ⟨rfl, q⟩
  · rcases q with rfl | rfl | rfl
    · exact .inl (.inl (.inl (.inl (.inl (.inl (.inr ⟨rfl, rfl⟩))))))
    · exact .inl (.inl (.inl (.inl (.inr ⟨rfl, rfl⟩))))
    · exact .inl (.inl (.inl (.inr ⟨rfl, rfl⟩)))
  · exact .inl (.inl (.inl (.inl (.inl (.inl (.inl (.inl ⟨.inl ⟨.inl ⟨.inr ⟨q1, by omega, FDs_SD q⟩, by omega⟩, by omega⟩, by omega⟩)))))))
  · exact .inl (.inl (.inl (.inl (.inl (.inl (.inl (.inl ⟨.inl ⟨.inr ⟨q1, by omega, q⟩, by omega⟩, by omega⟩)))))))
  · exact .inl (.inl (.inl (.inl (.inl (.inl (.inl (.inl ⟨.inr ⟨q1, by omega, q⟩, by omega⟩)))))))
  · exact .inl (.inl (.inl (.inl (.inl (.inl (.inl (.inr ⟨q1, by omega, q⟩)))))))
  · have : j = 31 ∨ j = 32 ∨ j = 33 := by omega
    rcases this with rfl | rfl | rfl
    · exact .inl (.inl (.inl (.inl (.inl (.inr ⟨rfl, q⟩)))))
    · exact .inl (.inl (.inr ⟨rfl, q⟩))
    · exact .inl (.inr ⟨rfl, q⟩)
  · exact .inr ⟨rfl, q⟩
set_option maxHeartbeats 1000000 in
theorem c_J3_checkIndex_8e157 {p0 p1 : Int} {p2 : Nat} (hp : 0 ≤ p0 ∧ p0 < p1) {K : Int → Prop} {h : XH} (k : K p0) : w_J3_checkIndex_8e157 p0 p1 p2 K h := by
  unfold w_J3_checkIndex_8e157
  refine ⟨_, fun z1 => z1, ?_⟩
  refine ⟨fun c3 => ?_, fun c3 => ?_⟩
  · omega
  · refine ⟨fun c2 => ?_, fun c2 => ?_⟩
    · exact k
    · omega
set_option maxHeartbeats 1000000 in
theorem c_J15_checkIndex_7cf53 {p0 p1 : Int} (hp : 0 ≤ p0 ∧ p0 < p1) (rp : rg p0) {K : Int → Prop} {h : XH} (k : K p0) : w_J15_checkIndex_7cf53 p0 p1 K h := by
  unfold w_J15_checkIndex_7cf53
  refine c_J3_checkIndex_8e157 hp ?_
  intro _
  exact k
set_option maxHeartbeats 1000000 in
theorem c_Jx4a65c_elementData_915e3 {p0 : Int} (hp : 0 ≤ p0 ∧ p0 < 10) {K : Nat → Prop} {h : XH} (k : K (hR h 121 p0.toNat)) : w_Jx4a65c_elementData_915e3 p0 K h := by
  unfold w_Jx4a65c_elementData_915e3
  refine ⟨(by first | decide | omega | ((try simp (disch := omega) only [wr_of] at *); omega)), ?_⟩
  exact k
/-- the cell of the copy k -/
def bs (k : Nat) : Nat := if k = 0 then 86 else 87 + 35 * k
theorem bs_R {h : XH} (T : HT h) {k : Nat} (hk : k < 10) : hR h 121 k = bs k := by
  have : k = 0 ∨ k = 1 ∨ k = 2 ∨ k = 3 ∨ k = 4 ∨ k = 5 ∨ k = 6 ∨ k = 7 ∨ k = 8 ∨ k = 9 := by omega
  rcases this with rfl | rfl | rfl | rfl | rfl | rfl | rfl | rfl | rfl | rfl <;> exact lyR T rfl rfl
theorem bs_k {h : XH} (T : HT h) {k : Nat} (hk0 : k < 10) : hk h (bs k) = 12 := by
  have : k = 0 ∨ k = 1 ∨ k = 2 ∨ k = 3 ∨ k = 4 ∨ k = 5 ∨ k = 6 ∨ k = 7 ∨ k = 8 ∨ k = 9 := by omega
  rcases this with rfl | rfl | rfl | rfl | rfl | rfl | rfl | rfl | rfl | rfl <;> exact lyk (n := 11) T rfl
theorem bs_lt {k : Nat} (hk0 : k < 10) : 86 ≤ bs k ∧ bs k + 35 ≤ 437 := by unfold bs; split <;> omega
theorem bs_ne {k l : Nat} (hk0 : k < 10) (hl : l < 10) (n : ¬ k = l) : bs k + 35 ≤ bs l ∨ bs l + 35 ≤ bs k := by unfold bs; split <;> split <;> omega
set_option maxHeartbeats 1000000 in
theorem c_Jx4a65c_get_915e3 {p0 : Int} (hp : 0 ≤ p0 ∧ p0 < 10) (rp : rg p0) {K : Nat → Prop} {h : XH} (T : HT h) (hs : hI h 43 2 = 10) (k : K (bs p0.toNat)) : w_Jx4a65c_get_915e3 p0 K h := by
  unfold w_Jx4a65c_get_915e3
  refine c_J15_checkIndex_7cf53 (by omega) rp ?_
  intro rx1
  refine c_Jx4a65c_elementData_915e3 hp ?_
  show K (hR h 121 p0.toNat)
  rw [bs_R T (by omega)]
  exact k
set_option maxHeartbeats 1000000 in
theorem c_Jx4a65c_size_8abf5 {K : Int → Prop} {h : XH} (hs : hI h 43 2 = 10) (k : K 10) : w_Jx4a65c_size_8abf5 K h := by
  unfold w_Jx4a65c_size_8abf5
  rw [hs]
  exact k
