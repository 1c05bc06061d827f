/-! WHAT IS KEPT FOR UNDO: class and reference -/
/-- the class has kept its state: o the oldest copy, u how many there are -/
def Rmb (o u : Int) (h h1 : XH) : Prop := Fr (fun b => b = 2 ∨ (bs ((o + u) % 10).toNat ≤ b ∧ b < bs ((o + u) % 10).toNat + 35)) h h1 ∧ h1.length = h.length ∧ xhs h1 = xhs h ∧ hI h1 2 11 = 0 ∧ (u < 10 ∧ hI h1 2 9 = o ∧ hI h1 2 10 = u + 1 ∨ u = 10 ∧ hI h1 2 9 = (o + 1) % 10 ∧ hI h1 2 10 = 10) ∧ (∀ j i, j < 35 → FD j i → el h1 (bs ((o + u) % 10).toNat + j) i = el h (8 + j) i) ∧ ∀ j, ¬ j = 9 → ¬ j = 10 → ¬ j = 11 → el h1 2 j = el h 2 j
theorem lstn {h : XH} (T : HT h) : hk h 8 = 12 ∧ hk h 43 = 0 ∧ hk h 2 = 13 ∧ 11 < hn h 2 ∧ hn h 437 = 64 ∧ hn h 438 = 1957 ∧ hn h 439 = 19570 ∧ hk h 438 = 100 ∧ hk h 439 = 100 := ⟨lyk (n := 11) T rfl, lyk (n := 3) T rfl, lyk (n := 12) T rfl, by rw [lyn (c := 13) (n := 12) T rfl]; decide, lyn (c := 15) T rfl, lyn (c := 100) T rfl, lyn (c := 100) T rfl, lyk (n := 1957) T rfl, lyk (n := 19570) T rfl⟩
set_option maxHeartbeats 1000000 in
theorem c_X12_remember {o u : Int} (b0 : 0 ≤ o ∧ o < 10 ∧ 0 ≤ u ∧ u ≤ 10) {K : XH → Prop} {h : XH} (T : HT h) (ho : hI h 2 9 = o) (hu : hI h 2 10 = u) (hs : hI h 43 2 = 10) (k : ∀ h1, Rmb o u h h1 → K h1) : w_X12_remember K h := by
  unfold w_X12_remember
  intro h1 eh1 t1 u1
  have l1 : h1.length = h.length := by rw [eh1, len_sV]
  intro x2 ex2 rx2
  have o1 : hI h1 2 9 = o := by rw [eh1, hI_ni (by decide)]; exact ho
  have u1' : hI h1 2 10 = u := by rw [eh1, hI_ni (by decide)]; exact hu
  have s1 : hI h1 43 2 = 10 := by rw [eh1, hI_ne (by decide)]; exact hs
  have e2 : x2 = (o + u) % 10 := by
    rw [ex2, o1, u1', wr_of (by omega) (by omega)]
    exact irem_pos ⟨by omega, by omega⟩ (rgk rfl) (by omega) (by decide)
  refine ⟨_, fun h3 t3 s3 z4 => z4, ?_⟩
  refine ⟨fun c15 => ?_, fun c15 => ?_⟩
  · intro h13 eh13 t13 u13
    have s13 : hI h13 43 2 = 10 := by rw [eh13, hI_ne (by decide)]; exact s1
    have l13 : h13.length = h.length := by rw [eh13, len_sV, l1]
    refine ⟨_, fun h5 t5 s5 z6 => z6, ?_⟩
    refine ⟨fun c12 => ?_, fun c12 => ?_⟩
    · exact absurd c12 (by omega)
    · refine c_Jx4a65c_size_8abf5 (by assumption) ?_
      intro rx7
      refine ⟨fun c11 => ?_, fun c11 => ?_⟩
      · exact absurd c11 (by omega)
      · refine c_Jx4a65c_get_915e3 (by omega) (by assumption) t13 s13 ?_
        refine ⟨(bs_k t13 (by omega)), ?_⟩
        refine c_X11_copyFrom t13 (bs_k t13 (by omega)) (lstn t13).1 (by have := bs_lt (k := x2.toNat) (by omega); omega) ?_
        intro h10 d10
        intro t10 u10
        have B := bs_lt (k := ((o + u) % 10).toNat) (by omega)
        have e3 : x2.toNat = ((o + u) % 10).toNat := by rw [e2]
        rw [e3] at d10
        have C2 : sameC h13 h10 2 := d10.1 2 (by rw [l13]; have := T.2.1.2.2.2; have : lyN = 468 := rfl; omega) (by omega)
        refine k _ ⟨fun b hb n => ?_, by rw [d10.2.1, l13], by rw [d10.2.2.1, eh13, xhs_sV, eh1, xhs_sV], by rw [sameC_I C2, eh13, hI_ni (by decide), eh1]; exact hI_eq (lstn T).2.2.2.1 (rgk rfl), ?_, fun j i hj f => ?_, fun j n9 n10 n11 => ?_⟩
        · have n1 : ¬ b = 2 := fun z => n (.inl z)
          have f1 : sameC h h1 b := by rw [eh1]; exact sameC_sV (fun z => n1 z.symm)
          have f2 : sameC h1 h13 b := by rw [eh13]; exact sameC_sV (fun z => n1 z.symm)
          exact sameC_tr (sameC_tr f1 f2) (d10.1 b (by rw [l13]; exact hb) (fun z => n (.inr z)))
        · rw [sameC_I C2, sameC_I C2]
          refine .inr ⟨by omega, ?_, ?_⟩
          · rw [eh13, o1, wr_of (by omega) (by omega), irem_pos ⟨by omega, by omega⟩ (rgk rfl) (by omega) (by decide)]
            exact hI_eq (by have := (lstn t1).2.2.2.1; omega) ⟨by omega, by omega⟩
          · rw [eh13, hI_ni (by decide)]
            omega
        · rw [d10.2.2.2 j i hj f, eh13, el_ne (by omega), eh1, el_ne (by omega)]
        · rw [sameC_el C2, eh13, el_ni (fun z => n9 z.symm), eh1, el_ni (fun z => n11 z.symm)]
  · intro h14 eh14 t14 u14
    have s14 : hI h14 43 2 = 10 := by rw [eh14, hI_ne (by decide)]; exact s1
    have l14 : h14.length = h.length := by rw [eh14, len_sV, l1]
    refine ⟨_, fun h5 t5 s5 z6 => z6, ?_⟩
    refine ⟨fun c12 => ?_, fun c12 => ?_⟩
    · exact absurd c12 (by omega)
    · refine c_Jx4a65c_size_8abf5 (by assumption) ?_
      intro rx7
      refine ⟨fun c11 => ?_, fun c11 => ?_⟩
      · exact absurd c11 (by omega)
      · refine c_Jx4a65c_get_915e3 (by omega) (by assumption) t14 s14 ?_
        refine ⟨(bs_k t14 (by omega)), ?_⟩
        refine c_X11_copyFrom t14 (bs_k t14 (by omega)) (lstn t14).1 (by have := bs_lt (k := x2.toNat) (by omega); omega) ?_
        intro h10 d10
        intro t10 u10
        have B := bs_lt (k := ((o + u) % 10).toNat) (by omega)
        have e3 : x2.toNat = ((o + u) % 10).toNat := by rw [e2]
        rw [e3] at d10
        have C2 : sameC h14 h10 2 := d10.1 2 (by rw [l14]; have := T.2.1.2.2.2; have : lyN = 468 := rfl; omega) (by omega)
        refine k _ ⟨fun b hb n => ?_, by rw [d10.2.1, l14], by rw [d10.2.2.1, eh14, xhs_sV, eh1, xhs_sV], by rw [sameC_I C2, eh14, hI_ni (by decide), eh1]; exact hI_eq (lstn T).2.2.2.1 (rgk rfl), ?_, fun j i hj f => ?_, fun j n9 n10 n11 => ?_⟩
        · have n1 : ¬ b = 2 := fun z => n (.inl z)
          have f1 : sameC h h1 b := by rw [eh1]; exact sameC_sV (fun z => n1 z.symm)
          have f2 : sameC h1 h14 b := by rw [eh14]; exact sameC_sV (fun z => n1 z.symm)
          exact sameC_tr (sameC_tr f1 f2) (d10.1 b (by rw [l14]; exact hb) (fun z => n (.inr z)))
        · rw [sameC_I C2, sameC_I C2]
          refine .inl ⟨by omega, ?_, ?_⟩
          · rw [eh14, hI_ni (by decide)]
            exact o1
          · rw [eh14, u1', wr_of (by omega) (by omega)]
            exact hI_eq (by have := (lstn t1).2.2.2.1; omega) ⟨by omega, by omega⟩
        · rw [d10.2.2.2 j i hj f, eh14, el_ne (by omega), eh1, el_ne (by omega)]
        · rw [sameC_el C2, eh14, el_ni (fun z => n10 z.symm), eh1, el_ni (fun z => n11 z.symm)]
