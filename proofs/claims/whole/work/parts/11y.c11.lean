/-! PACK -/
/-- a package was added to the class's shelf: x, its number -/
def Apk (x : Int) (h h1 : XH) : Prop := Fr (fun b => b = 9 ∨ b = 10 ∨ b = 11) h h1 ∧ h1.length = h.length ∧ xhs h1 = xhs h ∧ hI h1 9 0 = x + 1 ∧ (∀ j, ¬ j = 0 → el h1 9 j = el h 9 j) ∧ hI h1 10 x.toNat = 0 ∧ hL h1 11 x.toNat = bit1 (40 + x.toNat) ∧ ∀ j, ¬ j = x.toNat → el h1 10 j = el h 10 j ∧ el h1 11 j = el h 11 j
set_option maxHeartbeats 1000000 in
theorem c_X8_addPack {x : Int} (bx : 0 ≤ x ∧ x < 12) {K : Int → XH → Prop} {h : XH} (T : HT h) (hx : hI h 9 0 = x) (k : ∀ h1, Apk x h h1 → K x h1) : w_X8_addPack K h := by
  unfold w_X8_addPack
  intro x1 ex1 rx1
  rw [hx] at ex1
  subst ex1
  refine ⟨(by first | decide | omega | ((try simp (disch := omega) only [wr_of] at *); omega)), ?_⟩
  intro h3 eh3 t3 u3
  refine c_X12_switchOf bx ?_
  intro h5 eh5 t5 u5
  intro h6 eh6 t6 u6
  have n10 : hn h 10 = 12 := lyn (c := 100) (n := 12) T rfl
  have n11 : hn h3 11 = 12 := lyn (c := 101) (n := 12) t3 rfl
  have s9 : ∀ j, el h5 9 j = el h 9 j := fun j => by rw [eh5, el_ne (by decide), eh3, el_ne (by decide)]
  have x9 : hI h5 9 0 = x1 := (congrArg gvI (s9 0)).trans hx
  refine k _ ⟨fun b _ n => ?_, by rw [eh6, len_sV, eh5, len_sV, eh3, len_sV], by rw [eh6, xhs_sV, eh5, xhs_sV, eh3, xhs_sV], ?_, fun j n => ?_, ?_, ?_, fun j n => ⟨?_, ?_⟩⟩
  · have f3 : sameC h h3 b := by rw [eh3]; exact sameC_sV (fun z => n (.inr (.inl z.symm)))
    have f5 : sameC h3 h5 b := by rw [eh5]; exact sameC_sV (fun z => n (.inr (.inr z.symm)))
    have f6 : sameC h5 h6 b := by rw [eh6]; exact sameC_sV (fun z => n (.inl z.symm))
    exact sameC_tr (sameC_tr f3 f5) f6
  · rw [eh6, x9, wr_of (by omega) (by omega)]
    exact hI_eq (hn_obj t5 (c := 9) (lyk (n := 20) t5 rfl) rfl rfl) ⟨by omega, by omega⟩
  · rw [eh6, el_ni (fun z => n z.symm)]
    exact s9 j
  · rw [eh6, hI_ne (by decide), eh5, hI_ne (by decide), eh3]
    exact hI_eq (by rw [n10]; omega) (rgk rfl)
  · rw [eh6, hL_ne (by decide), eh5]
    exact hL_eq (by rw [n11]; omega)
  · rw [eh6, el_ne (by decide), eh5, el_ne (by decide), eh3, el_ni (fun z => n z.symm)]
  · rw [eh6, el_ne (by decide), eh5, el_ni (fun z => n z.symm), eh3, el_ne (by decide)]
