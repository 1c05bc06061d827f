/-! CALLS OF THE LAW: isOn -/
theorem bq_eq {x y : Int} {P Q : Prop} (a : bq x P) (b : bq y Q) (e : P ↔ Q) : x = y := by
  rcases a with ⟨a1, a2⟩ | ⟨a1, a2⟩ <;> rcases b with ⟨b1, b2⟩ | ⟨b1, b2⟩
  · omega
  · exact (b2 (e.mp a2)).elim
  · exact (a2 (e.mpr b2)).elim
  · omega
theorem finB_ {h3 : XH} {x y : Int} {J : XH → Prop} {K : Int → XH → Prop} (a : hI h3 437 5 = x) (b : x = 0 → hL h3 467 0 = i2l y) (v : y = 0 ∨ y = 1) (c : J h3) : w_X14_thrown (fun z => rg z → (((z = x → (∃ J' : Prop, (J' → (J h3)) ∧ ((¬ x = 0 → J') ∧ (¬ (¬ x = 0) → (∃ JB : BitVec 64 → Prop, (∀ (b : BitVec 64), JB b → (((hL h3 467 0 = b → J') ∧ (¬ (hL h3 467 0 = b) → (K 0 h3))))) ∧ ((y = 0 → (JB (0#64))) ∧ (¬ (y = 0) → (JB (1#64))))))))) ∧ (¬ (z = x) → (K 0 h3))))) h3 := by
  refine c_X14_thrown ?_
  intro _
  exact ⟨fun _ => ⟨J h3, id, fun _ => c, fun n => ⟨fun b => hL h3 467 0 = b, fun b e => ⟨fun _ => c, fun m => (m e).elim⟩, fun e => (b (by omega)).trans (by rw [e, i2l_0]), fun e => (b (by omega)).trans (by rw [show y = 1 by omega, i2l_1])⟩⟩, fun n => (n a).elim⟩
/-- the class has told its answer; the reference made some cells: what holds between calls holds on -/
theorem Inv_ask {h h6 g1 g2 : XH} {nd : Nat → ND} {o u : Int} {y : BitVec 64} {c s cc : Nat} (T : HT h) (R : Inv h nd o u cc) (e6 : h6 = sL h 467 0 y) (T6 : HT h6) (e1 : g1 = sI h6 437 5 0) (T1 : HT g1) (f : Fr (fun _ => False) g1 g2) (g : Gr c s g1 g2) : Inv g2 nd o u cc ∧ Gr c s h g2 ∧ hI g2 437 5 = 0 ∧ hL g2 467 0 = y := by
  have L := HT_len T
  have l1 : g1.length = h.length := by rw [e1, len_sV, e6, len_sV]
  have x1 : xhs g1 = xhs h := by rw [e1, xhs_sV, e6, xhs_sV]
  have F : Fr (fun b => b = 467 ∨ b = 437) h g2 := fun b hb n => by
    have f6 : sameC h h6 b := by rw [e6]; exact sameC_sV (fun z => n (.inl z.symm))
    have f1 : sameC h6 g1 b := by rw [e1]; exact sameC_sV (fun z => n (.inr z.symm))
    exact sameC_tr (sameC_tr f6 f1) (f b (by omega) id)
  have s37 : sameC g1 g2 437 := f 437 (by omega) id
  have g37 : ∀ j, ¬ j = 5 → el g2 437 j = el h 437 j := fun j n => by rw [sameC_el s37, e1, el_ni (fun z => n z.symm), e6, el_ne (by decide)]
  refine ⟨Inv_fr T R F (fun b y => by omega) (fun j _ => sameC_el (F 2 (by omega) (by decide)) j) (fun j hj => g37 j (by omega)) (TP_fr (F 3 (by omega) (by decide)) (F 4 (by omega) (by decide)) (F 441 (by omega) (by decide)) (congrArg gvI (g37 9 (by decide))) (congrArg gvI (g37 10 (by decide))) R.1.2.2.2.2.2), ⟨by have := g.1; omega, by have := g.2; omega⟩, ?_, ?_⟩
  · rw [sameC_I s37]
    exact h5_0 T6 (rgk rfl) e1
  · rw [sameC_L (f 467 (by omega) id), e1, hL_ne (by decide), e6]
    exact hL_eq (by rw [lyn (c := 101) (n := 1) T rfl]; decide)
theorem d_isOn {h : XH} {nd : Nat → ND} {o u p : Int} {c : Nat} (T : HT h) (R0 : Inv h nd o u c) (hc : c < 1000) {K : Int → XH → Prop} {J : XH → Prop} (k : ∀ h' o' u', HT h' → Inv h' nd o' u' (c + 1) → Gr 1 (n12 + xcs none) h h' → J h') : w_L_isOn p (fun x h2 => HT h2 → HX h h2 → rg x → (w_X14_isOn p (fun y h3 => HT h3 → HX h2 h3 → rg y → (y = 0 ∨ y = 1) → (w_X14_thrown (fun z => rg z → (((z = x → (∃ J' : Prop, (J' → (J h3)) ∧ ((¬ x = 0 → J') ∧ (¬ (¬ x = 0) → (∃ JB : BitVec 64 → Prop, (∀ (b : BitVec 64), JB b → (((hL h3 467 0 = b → J') ∧ (¬ (hL h3 467 0 = b) → (K 0 h3))))) ∧ ((y = 0 → (JB (0#64))) ∧ (¬ (y = 0) → (JB (1#64))))))))) ∧ (¬ (z = x) → (K 0 h3))))) h3)) h2)) h := by
  have R := R0.1
  obtain ⟨C, W, Nt, P, B, Tp⟩ := id R
  have L := HT_len T
  have hW := WF_b W
  have a1 : hI h 8 4 = hI h 438 1 := C.2.2.2.1
  have a2 : 0 ≤ hI h 438 1 ∧ hI h 438 1 ≤ 2 := ⟨W.2.2.1, W.2.2.2.1⟩
  have hr : hI h 438 1 = ((hI h 8 4).toNat : Int) := by omega
  have a3 : hI h 9 0 = hI h 438 0 := C.1.1
  have a4 : 0 ≤ hI h 438 0 ∧ hI h 438 0 ≤ 12 := ⟨hW.1, hW.2.1⟩
  refine c_L_isOn T (by omega) (by omega) (fun z => ?_) (fun z x h6 qx e6 => ?_)
  · intro t1 u1 rx
    have s8 : ∀ j, hI (nT h) 438 j = hI h 438 j := fun j => sameC_I (nT_s h (by omega)) j
    refine c_X14_isOn t1 ((s8 1).trans hr) (by omega) (by rw [s8]; exact a4) (fun _ g1 g2 tg e1 e2 => ?_) (fun z' => (z (by rw [s8] at z'; omega)).elim)
    intro t2 u2 ry vy
    obtain ⟨q1, q2, q3⟩ := bad_ T t1 R0 tg (rgk rfl) e1 e2
    exact finB_ q2 (fun n => by omega) vy (k g2 o u t2 (Inv_mono (Nat.le_succ c) q1) (Gr_mono q3 (Nat.le_refl _) (by omega)))
  · intro t1 u1 rx
    have s8 : ∀ j, hI h6 438 j = hI h 438 j := fun j => by rw [e6, hI_ne (by decide)]
    refine c_X14_isOn t1 ((s8 1).trans hr) (by omega) (by rw [s8]; exact a4) (fun n => (n (by rw [s8]; omega)).elim) (fun _ g1 g2 a y tg e1 sa qy => ?_)
    intro t2 u2 ry vy
    obtain ⟨q1, q2, q3, q4⟩ := Inv_ask T R0 e6 t1 e1 tg sa.1 sa.2.1
    have S := (R8 (C.2.2.1 (hI h 8 4).toNat (by omega))).2.2.2.2.2.1.2.1 p.toNat (by omega)
    have e : x = y := by
      refine bq_eq qx qy (S.trans ?_)
      rw [e1, hI_ne (by decide), s8]
      show 1000000 ≤ nw h (805 + 291 * (hI h 8 4).toNat + (35 + p.toNat)) ↔ 1000000 ≤ nw h (805 + 291 * (hI h 8 4).toNat + 35 + p.toNat)
      rw [Nat.add_assoc (805 + 291 * (hI h 8 4).toNat) 35]
    exact finB_ q3 (fun _ => by rw [q4, e]) vy (k g2 o u t2 (Inv_mono (Nat.le_succ c) q1) (Gr_mono q2 (Nat.le_refl _) (by omega)))
