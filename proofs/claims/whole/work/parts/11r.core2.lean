/-! CALLS THAT CHANGE NO STATE; CALLS THAT ARE REFUSED; UNDO; THE TAPE -/
theorem Core_fr {S : Nat → Prop} {h h1 : XH} {nd : Nat → ND} {o u : Int} (T : HT h) (R : Core h nd o u) (f : Fr S h h1) (s : ∀ b, S b → b < 8 ∨ (44 ≤ b ∧ b < 86) ∨ b = 437 ∨ (441 ≤ b ∧ b < 468)) (e2 : ∀ j, j = 9 ∨ j = 10 → el h1 2 j = el h 2 j) (e437 : ∀ j, j = 2 ∨ j = 3 ∨ j = 6 ∨ j = 7 → el h1 437 j = el h 437 j) (tp : TP h1) : Core h1 nd o u := by
  obtain ⟨C, W, Nt, P, B, -⟩ := R
  have L := HT_len T
  have G : ∀ b, b < h.length → ¬ (b < 8 ∨ (44 ≤ b ∧ b < 86) ∨ b = 437 ∨ (441 ≤ b ∧ b < 468)) → sameC h h1 b := fun b hb n => f b hb (fun y => n (s b y))
  have X : ∀ a, hk h a = 1 ∨ hk h a = 11 → sameC h h1 a := txt_fr T f (fun b y => by have := s b y; omega)
  have en : nw h1 = nw h := nw_fr (G 438 (by omega) (by omega))
  have e7 : hI h1 437 7 = hI h 437 7 := congrArg gvI (e437 7 (by omega))
  unfold Core
  rw [en, e7]
  refine ⟨CS_fr (fun j hj => G (8 + j) (by omega) (by omega)) X (WF_b W) C, W, NT_fr (fun b hb hl => G b hl (by omega)) (G 440 (by omega) (by omega)) (congrArg gvR (e437 6 (by omega))) e7 Nt, ?_, by rw [sameC_I (G 43 (by omega) (by omega))]; exact B, tp⟩
  obtain ⟨p0, p1, p2, p3, p4, p5⟩ := P
  refine ⟨p0, (congrArg gvI (e2 9 (by omega))).trans p1, (congrArg gvI (e2 10 (by omega))).trans p2, (congrArg gvI (e437 2 (by omega))).trans p3, (congrArg gvI (e437 3 (by omega))).trans p4, fun k hk => ?_⟩
  obtain ⟨y1, y2⟩ := p5 k hk
  have B2 := bs_lt (k := ((o + k) % 10).toNat) (by omega)
  rw [pst_fr (G 439 (by omega) (by omega))]
  exact ⟨CS_fr (fun j hj => G _ (by omega) (by omega)) X (WF_b y2) y1, y2⟩
theorem el5 {h : XH} {x : Int} {j : Nat} (n : ¬ j = 5) : el (sI h 437 5 x) 437 j = el h 437 j := el_ni (fun z => n z.symm)
/-- the reference has set what it throws -/
theorem Core_5 {h : XH} {nd : Nat → ND} {o u x : Int} (T : HT h) (R : Core h nd o u) : Core (sI h 437 5 x) nd o u :=
  Core_fr (S := fun b => b = 437) T R (Fr_sV rfl) (fun b y => by omega) (fun j _ => el_ne (by decide)) (fun j hj => el5 (by omega)) (TP_fr (sameC_sV (by decide)) (sameC_sV (by decide)) (sameC_sV (by decide)) (hI_ni (by decide)) (hI_ni (by decide)) R.2.2.2.2.2)
/-- the class has thrown -/
theorem Core_nT {h : XH} {nd : Nat → ND} {o u : Int} (T : HT h) (R : Core h nd o u) : Core (nT h) nd o u := by
  have L := HT_len T
  have f : Fr (fun _ => False) h (nT h) := Fr_app
  have s : ∀ b, b < 468 → sameC h (nT h) b := fun b hb => f b (by omega) id
  exact Core_fr T R f (fun b y => y.elim) (fun j _ => sameC_el (s 2 (by decide)) j) (fun j _ => sameC_el (s 437 (by decide)) j) (TP_fr (s 3 (by decide)) (s 4 (by decide)) (s 441 (by decide)) (sameC_I (s 437 (by decide)) 9) (sameC_I (s 437 (by decide)) 10) R.2.2.2.2.2)
