/-! CALLS THAT CHANGE NO STATE; CALLS THAT ARE REFUSED; UNDO; THE TAPE -/
theorem Core_fr {S : Nat → Prop} {h h1 : XH} {nd : Nat → ND} {o u : Int} (T : HT h) (R : Core h nd o u) (f : Fr S h h1) (s : ∀ b, S b → b < 8 ∨ (44 ≤ b ∧ b < 86) ∨ b = 437 ∨ (441 ≤ b ∧ b < 468)) (e2 : ∀ j, j = 9 ∨ j = 10 → el h1 2 j = el h 2 j) (e437 : ∀ j, j = 2 ∨ j = 3 ∨ j = 6 ∨ j = 7 → el h1 437 j = el h 437 j) (tp : TP h1) : Core h1 nd o u := by
  obtain ⟨C, W, Nt, P, B, -⟩ := R
  have L := HT_len T
  have G : ∀ b, b < h.length → ¬ (b < 8 ∨ (44 ≤ b ∧ b < 86) ∨ b = 437 ∨ (441 ≤ b ∧ b < 468)) → sameC h h1 b := fun b hb n => f b hb (fun y => n (s b y))
  have X : ∀ a, hk h a = 1 ∨ hk h a = 11 → sameC h h1 a := txt_fr T f (fun b y => by have := s b y; omega)
  have en : nw h1 = nw h := nw_fr (G 438 (by omega) (by omega))
  have e7 : hI h1 437 7 = hI h 437 7 := congrArg gvI (e437 7 (by omega))
  unfold Core
  rw [en, e7]
  refine ⟨CS_fr (fun j hj => G (8 + j) (by omega) (by omega)) X (WF_b W) C, W, NT_fr (fun b hb hl => G b hl (by omega)) (G 440 (by omega) (by omega)) (congrArg gvR (e437 6 (by omega))) e7 Nt, ?_, by rw [sameC_I (G 43 (by omega) (by omega))]; exact B, tp⟩
  obtain ⟨p0, p1, p2, p3, p4, p5⟩ := P
  refine ⟨p0, (congrArg gvI (e2 9 (by omega))).trans p1, (congrArg gvI (e2 10 (by omega))).trans p2, (congrArg gvI (e437 2 (by omega))).trans p3, (congrArg gvI (e437 3 (by omega))).trans p4, fun k hk => ?_⟩
  obtain ⟨y1, y2⟩ := p5 k hk
  have B2 := bs_lt (k := ((o + k) % 10).toNat) (by omega)
  rw [pst_fr (G 439 (by omega) (by omega))]
  exact ⟨CS_fr (fun j hj => G _ (by omega) (by omega)) X (WF_b y2) y1, y2⟩
theorem el5 {h : XH} {x : Int} {j : Nat} (n : ¬ j = 5) : el (sI h 437 5 x) 437 j = el h 437 j := el_ni (fun z => n z.symm)
/-- the reference has set what it throws -/
theorem Core_5 {h : XH} {nd : Nat → ND} {o u x : Int} (T : HT h) (R : Core h nd o u) : Core (sI h 437 5 x) nd o u :=
  Core_fr (S := fun b => b = 437) T R (Fr_sV rfl) (fun b y => by omega) (fun j _ => el_ne (by decide)) (fun j hj => el5 (by omega)) (TP_fr (sameC_sV (by decide)) (sameC_sV (by decide)) (sameC_sV (by decide)) (hI_ni (by decide)) (hI_ni (by decide)) R.2.2.2.2.2)
/-- the class has thrown -/
theorem Core_nT {h : XH} {nd : Nat → ND} {o u : Int} (T : HT h) (R : Core h nd o u) : Core (nT h) nd o u := by
  have L := HT_len T
  have f : Fr (fun _ => False) h (nT h) := Fr_app
  have s : ∀ b, b < 468 → sameC h (nT h) b := fun b hb => f b (by omega) id
  exact Core_fr T R f (fun b y => y.elim) (fun j _ => sameC_el (s 2 (by decide)) j) (fun j _ => sameC_el (s 437 (by decide)) j) (TP_fr (s 3 (by decide)) (s 4 (by decide)) (s 441 (by decide)) (sameC_I (s 437 (by decide)) 9) (sameC_I (s 437 (by decide)) 10) R.2.2.2.2.2)
theorem d_undo {h : XH} {nd : Nat → ND} {o u : Int} (T : HT h) (R : Core h nd o u) {K : Int → XH → Prop} {J : XH → Prop} (k : ∀ h' o' u', HT h' → Core h' nd o' u' → Gr 0 0 h h' → J h') : w_X12_undo (fun x h1 => HT h1 → HX h h1 → rg x → w_X14_undo (fun y h2 => HT h2 → HX h1 h2 → rg y → ((x = y → J h2) ∧ (¬ (x = y) → K 0 h2))) h1) h := by
  obtain ⟨C, W, Nt, P, B, Tp⟩ := id R
  have L := HT_len T
  obtain ⟨b0, p1, p2, p3, p4, p5⟩ := id P
  refine c_X12_undo b0 T p1 p2 B (fun z => ?_) (fun z h1 r => ?_)
  · intro t1 u1 rx
    refine c_X14_undo (q := (o + u) % 10) (u := u) (by omega) T p4 p3 (fun _ h2 e2 => ?_) (fun z' => by omega)
    intro t2 u2 ry
    refine ⟨fun _ => k h2 o u t2 (by rw [e2]; exact Core_5 T R) (by rw [e2]; exact Gr_sV _ _ _ _), fun n => (n rfl).elim⟩
  · intro t1 u1 rx
    have s37 : sameC h h1 437 := r.1 437 (by omega) (by omega)
    refine c_X14_undo (q := (o + u) % 10) (u := u) (by omega) t1 (by rw [sameC_I s37]; exact p4) (by rw [sameC_I s37]; exact p3) (fun z' => by omega) (fun _ h2 r2 => ?_)
    intro t2 u2 ry
    refine ⟨fun _ => k h2 o (u - 1) t2 ?_ ⟨by have := r.2.1; have := r2.2.1; omega, by have := r.2.2.1; have := r2.2.2.1; omega⟩, fun n => (n rfl).elim⟩
    obtain ⟨q1, q2, q3⟩ := PS_undo T P z r r2
    have l1 := r.2.1
    have G : ∀ b, b < h.length → ¬ b = 2 → ¬ (8 ≤ b ∧ b < 43) → ¬ b = 437 → ¬ b = 438 → sameC h h2 b := fun b hb n1 n2 n3 n4 =>
      sameC_tr (r.1 b hb (fun y => y.elim n1 n2)) (r2.1 b (by omega) (fun y => y.elim n3 n4))
    have G37 : ∀ j, j = 6 ∨ j = 7 ∨ j = 9 ∨ j = 10 → el h2 437 j = el h 437 j := fun j hj => by
      rw [r2.2.2.2.2.2.2.1 j (by omega) (by omega) (by omega) (by omega), sameC_el s37]
    have e7 : hI h2 437 7 = hI h 437 7 := congrArg gvI (G37 7 (by omega))
    refine ⟨q2, by rw [e7]; exact q3, NT_fr (fun b hb hl => G b hl (by omega) (by omega) (by omega) (by omega)) (G 440 (by omega) (by decide) (by decide) (by decide) (by decide)) (congrArg gvR (G37 6 (by omega))) e7 Nt, by rw [e7]; exact q1, by rw [sameC_I (G 43 (by omega) (by decide) (by decide) (by decide) (by decide))]; exact B, TP_fr (G 3 (by omega) (by decide) (by decide) (by decide) (by decide)) (G 4 (by omega) (by decide) (by decide) (by decide) (by decide)) (G 441 (by omega) (by decide) (by decide) (by decide) (by decide)) (congrArg gvI (G37 9 (by omega))) (congrArg gvI (G37 10 (by omega))) Tp⟩
theorem d_clearTape {h : XH} {nd : Nat → ND} {o u : Int} (T : HT h) (R : Core h nd o u) {K : Int → XH → Prop} {J : XH → Prop} (k : ∀ h', HT h' → Core h' nd o u → Gr 0 0 h h' → J h') : w_X12_clearTape (fun x h1 => HT h1 → HX h h1 → rg x → w_X14_clearTape (fun y h2 => HT h2 → HX h1 h2 → rg y → ((x = y → J h2) ∧ (¬ (x = y) → K 0 h2))) h1) h := by
  have Tp := R.2.2.2.2.2
  unfold w_X12_clearTape w_X5_empty
  intro x ex rx h1 e1 t1 u1 _ _ _ _ _ _
  unfold w_X14_clearTape
  intro h2 e2 t2 u2 y ey ry h3 e3 t3 u3 _ _ _
  have s1 : ∀ b, ¬ b = 3 → sameC h h1 b := fun b n => by rw [e1]; exact sameC_sV (fun z => n z.symm)
  have s2 : ∀ b, ¬ b = 437 → sameC h1 h2 b := fun b n => by rw [e2]; exact sameC_sV (fun z => n z.symm)
  have s3 : ∀ b, ¬ b = 437 → sameC h2 h3 b := fun b n => by rw [e3]; exact sameC_sV (fun z => n z.symm)
  have s : ∀ b, ¬ b = 3 → ¬ b = 437 → sameC h h3 b := fun b n m => sameC_tr (sameC_tr (s1 b n) (s2 b m)) (s3 b m)
  have g37 : ∀ j, ¬ j = 5 → ¬ j = 9 → el h3 437 j = el h 437 j := fun j n m => by rw [e3, el_ni (fun z => m z.symm), e2, el_ni (fun z => n z.symm), sameC_el (s1 437 (by decide))]
  have e31 : hI h3 3 1 = 0 := by
    rw [sameC_I (s3 3 (by decide)), sameC_I (s2 3 (by decide)), e1]
    exact hI_eq (hn_obj T (c := 6) (lyk (n := 8) T rfl) rfl rfl) (rgk rfl)
  have e32 : hI h3 3 2 = hI h 3 2 := by rw [sameC_I (s3 3 (by decide)), sameC_I (s2 3 (by decide)), e1, hI_ni (by decide)]
  have e379 : hI h3 437 9 = 0 := by
    rw [e3]
    exact hI_eq (by rw [(lstn t2).2.2.2.2.1]; decide) (rgk rfl)
  refine ⟨fun _ => k h3 t3 ?_ ?_, fun n => (n ?_).elim⟩
  · refine Core_fr (S := fun b => b = 3 ∨ b = 437) T R (fun b _ n => s b (fun z => n (.inl z)) (fun z => n (.inr z))) (fun b y => by omega) (fun j _ => sameC_el (s 2 (by decide) (by decide)) j) (fun j hj => g37 j (by omega) (by omega)) ?_
    unfold TP
    rw [e31, e32, e379]
    refine ⟨by decide, by decide, rfl, ?_, fun i hi => by omega⟩
    exact (congrArg gvI (g37 10 (by decide) (by decide))).trans Tp.2.2.2.1
  · rw [e3, e2, e1]
    exact ⟨by rw [len_sV, len_sV, len_sV]; omega, by rw [xhs_sV, xhs_sV, xhs_sV]; omega⟩
  · rw [ex, ey, e2, hI_ni (by decide), sameC_I (s1 437 (by decide))]
    exact Tp.2.2.1.symm
theorem d_errorPosition {h : XH} {nd : Nat → ND} {o u : Int} (T : HT h) (R : Core h nd o u) {K : Int → XH → Prop} {J : XH → Prop} (k : ∀ h', HT h' → Core h' nd o u → Gr 0 0 h h' → J h') : w_X12_errorPosition (fun x => rg x → w_X14_errorPosition (fun y h2 => HT h2 → HX h h2 → rg y → ((x = y → J h2) ∧ (¬ (x = y) → K 0 h2))) h) h := by
  have Tp := R.2.2.2.2.2
  unfold w_X12_errorPosition w_X5_errorAt
  intro _ _
  unfold w_X14_errorPosition
  intro h1 e1 t1 u1 _ _ _
  refine ⟨fun _ => k h1 t1 (by rw [e1]; exact Core_5 T R) (by rw [e1]; exact Gr_sV _ _ _ _), fun n => (n ?_).elim⟩
  rw [e1, hI_ni (by decide)]
  exact Tp.2.2.2.1.symm
