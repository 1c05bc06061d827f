/-! WHAT HOLDS BETWEEN TWO CALLS: the cores of class and reference -/
theorem NeedR_fr {h h1 : XH} {q : Nat} {d : ND} (S : ∀ b, 468 ≤ b → b < h.length → sameC h h1 b) (z : NeedR h q d) : NeedR h1 q d := by
  obtain ⟨z1, z2, z3, z4, z5, z6, z7, bg, a1, a2, a3, a4, a5, a6, a7, a8, a9, a10⟩ := z
  have s0 := S q z4 (hk_lt z1 (by decide))
  have s1 : sameC h h1 (hR h q 1) := S _ z5 (hk_lt a1 (by decide))
  have s2 : sameC h h1 (hR h q 2) := S _ z6 (hk_lt a3 (by decide))
  have s3 : sameC h h1 (hR h q 3) := S _ z7 (hk_lt a5 (by decide))
  unfold NeedR
  rw [sameC_k s0, sameC_I s0, sameC_R s0 1, sameC_R s0 2, sameC_R s0 3, sameC_k s1, sameC_n s1, sameC_k s2, sameC_n s2, sameC_k s3, sameC_n s3]
  refine ⟨z1, z2, z3, z4, z5, z6, z7, bg, a1, a2, a3, a4, a5, a6, a7, a8, fun i hi => by rw [sameC_I s2]; exact a9 i hi, fun i hi => ?_⟩
  obtain ⟨b1, b2, b3⟩ := a10 i hi
  refine ⟨by rw [sameC_I s1]; exact b1, b2, fun j hj => ?_⟩
  rw [sameC_I s3, sameC_I s3, sameC_I s3]
  exact b3 j hj
theorem NT_fr {h h1 : XH} {nd : Nat → ND} (S : ∀ b, 468 ≤ b → b < h.length → sameC h h1 b) (S4 : sameC h h1 440) (e6 : hR h1 437 6 = hR h 437 6) (e7 : hI h1 437 7 = hI h 437 7) (z : NT h nd) : NT h1 nd := by
  obtain ⟨z1, z2, z3, z4, z5, z6, z7, z8⟩ := z
  have s : sameC h h1 (hR h 437 6) := by
    rcases z7 with e | e
    · rw [e]; exact S4
    · exact S _ e (hk_lt z3 (by decide))
  unfold NT
  rw [e6, e7, sameC_k s, sameC_n s]
  refine ⟨z1, z2, z3, z4, z5, z6, z7, fun i hi => ?_⟩
  rw [sameC_R s]
  exact NeedR_fr S (z8 i hi)
/-- the tape -/
def TP (h : XH) : Prop := 0 ≤ hI h 3 1 ∧ hI h 3 1 ≤ 200 ∧ hI h 437 9 = hI h 3 1 ∧ hI h 437 10 = hI h 3 2 ∧ ∀ i : Nat, (i : Int) < hI h 3 1 → hI h 441 i = hI h 4 i ∧ 1 ≤ hI h 4 i ∧ hI h 4 i ≤ 255
theorem TP_fr {h h1 : XH} (s3 : sameC h h1 3) (s4 : sameC h h1 4) (s441 : sameC h h1 441) (e9 : hI h1 437 9 = hI h 437 9) (e10 : hI h1 437 10 = hI h 437 10) (z : TP h) : TP h1 := by
  unfold TP
  rw [sameC_I s3, sameC_I s3, e9, e10]
  refine ⟨z.1, z.2.1, z.2.2.1, z.2.2.2.1, fun i hi => ?_⟩
  rw [sameC_I s4, sameC_I s441]
  exact z.2.2.2.2 i hi
def Core (h : XH) (nd : Nat → ND) (o u : Int) : Prop := CS h 8 (nw h) nd ∧ WF (nw h) (hI h 437 7).toNat ∧ NT h nd ∧ PS h nd (hI h 437 7).toNat o u ∧ hI h 43 2 = 10 ∧ TP h
/-- both have kept their state, then changed it -/
theorem Core_chg {S : Nat → Prop} {h h1 h2 h3 h4 : XH} {nd : Nat → ND} {o u : Int} (T : HT h) (R : Core h nd o u) (r : Rmb o u h h1) (F : Fr S h1 h2) (s : ∀ b, S b → (b < 86 ∧ ¬ b = 3 ∧ ¬ b = 4 ∧ ¬ b = 43) ∨ b = 437 ∨ (442 ≤ b ∧ b < 468)) (l2 : h1.length ≤ h2.length) (e9 : hI h2 2 9 = hI h1 2 9) (e10 : hI h2 2 10 = hI h1 2 10) (e437 : ∀ j, j = 6 ∨ j = 7 ∨ j = 9 ∨ j = 10 → el h2 437 j = el h1 437 j) (r3 : Rrec ((o + u) % 10) u h2 h3) (T3 : HT h3) (F4 : Fr (fun b => b = 438) h3 h4) (nC : CS h4 8 (nw h4) nd) (nW : WF (nw h4) (hI h 437 7).toNat) : ∃ o' u', Core h4 nd o' u' := by
  obtain ⟨C, W, Nt, P, B, Tp⟩ := R
  have s' : ∀ b, S b → b < 86 ∨ b = 437 ∨ (440 ≤ b ∧ b < 468) := fun b x => by have := s b x; omega
  obtain ⟨o', u', P'⟩ := PS_rec T C W P r F s' l2 e9 e10 r3
  have L := HT_len T
  have rl := r.2.1
  have ql := r3.2.1
  have bb := P.1
  have Bs := bs_lt (k := ((o + u) % 10).toNat) (by omega)
  have G : ∀ b, b < h.length → ¬ b = 2 → ¬ (86 ≤ b ∧ b < 437) → ¬ S b → ¬ b = 437 → ¬ b = 438 → ¬ b = 439 → sameC h h4 b := fun b hb n1 n2 n3 n4 n5 n6 =>
    sameC_tr (sameC_tr (sameC_tr (r.1 b hb (fun y => y.elim n1 (fun y => n2 (by omega)))) (F b (by omega) n3)) (r3.1 b (by omega) (fun y => y.elim n4 n6))) (F4 b (by omega) n5)
  have G37 : ∀ j, j = 6 ∨ j = 7 ∨ j = 9 ∨ j = 10 → el h4 437 j = el h 437 j := fun j hj => by
    rw [sameC_el (F4 437 (by omega) (by decide)), r3.2.2.2.2.2.1 j (by omega) (by omega) (by omega), e437 j hj, sameC_el (r.1 437 (by omega) (by omega))]
  have g7 : hI h4 437 7 = hI h 437 7 := congrArg gvI (G37 7 (by decide))
  have c43 : sameC h h4 43 := G 43 (by omega) (by decide) (by decide) (fun y => by have := s 43 y; omega) (by decide) (by decide) (by decide)
  have T' : ∀ b, 468 ≤ b → b < h.length → sameC h h4 b := fun b hb hl => G b hl (by omega) (by omega) (fun y => by have := s b y; omega) (by omega) (by omega) (by omega)
  have one : ∀ b, b = 3 ∨ b = 4 ∨ b = 440 ∨ b = 441 → sameC h h4 b := fun b hb => G b (by omega) (by omega) (by omega) (fun y => by have := s b y; omega) (by omega) (by omega) (by omega)
  refine ⟨o', u', nC, by rw [g7]; exact nW, NT_fr T' (one 440 (by decide)) (congrArg gvR (G37 6 (by decide))) g7 Nt, ?_, by rw [sameC_I c43]; exact B, TP_fr (one 3 (by decide)) (one 4 (by decide)) (one 441 (by decide)) (congrArg gvI (G37 9 (by decide))) (congrArg gvI (G37 10 (by decide))) Tp⟩
  rw [g7]
  obtain ⟨p0, p1, p2, p3, p4, p5⟩ := P'
  have c2 : sameC h3 h4 2 := F4 2 (by omega) (by decide)
  have c7 : sameC h3 h4 437 := F4 437 (by omega) (by decide)
  refine ⟨p0, by rw [sameC_I c2]; exact p1, by rw [sameC_I c2]; exact p2, by rw [sameC_I c7]; exact p3, by rw [sameC_I c7]; exact p4, fun k hk => ?_⟩
  obtain ⟨y1, y2⟩ := p5 k hk
  have B2 := bs_lt (k := ((o' + k) % 10).toNat) (by omega)
  rw [pst_fr (F4 439 (by omega) (by decide))]
  refine ⟨CS_fr (fun j hj => F4 _ (by omega) (by omega)) (fun a ha => ?_) (WF_b y2) y1, y2⟩
  refine F4 a (by rcases ha with e | e <;> exact hk_lt e (by decide)) (fun e => ?_)
  subst e
  rw [(lstn T3).2.2.2.2.2.2.2.1] at ha
  omega
