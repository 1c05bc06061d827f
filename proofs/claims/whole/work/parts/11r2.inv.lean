/-! WHAT HOLDS BETWEEN TWO CALLS, with what was worked out and how far counts have come -/
def Inv (h : XH) (nd : Nat → ND) (o u : Int) (c : Nat) : Prop := Core h nd o u ∧ Bd h o u c ∧ CaC h (nw h) nd ∧ CaR h (nw h) nd
theorem BdN_mono {N : Nat → Int} {c d : Nat} (l : c ≤ d) (z : BdN N c) : BdN N d := by
  obtain ⟨a1, a2, a3, a4⟩ := z
  exact ⟨fun r hr => by have := a1 r hr; omega, by omega, fun m hm => by have := a3 m hm; omega, a4⟩
theorem own_fr {h h1 : XH} {k a b : Nat} (z : own h k a b) (s : sameC h h1 a) : own h1 k a b := ⟨(sameC_k s).trans z.1, z.2⟩
theorem StR_fr {h h1 : XH} (S : ∀ b, (446 ≤ b ∧ b ≤ 451 ∨ 458 ≤ b ∧ b ≤ 461 ∨ 468 ≤ b) → b < h.length → sameC h h1 b) (e : ∀ j, (24 ≤ j ∧ j ≤ 31) ∨ (52 ≤ j ∧ j ≤ 55) → el h1 437 j = el h 437 j) (z : StR h) : StR h1 := by
  obtain ⟨a3, a4, a5, a6, a7, ⟨b1, b2, b3, b4, b5, b6⟩, a8, a9, a10, a11, c1, c2, c3, c4, d1, d2, d3, d4, d5⟩ := z
  have os : ∀ {k a b : Nat}, own h k a b → k < 9999 → (446 ≤ b ∧ b ≤ 451 ∨ 458 ≤ b ∧ b ≤ 461) → sameC h h1 a := fun {k a b} o hk hb => S a (by rcases o.2 with x | x <;> omega) (hk_lt o.1 hk)
  have r : ∀ j, (24 ≤ j ∧ j ≤ 31) ∨ (52 ≤ j ∧ j ≤ 55) → hR h1 437 j = hR h 437 j := fun j hj => congrArg gvR (e j hj)
  have i : ∀ j, (24 ≤ j ∧ j ≤ 31) ∨ (52 ≤ j ∧ j ≤ 55) → hI h1 437 j = hI h 437 j := fun j hj => congrArg gvI (e j hj)
  have s24 := os a3 (by decide) (by omega)
  have s25 := os a4 (by decide) (by omega)
  have s26 := os a5 (by decide) (by omega)
  have s27 := os a6 (by decide) (by omega)
  have s28 := os a7 (by decide) (by omega)
  have s31 := os a9 (by decide) (by omega)
  have s52 := os c1 (by decide) (by omega)
  have s53 := os c2 (by decide) (by omega)
  have s54 := os c3 (by decide) (by omega)
  have s55 := os c4 (by decide) (by omega)
  unfold StR
  rw [r 24 (by omega), r 25 (by omega), r 26 (by omega), r 27 (by omega), r 28 (by omega), r 31 (by omega), r 52 (by omega), r 53 (by omega), r 54 (by omega), r 55 (by omega), sameC_n s24, sameC_n s25, sameC_n s26, sameC_n s27, sameC_n s28, sameC_n s31, sameC_n s52, sameC_n s53, sameC_n s54, sameC_n s55]
  exact ⟨own_fr a3 s24, own_fr a4 s25, own_fr a5 s26, own_fr a6 s27, own_fr a7 s28, ⟨b1, b2, b3, b4, b5, b6⟩, a8, own_fr a9 s31, a10, a11, own_fr c1 s52, own_fr c2 s53, own_fr c3 s54, own_fr c4 s55, d1, d2, d3, d4, d5⟩
/-- cells of what grows -/
theorem own_j {h : XH} (z : StR h) {j : Nat} (hj : owP j) : (hk h (hR h 437 j) = 100 ∨ hk h (hR h 437 j) = 101 ∨ hk h (hR h 437 j) = 102) ∧ hR h 437 j < h.length ∧ (446 ≤ hR h 437 j ∧ hR h 437 j ≤ 451 ∨ 458 ≤ hR h 437 j ∧ hR h 437 j ≤ 461 ∨ 468 ≤ hR h 437 j) := by
  obtain ⟨a3, a4, a5, a6, a7, -, -, a9, -, -, c1, c2, c3, c4, -⟩ := z
  have os : ∀ {k a b : Nat}, own h k a b → (k = 100 ∨ k = 101 ∨ k = 102) → (446 ≤ b ∧ b ≤ 451 ∨ 458 ≤ b ∧ b ≤ 461) → (hk h a = 100 ∨ hk h a = 101 ∨ hk h a = 102) ∧ a < h.length ∧ (446 ≤ a ∧ a ≤ 451 ∨ 458 ≤ a ∧ a ≤ 461 ∨ 468 ≤ a) := fun {k a b} o hk hb => ⟨by rw [o.1]; exact hk, hk_lt o.1 (by omega), by rcases o.2 with x | x <;> omega⟩
  have : j = 24 ∨ j = 25 ∨ j = 26 ∨ j = 27 ∨ j = 28 ∨ j = 31 ∨ j = 52 ∨ j = 53 ∨ j = 54 ∨ j = 55 := by unfold owP at hj; omega
  rcases this with rfl | rfl | rfl | rfl | rfl | rfl | rfl | rfl | rfl | rfl
  · exact os a3 (by decide) (by decide)
  · exact os a4 (by decide) (by decide)
  · exact os a5 (by decide) (by decide)
  · exact os a6 (by decide) (by decide)
  · exact os a7 (by decide) (by decide)
  · exact os a9 (by decide) (by decide)
  · exact os c1 (by decide) (by decide)
  · exact os c2 (by decide) (by decide)
  · exact os c3 (by decide) (by decide)
  · exact os c4 (by decide) (by decide)
theorem DJo_fr {h h1 : XH} (S : ∀ b, (b = 440 ∨ b = 442 ∨ 468 ≤ b ∧ (hk h b = 106 ∨ hk h b = 14)) → b < h.length → sameC h h1 b) (L : 468 ≤ h.length) (e : ∀ j, j = 6 ∨ j = 7 ∨ owP j ∨ j = 39 ∨ j = 45 → el h1 437 j = el h 437 j) (z : DJo h) : DJo h1 := by
  obtain ⟨z1, ⟨z2, z3⟩, z4, z5⟩ := z
  have r : ∀ j, (j = 6 ∨ j = 7 ∨ owP j ∨ j = 39 ∨ j = 45) → hR h1 437 j = hR h 437 j := fun j hj => congrArg gvR (e j hj)
  have st : sameC h h1 (hR h 437 6) := by
    rcases z3 with x | x
    · rw [x]; exact S 440 (.inl rfl) (by omega)
    · exact S _ (.inr (.inr ⟨x, .inl z2⟩)) (hk_lt z2 (by decide))
  have s442 := S 442 (.inr (.inl rfl)) (by omega)
  have i7 : hI h1 437 7 = hI h 437 7 := congrArg gvI (e 7 (.inr (.inl rfl)))
  unfold DJo
  rw [r 6 (.inl rfl), r 39 (.inr (.inr (.inr (.inl rfl)))), r 45 (.inr (.inr (.inr (.inr rfl)))), i7, sameC_k st]
  refine ⟨fun j k hj hk n => by rw [r j (.inr (.inr (.inl hj))), r k (.inr (.inr (.inl hk)))]; exact z1 j k hj hk n, ⟨z2, z3⟩, fun i hi => ?_, fun j hj => ?_⟩
  · rw [sameC_R st]
    obtain ⟨y1, y2, y3⟩ := z4 i hi
    have s := S _ (.inr (.inr ⟨y2, .inr y1⟩)) (hk_lt y1 (by decide))
    rw [sameC_k s]
    exact ⟨y1, y2, fun j t hj a b => by rw [sameC_R s, r j (.inr (.inr (.inl hj)))]; exact y3 j t hj a b⟩
  · rw [r j (.inr (.inr (.inl hj)))]
    obtain ⟨y1, y2, y3⟩ := z5 j hj
    exact ⟨fun p hp => by rw [sameC_R s442]; exact y1 p hp, y2, y3⟩
/-- the class has forgotten what it had worked out -/
theorem CaC_0 {h h1 : XH} {N M : Nat → Int} {nd : Nat → ND} (z : CaC h N nd) (e : hI h1 2 11 = 0) (s : sameC h h1 58) : CaC h1 M nd := by
  unfold CaC
  rw [e]
  exact ⟨by decide, by decide, fun x => absurd x (by decide), fun x => absurd x (by decide), fun x => absurd x (by decide), fun x => absurd x (by decide), fun c hc => by rw [sameC_I s]; exact z.2.2.2.2.2.2 c hc⟩
theorem MetOK_fr {h h1 : XH} {N : Nat → Int} {nd : Nat → ND} (s : ∀ b, 45 ≤ b → b < 51 → sameC h h1 b) (z : MetOK h N nd) : MetOK h1 N nd := by
  unfold MetOK
  simp only [sameC_L (s 45 (by decide) (by decide)), sameC_L (s 46 (by decide) (by decide)), sameC_L (s 47 (by decide) (by decide)), sameC_L (s 48 (by decide) (by decide)), sameC_L (s 49 (by decide) (by decide)), sameC_L (s 50 (by decide) (by decide))]
  exact z
theorem TellOK_fr {h h1 : XH} {cs : List Cl} (s : ∀ b, 51 ≤ b → b < 57 → sameC h h1 b) (z : TellOK h cs) : TellOK h1 cs := by
  unfold TellOK
  simp only [sameC_I (s 51 (by decide) (by decide)), sameC_I (s 54 (by decide) (by decide)), sameC_I (s 55 (by decide) (by decide)), sameC_I (s 56 (by decide) (by decide)), sameC_L (s 52 (by decide) (by decide)), sameC_L (s 53 (by decide) (by decide))]
  exact z
theorem CoreOK_fr {h h1 : XH} {l : List Nat} (s : ∀ b, b = 70 ∨ b = 71 → sameC h h1 b) (z : CoreOK h l) : CoreOK h1 l := by
  unfold CoreOK
  simp only [sameC_I (s 70 (by decide)), sameC_I (s 71 (by decide))]
  exact z
theorem ProofOK_fr {h h1 : XH} {cs : List Cl} {l : List Nat} (s : ∀ b, 70 ≤ b → b < 78 → sameC h h1 b) (z : ProofOK h cs l) : ProofOK h1 cs l := by
  unfold ProofOK
  simp only [sameC_I (s 70 (by decide) (by decide)), sameC_I (s 75 (by decide) (by decide)), sameC_I (s 76 (by decide) (by decide)), sameC_L (s 73 (by decide) (by decide)), sameC_L (s 74 (by decide) (by decide))]
  exact z
theorem CaC_fr {h h1 : XH} {N : Nat → Int} {nd : Nat → ND} (s : ∀ b, 44 ≤ b → b < 79 → sameC h h1 b) (e : el h1 2 11 = el h 2 11) (z : CaC h N nd) : CaC h1 N nd := by
  have i : hI h1 2 11 = hI h 2 11 := congrArg gvI e
  obtain ⟨a1, a2, a3, a4, a5, a6, a7⟩ := z
  unfold CaC
  rw [i]
  exact ⟨a1, a2, fun x => MetOK_fr (fun b x y => s b (by omega) (by omega)) (a3 x), fun x => TellOK_fr (fun b x y => s b (by omega) (by omega)) (a4 x), fun x => CoreOK_fr (fun b x => s b (by omega) (by omega)) (a5 x), fun x => ProofOK_fr (fun b x y => s b (by omega) (by omega)) (a6 x), fun c hc => by rw [sameC_I (s 58 (by decide) (by decide))]; exact a7 c hc⟩
theorem CapG_fr {h h1 : XH} {nd nd1 : Nat → ND} (t : StR h) (S : ∀ b, (446 ≤ b ∧ b ≤ 451 ∨ 458 ≤ b ∧ b ≤ 461 ∨ 468 ≤ b) → b < h.length → sameC h h1 b) (e : ∀ j, (24 ≤ j ∧ j ≤ 31) ∨ j = 39 ∨ j = 45 ∨ (52 ≤ j ∧ j ≤ 55) → el h1 437 j = el h 437 j) (ag : ∀ i, 5000 ≤ i → nd1 i = nd i) (z : CapG h nd) : CapG h1 nd1 := by
  obtain ⟨a3, -, -, -, -, -, -, a9, -, -, c1, -⟩ := t
  have os : ∀ {k a b : Nat}, own h k a b → k < 9999 → (446 ≤ b ∧ b ≤ 451 ∨ 458 ≤ b ∧ b ≤ 461) → sameC h h1 a := fun {k a b} o hk hb => S a (by rcases o.2 with x | x <;> omega) (hk_lt o.1 hk)
  have r : ∀ j, (24 ≤ j ∧ j ≤ 31) ∨ j = 39 ∨ j = 45 ∨ (52 ≤ j ∧ j ≤ 55) → hR h1 437 j = hR h 437 j := fun j hj => congrArg gvR (e j hj)
  unfold CapG
  rw [r 24 (by omega), r 31 (by omega), r 52 (by omega), r 39 (by omega), r 45 (by omega), sameC_n (os a3 (by decide) (by omega)), sameC_n (os a9 (by decide) (by omega)), sameC_n (os c1 (by decide) (by omega)), ag 5000 (by decide), ag 5001 (by decide), ag 5002 (by decide)]
  refine ⟨z.1, z.2.1, z.2.2.1, z.2.2.2.1.imp_right (fun y => ?_), z.2.2.2.2.imp_right (fun y => ?_)⟩
  · rw [sameC_k (S _ (by omega) (hk_lt y.1 (by decide)))]; exact y
  · rw [sameC_k (S _ (by omega) (hk_lt y.1 (by decide)))]; exact y
/-- the reference: nothing of what was worked out holds of what is now -/
theorem CaR_new {h h1 : XH} {N M : Nat → Int} {nd nd1 : Nat → ND} (L : 468 ≤ h.length) (S : ∀ b, (b = 440 ∨ b = 442 ∨ 446 ≤ b ∧ b ≤ 451 ∨ 458 ≤ b ∧ b ≤ 461 ∨ 468 ≤ b) → b < h.length → sameC h h1 b) (e : ∀ j, j = 6 ∨ j = 7 ∨ j = 39 ∨ j = 45 ∨ j = 12 ∨ (24 ≤ j ∧ j ≤ 33) ∨ j = 38 ∨ j = 40 ∨ j = 44 ∨ j = 46 ∨ (52 ≤ j ∧ j ≤ 55) → el h1 437 j = el h 437 j) (e4 : hI h1 437 4 = hI h 437 4 + 1) (ag : ∀ i, 5000 ≤ i → nd1 i = nd i) (z : CaR h N nd) : CaR h1 M nd1 := by
  obtain ⟨a1, a2, -, -, -, -, -, -, cg⟩ := z
  have i : ∀ j, j = 12 ∨ j = 30 ∨ j = 38 ∨ j = 40 ∨ j = 44 ∨ j = 46 → hI h1 437 j = hI h 437 j := fun j hj => congrArg gvI (e j (by omega))
  unfold CaR
  rw [i 12 (by omega), i 30 (by omega), i 38 (by omega), i 40 (by omega), i 44 (by omega), i 46 (by omega), e4]
  exact ⟨by omega, ⟨StR_fr (fun b x y => S b (by omega) y) (fun j hj => e j (by omega)) a2.1, DJo_fr (fun b x y => S b (by omega) y) L (fun j hj => e j (by unfold owP at hj; omega)) a2.2⟩, fun x => by omega, fun x => by omega, fun x => by omega, fun x => by omega, fun x => by omega, fun x => by omega, CapG_fr a2.1 (fun b x y => S b (by omega) y) (fun j hj => e j (by omega)) ag cg⟩
theorem SortOK_fr {h h1 : XH} {N : Nat → Int} (S : ∀ b, 468 ≤ b → b < h.length → sameC h h1 b) (s : sameC h h1 442) (z : SortOK h N) : SortOK h1 N := by
  intro p hp
  obtain ⟨a1, a2, a3⟩ := z p hp
  have s1 : sameC h h1 (hR h 442 p) := S _ a1.2 (hk_lt a1.1 (by decide))
  rw [sameC_R s, sameC_n s1, sameC_k s1]
  exact ⟨a1, a2, fun i hi => by rw [sameC_I s1]; exact a3 i hi⟩
theorem OrdOK_fr {h h1 : XH} {N : Nat → Int} {nd : Nat → ND} (S : ∀ b, 468 ≤ b → b < h.length → sameC h h1 b) (e : ∀ j, j = 37 ∨ j = 39 → el h1 437 j = el h 437 j) (z : OrdOK h N nd) : OrdOK h1 N nd := by
  obtain ⟨a1, a2, a3, a4⟩ := z
  have s1 : sameC h h1 (hR h 437 39) := S _ a1.2 (hk_lt a1.1 (by decide))
  have r : hR h1 437 39 = hR h 437 39 := congrArg gvR (e 39 (by omega))
  have i : hI h1 437 37 = hI h 437 37 := congrArg gvI (e 37 (by omega))
  unfold OrdOK
  rw [r, i, sameC_n s1, sameC_k s1]
  exact ⟨a1, a2, fun i hi => by rw [sameC_I s1]; exact a3 i hi, a4⟩
theorem TellOKR_fr {h h1 : XH} {cs : List Cl} (t : StR h) (S : ∀ b, (446 ≤ b ∧ b ≤ 450 ∨ 468 ≤ b) → b < h.length → sameC h h1 b) (e : ∀ j, 24 ≤ j ∧ j ≤ 29 → el h1 437 j = el h 437 j) (z : TellOKR h cs) : TellOKR h1 cs := by
  obtain ⟨a3, a4, a5, a6, a7, -⟩ := t
  have os : ∀ {k a b : Nat}, own h k a b → k < 9999 → (446 ≤ b ∧ b ≤ 450) → sameC h h1 a := fun {k a b} o hk hb => S a (by rcases o.2 with x | x <;> omega) (hk_lt o.1 hk)
  have r : ∀ j, 24 ≤ j ∧ j ≤ 29 → hR h1 437 j = hR h 437 j := fun j hj => congrArg gvR (e j hj)
  have i : hI h1 437 29 = hI h 437 29 := congrArg gvI (e 29 (by omega))
  have s24 := os a3 (by decide) (by omega)
  have s25 := os a4 (by decide) (by omega)
  have s26 := os a5 (by decide) (by omega)
  have s27 := os a6 (by decide) (by omega)
  have s28 := os a7 (by decide) (by omega)
  unfold TellOKR
  rw [i, r 24 (by omega), r 25 (by omega), r 26 (by omega), r 27 (by omega), r 28 (by omega), sameC_n s24]
  refine ⟨z.1, z.2.1, fun k hk => ?_⟩
  rw [sameC_I s26, sameC_I s27, sameC_I s28, sameC_L s24, sameC_L s25]
  exact z.2.2 k hk
theorem CoreOKR_fr {h h1 : XH} {l : List Nat} (S : ∀ b, (b = 453 ∨ 468 ≤ b) → b < h.length → sameC h h1 b) (e : el h1 437 45 = el h 437 45) (z : CoreOKR h l) : CoreOKR h1 l := by
  obtain ⟨a1, a2, a3⟩ := z
  have s1 : sameC h h1 (hR h 437 45) := S _ a1.2 (hk_lt a1.1 (by decide))
  have r : hR h1 437 45 = hR h 437 45 := congrArg gvR e
  unfold CoreOKR
  rw [r, sameC_n s1]
  exact ⟨own_fr a1 s1, a2, fun i hi => by rw [sameC_I s1]; exact a3 i hi⟩
theorem ProofOKR_fr {h h1 : XH} {cs : List Cl} {l : List Nat} (S : ∀ b, 454 ≤ b → b < 458 → sameC h h1 b) (e : el h1 437 47 = el h 437 47) (z : ProofOKR h cs l) : ProofOKR h1 cs l := by
  have i : hI h1 437 47 = hI h 437 47 := congrArg gvI e
  unfold ProofOKR
  simp only [i, sameC_L (S 454 (by decide) (by decide)), sameC_L (S 455 (by decide) (by decide)), sameC_I (S 456 (by decide) (by decide)), sameC_I (S 457 (by decide) (by decide))]
  exact z
theorem CaR_fr {h h1 : XH} {N : Nat → Int} {nd : Nat → ND} (S : ∀ b, (b = 440 ∨ b = 442 ∨ 446 ≤ b ∧ b ≤ 461 ∨ 468 ≤ b) → b < h.length → sameC h h1 b) (e : ∀ j, j = 4 ∨ j = 6 ∨ j = 7 ∨ j = 12 ∨ (24 ≤ j ∧ j ≤ 31) ∨ (37 ≤ j ∧ j ≤ 41) ∨ (44 ≤ j ∧ j ≤ 55) → el h1 437 j = el h 437 j) (l : 468 ≤ h.length) (z : CaR h N nd) : CaR h1 N nd := by
  obtain ⟨a1, a2, a3, a4, a5, a6, a7, a8, cg⟩ := z
  have i : ∀ j, j = 4 ∨ j = 6 ∨ j = 7 ∨ j = 12 ∨ (24 ≤ j ∧ j ≤ 31) ∨ (37 ≤ j ∧ j ≤ 41) ∨ (44 ≤ j ∧ j ≤ 55) → hI h1 437 j = hI h 437 j := fun j hj => congrArg gvI (e j hj)
  unfold CaR
  rw [i 4 (by omega), i 12 (by omega), i 30 (by omega), i 38 (by omega), i 40 (by omega), i 41 (by omega), i 44 (by omega), i 46 (by omega)]
  refine ⟨a1, ⟨StR_fr (fun b x y => S b (by omega) y) (fun j hj => e j (by omega)) a2.1, DJo_fr (fun b x y => S b (by omega) y) l (fun j hj => e j (by unfold owP at hj; omega)) a2.2⟩, fun x => SortOK_fr (fun b x y => S b (by omega) y) (S 442 (by omega) (by omega)) (a3 x), fun x => TellOKR_fr a2.1 (fun b x y => S b (by omega) y) (fun j hj => e j (by omega)) (a4 x), fun x => OrdOK_fr (fun b x y => S b (by omega) y) (fun j hj => e j (by omega)) (a5 x), a6, fun x => ⟨(a7 x).1, CoreOKR_fr (fun b x y => S b (by omega) y) (e 45 (by omega)) (a7 x).2⟩, fun x => ⟨(a8 x).1, ProofOKR_fr (fun b x y => S b (by omega) (by omega)) (e 47 (by omega)) (a8 x).2⟩, CapG_fr a2.1 (fun b x y => S b (by omega) y) (fun j hj => e j (by omega)) (fun _ _ => rfl) cg⟩
theorem Bd_mono {h : XH} {o u : Int} {c d : Nat} (l : c ≤ d) (z : Bd h o u c) : Bd h o u d := by
  obtain ⟨a1, a2, a3, a4, a5⟩ := z
  exact ⟨a1, by omega, by omega, BdN_mono l a4, fun k hk => BdN_mono l (a5 k hk)⟩
theorem Inv_mono {h : XH} {nd : Nat → ND} {o u : Int} {c d : Nat} (l : c ≤ d) (z : Inv h nd o u c) : Inv h nd o u d := ⟨z.1, Bd_mono l z.2.1, z.2.2⟩
/-- a call that asks: cells that are worked with alone are changed -/
theorem Inv_fr {S : Nat → Prop} {h h1 : XH} {nd : Nat → ND} {o u : Int} {c : Nat} (T : HT h) (R : Inv h nd o u c) (f : Fr S h h1) (s : ∀ b, S b → b < 8 ∨ (79 ≤ b ∧ b < 86) ∨ b = 437 ∨ b = 441 ∨ (443 ≤ b ∧ b < 446) ∨ (462 ≤ b ∧ b < 468)) (e2 : ∀ j, j = 9 ∨ j = 10 ∨ j = 11 → el h1 2 j = el h 2 j) (e437 : ∀ j, (2 ≤ j ∧ j ≤ 4) ∨ j = 6 ∨ j = 7 ∨ j = 12 ∨ (24 ≤ j ∧ j ≤ 33) ∨ (37 ≤ j ∧ j ≤ 41) ∨ (44 ≤ j ∧ j ≤ 55) → el h1 437 j = el h 437 j) (tp : TP h1) : Inv h1 nd o u c := by
  obtain ⟨R1, R2, R3, R4⟩ := R
  have L := HT_len T
  have G : ∀ b, b < h.length → ¬ (b < 8 ∨ (79 ≤ b ∧ b < 86) ∨ b = 437 ∨ b = 441 ∨ (443 ≤ b ∧ b < 446) ∨ (462 ≤ b ∧ b < 468)) → sameC h h1 b := fun b hb n => f b hb (fun y => n (s b y))
  have en : nw h1 = nw h := nw_fr (G 438 (by omega) (by omega))
  have ep : ∀ k, pst h1 k = pst h k := fun k => pst_fr (G 439 (by omega) (by omega)) k
  obtain ⟨b1, b2, b3, b4, b5⟩ := R2
  refine ⟨Core_fr T R1 f (fun b y => by have := s b y; omega) (fun j hj => e2 j (by omega)) (fun j hj => e437 j (by omega)) tp, ?_, ?_, ?_⟩
  · have i4 : hI h1 437 4 = hI h 437 4 := congrArg gvI (e437 4 (by omega))
    have i7 : hI h1 437 7 = hI h 437 7 := congrArg gvI (e437 7 (by omega))
    unfold Bd
    rw [i4, i7, en]
    exact ⟨b1, b2, b3, b4, fun k hk => by rw [ep]; exact b5 k hk⟩
  · rw [en]
    exact CaC_fr (fun b x y => G b (by omega) (by omega)) (e2 11 (by omega)) R3
  · rw [en]
    exact CaR_fr (fun b x y => G b y (by omega)) (fun j hj => e437 j (by omega)) L R4
/-- the counts behind a call that both kept their state for -/
theorem Bd_rec {S F : Nat → Prop} {h h1 h2 h3 h4 : XH} {nd : Nat → ND} {o u o1 u1 : Int} {c m : Nat} (T : HT h) (R : Bd h o u c) (P : PS h nd m o u) (r : Rmb o u h h1) (F2 : Fr S h1 h2) (s : ∀ b, S b → ¬ b = 439 ∧ ¬ b = 438) (l2 : h1.length ≤ h2.length) (e9 : hI h2 2 9 = hI h1 2 9) (e10 : hI h2 2 10 = hI h1 2 10) (e4 : hI h2 437 4 = hI h1 437 4) (r3 : Rrec ((o + u) % 10) u h2 h3) (F4 : Fr F h3 h4) (f : ∀ b, F b → ¬ b = 439 ∧ ¬ b = 2 ∧ ¬ b = 437) (P4 : hI h4 2 9 = o1 ∧ hI h4 2 10 = u1) (nb : BdN (nw h4) (c + 1)) (hc : c < 1000) (e7 : hI h4 437 7 ≤ ((c + 1 : Nat) : Int)) : Bd h4 o1 u1 (c + 1) := by
  obtain ⟨b1, b2, b3, b4, b5⟩ := R
  obtain ⟨r1, rl, -, -, rc, -, -⟩ := r
  obtain ⟨q1, ql, -, -, -, -, qn, qp, q4⟩ := r3
  have b0 := P.1
  have L := HT_len T
  have Bs := bs_lt (k := ((o + u) % 10).toNat) (by omega)
  have x37 : hI h1 437 4 = hI h 437 4 := sameC_I (r1 437 (by omega) (by omega)) 4
  have y37 : hI h4 437 4 = hI h3 437 4 := sameC_I (F4 437 (by omega) (fun y => (f _ y).2.2 rfl)) 4
  have c4 : hI h4 437 4 = hI h 437 4 + 1 := by rw [y37, q4, e4, x37, wr_of (by omega) (by omega)]
  have p4 : ∀ k, pst h4 k = pst h3 k := fun k => pst_fr (F4 439 (by omega) (fun y => (f _ y).1 rfl)) k
  have p2 : ∀ k, pst h2 k = pst h k := fun k => pst_fr (sameC_tr (r1 439 (by omega) (by omega)) (F2 439 (by omega) (fun y => (s _ y).1 rfl))) k
  have n2 : nw h2 = nw h := nw_fr (sameC_tr (r1 438 (by omega) (by omega)) (F2 438 (by omega) (fun y => (s _ y).2 rfl)))
  have z2 : sameC h2 h4 2 := sameC_tr (q1 2 (by omega) (by omega)) (F4 2 (by omega) (fun y => (f _ y).2.1 rfl))
  have g9 : o1 = hI h1 2 9 := by rw [← P4.1, sameC_I z2, e9]
  have g10 : u1 = hI h1 2 10 := by rw [← P4.2, sameC_I z2, e10]
  refine ⟨by omega, by omega, e7, nb, fun k hk => ?_⟩
  rw [p4]
  by_cases y : (o1 + (k : Int)) % 10 = (o + u) % 10
  · rw [y, qn, n2]
    exact BdN_mono (by omega) b4
  · rw [qp _ (by omega) (by omega), p2]
    rcases rc with ⟨u1', c9, c10⟩ | ⟨u1', c9, c10⟩
    · have := b5 k (by omega)
      rw [g9, c9]
      exact BdN_mono (by omega) this
    · have := b5 (k + 1) (by omega)
      have e : (o1 + (k : Int)) % 10 = (o + ((k + 1 : Nat) : Int)) % 10 := by rw [g9, c9]; omega
      rw [e]
      exact BdN_mono (by omega) this
theorem Inv_5 {h : XH} {nd : Nat → ND} {o u x : Int} {c : Nat} (T : HT h) (R : Inv h nd o u c) : Inv (sI h 437 5 x) nd o u c :=
  Inv_fr (S := fun b => b = 437) T R (Fr_sV rfl) (fun b y => by omega) (fun j _ => el_ne (by decide)) (fun j hj => el5 (by omega)) (TP_fr (sameC_sV (by decide)) (sameC_sV (by decide)) (sameC_sV (by decide)) (hI_ni (by decide)) (hI_ni (by decide)) R.1.2.2.2.2.2)
theorem Inv_nT {h : XH} {nd : Nat → ND} {o u : Int} {c : Nat} (T : HT h) (R : Inv h nd o u c) : Inv (nT h) nd o u c := by
  have L := HT_len T
  have f : Fr (fun _ => False) h (nT h) := Fr_app
  have s : ∀ b, b < 468 → sameC h (nT h) b := fun b hb => f b (by omega) id
  exact Inv_fr T R f (fun b y => y.elim) (fun j _ => sameC_el (s 2 (by decide)) j) (fun j _ => sameC_el (s 437 (by decide)) j) (TP_fr (s 3 (by decide)) (s 4 (by decide)) (s 441 (by decide)) (sameC_I (s 437 (by decide)) 9) (sameC_I (s 437 (by decide)) 10) R.1.2.2.2.2.2)
theorem BdN_sI {g5 g7 : XH} {N : Nat → Int} {i c : Nat} {x : Int} (e7 : g7 = sI g5 438 i x) (n2 : ¬ i = 2) (nr : ∀ r : Nat, r < 3 → ¬ i = 852 + 291 * r) (nm : ∀ m : Nat, m < 3 → ¬ i = 1714 + 81 * m) (nv : ¬ (4 ≤ i ∧ i < 805)) (ni : ∀ r : Nat, r < 3 → ¬ (828 + 291 * r ≤ i ∧ i < 840 + 291 * r)) (W : N 4 ≤ 40) (e : nw g5 = N) (b : BdN N c) : BdN (nw g7) (c + 1) := by
  have en : ∀ j, ¬ j = i → nw g7 j = N j := fun j n => by rw [← e, e7]; exact hI_ni (fun z => n z.symm)
  obtain ⟨a1, a2, a3, a4⟩ := b
  refine ⟨fun r hr => ?_, ?_, fun m hm => ?_, DJ_cg (fun j x y => en j (by omega)) W (fun r hr p hp => en _ (by have := ni r hr; omega)) a4⟩
  · have := a1 r hr
    have q : nR (nw g7) r 47 = nR N r 47 := en _ (fun z => nr r hr (by omega))
    omega
  · rw [en 2 (fun z => n2 z.symm)]; omega
  · have := a3 m hm
    rw [en _ (fun z => nm m hm z.symm)]; omega
/-- both have kept their state, then set something of it -/
theorem Inv_set {S : Nat → Prop} {h h2 h4 h5 g1 g5 g7 : XH} {nd : Nat → ND} {o u o1 u1 : Int} {c : Nat} {x : BitVec 64} (T : HT h) (R : Inv h nd o u c) (hc : c < 1000) (r : Rmb o u h h2) (F4 : Fr S h2 h4) (s : ∀ b, S b → 8 ≤ b ∧ b < 43) (l4 : h4.length = h2.length) (e5 : h5 = sL h4 467 0 x) (e1 : g1 = sI h5 437 5 0) (r3 : Rrec ((o + u) % 10) u g1 g5) (F7 : Fr (fun b => b = 438) g5 g7) (Kc : Core g7 nd o1 u1) (nb : nw g5 = nw h → BdN (nw h) c → BdN (nw g7) (c + 1)) : Inv g7 nd o1 u1 (c + 1) := by
  obtain ⟨R1, R2, R3, R4⟩ := R
  have L := HT_len T
  have b0 := R1.2.2.2.1.1
  have Bs := bs_lt (k := ((o + u) % 10).toNat) (by omega)
  have rl := r.2.1
  have l1 : g1.length = h4.length := by rw [e1, len_sV, e5, len_sV]
  have ql := r3.2.1
  have F41 : Fr (fun b => b = 467 ∨ b = 437) h4 g1 := fun b _ n => by
    have f5 : sameC h4 h5 b := by rw [e5]; exact sameC_sV (fun z => n (.inl z.symm))
    have f1 : sameC h5 g1 b := by rw [e1]; exact sameC_sV (fun z => n (.inr z.symm))
    exact sameC_tr f5 f1
  have F : Fr (fun b => S b ∨ b = 467 ∨ b = 437) h2 g1 := fun b hb n => sameC_tr (F4 b hb (fun z => n (.inl z))) (F41 b (by omega) (fun z => n (.inr z)))
  have G : ∀ b, b < h.length → ¬ b = 2 → ¬ (86 ≤ b ∧ b < 437) → ¬ S b → ¬ b = 467 → ¬ b = 437 → ¬ b = 438 → ¬ b = 439 → sameC h g7 b := fun b hb n1 n2 n3 n4 n5 n6 n7 =>
    sameC_tr (sameC_tr (sameC_tr (r.1 b hb (fun y => y.elim n1 (fun y => n2 (by omega)))) (F b (by omega) (fun y => y.elim n3 (fun y => by omega)))) (r3.1 b (by omega) (fun y => y.elim n5 n7))) (F7 b (by omega) n6)
  have n5 : nw g5 = nw h := nw_fr (sameC_tr (sameC_tr (r.1 438 (by omega) (by omega)) (F 438 (by omega) (fun y => y.elim (fun y => by have := s _ y; omega) (by decide)))) (r3.1 438 (by omega) (by decide)))
  have c2 : sameC h2 g1 2 := F 2 (by omega) (fun y => y.elim (fun y => by have := s 2 y; omega) (by decide))
  have e37 : ∀ j, ¬ j = 5 → el g1 437 j = el h2 437 j := fun j n => by
    rw [e1, el_ni (fun z => n z.symm), e5, el_ne (by decide)]
    exact sameC_el (F4 437 (by omega) (fun y => by have := s _ y; omega)) j
  have g37 : ∀ j, ¬ j = 2 → ¬ j = 3 → ¬ j = 4 → ¬ j = 5 → el g7 437 j = el h 437 j := fun j n2 n3 n4 n5 => by
    rw [sameC_el (F7 437 (by omega) (by decide)), r3.2.2.2.2.2.1 j n2 n3 n4, e37 j n5, sameC_el (r.1 437 (by omega) (by omega))]
  have k11 : hI g7 2 11 = 0 := by
    rw [sameC_I (F7 2 (by omega) (by decide)), sameC_I (r3.1 2 (by omega) (by decide)), sameC_I c2]
    exact r.2.2.2.1
  have q4 := r3.2.2.2.2.2.2.2.2
  have x4 : hI g1 437 4 = hI h2 437 4 := congrArg gvI (e37 4 (by decide))
  have y4 : hI h2 437 4 = hI h 437 4 := sameC_I (r.1 437 (by omega) (by omega)) 4
  have c4 : hI g7 437 4 = hI h 437 4 + 1 := by
    rw [sameC_I (F7 437 (by omega) (by decide)), q4, x4, y4, wr_of (by have := R2.1; omega) (by have := R2.2.1; omega)]
  refine ⟨Kc, ?_, CaC_0 R3 k11 (G 58 (by omega) (by decide) (by decide) (fun y => by have := s _ y; omega) (by decide) (by decide) (by decide) (by decide)), CaR_new L (fun b x y => G b y (by omega) (by omega) (fun y => by have := s _ y; omega) (by omega) (by omega) (by omega) (by omega)) (fun j hj => g37 j (by omega) (by omega) (by omega) (by omega)) c4 (fun _ _ => rfl) R4⟩
  refine Bd_rec T R2 R1.2.2.2.1 r F (fun b y => y.elim (fun y => by have := s b y; omega) (fun y => by omega)) (by omega) (by rw [sameC_I c2]) (by rw [sameC_I c2]) x4 r3 F7 (fun b y => by omega) ⟨Kc.2.2.2.1.2.1, Kc.2.2.2.1.2.2.1⟩ (nb n5 R2.2.2.2.1) hc ?_
  have : hI g7 437 7 = hI h 437 7 := congrArg gvI (g37 7 (by decide) (by decide) (by decide) (by decide))
  have := R2.2.2.1
  omega
/-- both have gone back -/
theorem Inv_und {h h1 h2 : XH} {nd : Nat → ND} {o u : Int} {c : Nat} (T : HT h) (R : Inv h nd o u c) (hc : c < 1000) (hu : 0 < u) (r : Cund o u h h1) (r2 : Rund ((o + u) % 10) u h1 h2) (Kc : Core h2 nd o (u - 1)) : Inv h2 nd o (u - 1) (c + 1) := by
  obtain ⟨R1, R2, R3, R4⟩ := R
  have L := HT_len T
  have b0 := R1.2.2.2.1.1
  have rl := r.2.1
  have G : ∀ b, b < h.length → ¬ b = 2 → ¬ (8 ≤ b ∧ b < 43) → ¬ b = 437 → ¬ b = 438 → sameC h h2 b := fun b hb n1 n2 n3 n4 =>
    sameC_tr (r.1 b hb (fun y => y.elim n1 n2)) (r2.1 b (by omega) (fun y => y.elim n3 n4))
  have s37 : sameC h h1 437 := r.1 437 (by omega) (by omega)
  have g37 : ∀ j, ¬ j = 2 → ¬ j = 3 → ¬ j = 4 → ¬ j = 5 → el h2 437 j = el h 437 j := fun j n2 n3 n4 n5 => by
    rw [r2.2.2.2.2.2.2.1 j n2 n3 n4 n5, sameC_el s37]
  have k11 : hI h2 2 11 = 0 := by
    rw [sameC_I (r2.1 2 (by omega) (by omega))]
    exact r.2.2.2.2.2.2.2
  have q4 := r2.2.2.2.2.2.2.2.2
  have q8 := r2.2.2.2.2.2.2.2.1
  have c4 : hI h2 437 4 = hI h 437 4 + 1 := by
    rw [q4, sameC_I s37, wr_of (by have := R2.1; omega) (by have := R2.2.1; omega)]
  have ep1 : ∀ k, pst h1 k = pst h k := fun k => pst_fr (r.1 439 (by omega) (by omega)) k
  have ep2 : ∀ k, pst h2 k = pst h k := fun k => pst_fr (G 439 (by omega) (by decide) (by decide) (by decide) (by decide)) k
  obtain ⟨d1, d2, d3, d4, d5⟩ := R2
  refine ⟨Kc, ⟨by omega, by omega, ?_, ?_, fun k hk => ?_⟩, CaC_0 R3 k11 (G 58 (by omega) (by decide) (by decide) (by decide) (by decide)), CaR_new L (fun b x y => G b y (by omega) (by omega) (by omega) (by omega)) (fun j hj => g37 j (by omega) (by omega) (by omega) (by omega)) c4 (fun _ _ => rfl) R4⟩
  · have : hI h2 437 7 = hI h 437 7 := congrArg gvI (g37 7 (by decide) (by decide) (by decide) (by decide))
    omega
  · have e1 : (((o + u) % 10 + 9) % 10) = (o + ((u - 1).toNat : Int)) % 10 := by omega
    rw [q8, ep1, e1]
    exact BdN_mono (by omega) (d5 (u - 1).toNat (by omega))
  · rw [ep2]
    exact BdN_mono (by omega) (d5 k (by omega))
theorem d_undo {h : XH} {nd : Nat → ND} {o u : Int} {c : Nat} (T : HT h) (R0 : Inv h nd o u c) (hc : c < 1000) {K : Int → XH → Prop} {J : XH → Prop} (k : ∀ h' o' u', HT h' → Inv h' nd o' u' (c + 1) → Gr 0 0 h h' → J h') : w_X12_undo (fun x h1 => HT h1 → HX h h1 → rg x → w_X14_undo (fun y h2 => HT h2 → HX h1 h2 → rg y → ((x = y → J h2) ∧ (¬ (x = y) → K 0 h2))) h1) h := by
  have R := R0.1
  obtain ⟨C, W, Nt, P, B, Tp⟩ := id R
  have L := HT_len T
  obtain ⟨b0, p1, p2, p3, p4, p5⟩ := id P
  refine c_X12_undo b0 T p1 p2 B (fun z => ?_) (fun z h1 r => ?_)
  · intro t1 u1 rx
    refine c_X14_undo (q := (o + u) % 10) (u := u) (by omega) T p4 p3 (fun _ h2 e2 => ?_) (fun z' => by omega)
    intro t2 u2 ry
    refine ⟨fun _ => k h2 o u t2 (by rw [e2]; exact Inv_mono (by omega) (Inv_5 T R0)) (by rw [e2]; exact Gr_sV _ _ _ _), fun n => (n rfl).elim⟩
  · intro t1 u1 rx
    have s37 : sameC h h1 437 := r.1 437 (by omega) (by omega)
    refine c_X14_undo (q := (o + u) % 10) (u := u) (by omega) t1 (by rw [sameC_I s37]; exact p4) (by rw [sameC_I s37]; exact p3) (fun z' => by omega) (fun _ h2 r2 => ?_)
    intro t2 u2 ry
    refine ⟨fun _ => k h2 o (u - 1) t2 (Inv_und T R0 hc z r r2 ?_) ⟨by have := r.2.1; have := r2.2.1; omega, by have := r.2.2.1; have := r2.2.2.1; omega⟩, fun n => (n rfl).elim⟩
    obtain ⟨q1, q2, q3⟩ := PS_undo T P z r r2
    have l1 := r.2.1
    have G : ∀ b, b < h.length → ¬ b = 2 → ¬ (8 ≤ b ∧ b < 43) → ¬ b = 437 → ¬ b = 438 → sameC h h2 b := fun b hb n1 n2 n3 n4 =>
      sameC_tr (r.1 b hb (fun y => y.elim n1 n2)) (r2.1 b (by omega) (fun y => y.elim n3 n4))
    have G37 : ∀ j, j = 6 ∨ j = 7 ∨ j = 9 ∨ j = 10 → el h2 437 j = el h 437 j := fun j hj => by
      rw [r2.2.2.2.2.2.2.1 j (by omega) (by omega) (by omega) (by omega), sameC_el s37]
    have e7 : hI h2 437 7 = hI h 437 7 := congrArg gvI (G37 7 (by omega))
    refine ⟨q2, by rw [e7]; exact q3, NT_fr (fun b hb hl => G b hl (by omega) (by omega) (by omega) (by omega)) (G 440 (by omega) (by decide) (by decide) (by decide) (by decide)) (congrArg gvR (G37 6 (by omega))) e7 Nt, by rw [e7]; exact q1, by rw [sameC_I (G 43 (by omega) (by decide) (by decide) (by decide) (by decide))]; exact B, TP_fr (G 3 (by omega) (by decide) (by decide) (by decide) (by decide)) (G 4 (by omega) (by decide) (by decide) (by decide) (by decide)) (G 441 (by omega) (by decide) (by decide) (by decide) (by decide)) (congrArg gvI (G37 9 (by omega))) (congrArg gvI (G37 10 (by omega))) Tp⟩
theorem d_clearTape {h : XH} {nd : Nat → ND} {o u : Int} {c : Nat} (T : HT h) (R0 : Inv h nd o u c) {K : Int → XH → Prop} {J : XH → Prop} (k : ∀ h', HT h' → Inv h' nd o u (c + 1) → Gr 0 0 h h' → J h') : w_X12_clearTape (fun x h1 => HT h1 → HX h h1 → rg x → w_X14_clearTape (fun y h2 => HT h2 → HX h1 h2 → rg y → ((x = y → J h2) ∧ (¬ (x = y) → K 0 h2))) h1) h := by
  have R := R0.1
  have Tp := R.2.2.2.2.2
  unfold w_X12_clearTape w_X5_empty
  intro x ex rx h1 e1 t1 u1 _ _ _ _ _ _
  unfold w_X14_clearTape
  intro h2 e2 t2 u2 y ey ry h3 e3 t3 u3 _ _ _
  have s1 : ∀ b, ¬ b = 3 → sameC h h1 b := fun b n => by rw [e1]; exact sameC_sV (fun z => n z.symm)
  have s2 : ∀ b, ¬ b = 437 → sameC h1 h2 b := fun b n => by rw [e2]; exact sameC_sV (fun z => n z.symm)
  have s3 : ∀ b, ¬ b = 437 → sameC h2 h3 b := fun b n => by rw [e3]; exact sameC_sV (fun z => n z.symm)
  have s : ∀ b, ¬ b = 3 → ¬ b = 437 → sameC h h3 b := fun b n m => sameC_tr (sameC_tr (s1 b n) (s2 b m)) (s3 b m)
  have g37 : ∀ j, ¬ j = 5 → ¬ j = 9 → el h3 437 j = el h 437 j := fun j n m => by rw [e3, el_ni (fun z => m z.symm), e2, el_ni (fun z => n z.symm), sameC_el (s1 437 (by decide))]
  have e31 : hI h3 3 1 = 0 := by
    rw [sameC_I (s3 3 (by decide)), sameC_I (s2 3 (by decide)), e1]
    exact hI_eq (hn_obj T (c := 6) (lyk (n := 8) T rfl) rfl rfl) (rgk rfl)
  have e32 : hI h3 3 2 = hI h 3 2 := by rw [sameC_I (s3 3 (by decide)), sameC_I (s2 3 (by decide)), e1, hI_ni (by decide)]
  have e379 : hI h3 437 9 = 0 := by
    rw [e3]
    exact hI_eq (by rw [(lstn t2).2.2.2.2.1]; decide) (rgk rfl)
  refine ⟨fun _ => k h3 t3 ?_ ?_, fun n => (n ?_).elim⟩
  · refine Inv_mono (Nat.le_succ c) (Inv_fr (S := fun b => b = 3 ∨ b = 437) T R0 (fun b _ n => s b (fun z => n (.inl z)) (fun z => n (.inr z))) (fun b y => by omega) (fun j _ => sameC_el (s 2 (by decide) (by decide)) j) (fun j hj => g37 j (by omega) (by omega)) ?_)
    unfold TP
    rw [e31, e32, e379]
    refine ⟨by decide, by decide, rfl, ?_, fun i hi => by omega⟩
    exact (congrArg gvI (g37 10 (by decide) (by decide))).trans Tp.2.2.2.1
  · rw [e3, e2, e1]
    exact ⟨by rw [len_sV, len_sV, len_sV]; omega, by rw [xhs_sV, xhs_sV, xhs_sV]; omega⟩
  · rw [ex, ey, e2, hI_ni (by decide), sameC_I (s1 437 (by decide))]
    exact Tp.2.2.1.symm
theorem d_errorPosition {h : XH} {nd : Nat → ND} {o u : Int} {c : Nat} (T : HT h) (R0 : Inv h nd o u c) {K : Int → XH → Prop} {J : XH → Prop} (k : ∀ h', HT h' → Inv h' nd o u (c + 1) → Gr 0 0 h h' → J h') : w_X12_errorPosition (fun x => rg x → w_X14_errorPosition (fun y h2 => HT h2 → HX h h2 → rg y → ((x = y → J h2) ∧ (¬ (x = y) → K 0 h2))) h) h := by
  have R := R0.1
  have Tp := R.2.2.2.2.2
  unfold w_X12_errorPosition w_X5_errorAt
  intro _ _
  unfold w_X14_errorPosition
  intro h1 e1 t1 u1 _ _ _
  refine ⟨fun _ => k h1 t1 (by rw [e1]; exact Inv_mono (Nat.le_succ c) (Inv_5 T R0)) (by rw [e1]; exact Gr_sV _ _ _ _), fun n => (n ?_).elim⟩
  rw [e1, hI_ni (by decide)]
  exact Tp.2.2.2.1.symm
