/-! CALLS SIDE BY SIDE: what is common to calls that set something in the state -/
/-- cells of a root -/
theorem R8_mk {h : XH} {N : Nat → Int} {nd : Nat → ND} {r : Nat} (C : hI h (rc r) 0 = nR N r 0 ∧
  (∀ w : Nat, w < 8 → (w : Int) < nR N r 0 → nR N r (1 + w) = -1 ∧ hR h (rc r + 1) w = 0 ∨ 0 ≤ nR N r (1 + w) ∧ AtomR h (hR h (rc r + 1) w) (nd (nR N r (1 + w)).toNat)) ∧
  hI h (rc r) 2 = nR N r 9 ∧
  (∀ p : Nat, p < 12 → nR N r (10 + p) = 0 ∧ hR h (rc r + 2) p = 0 ∨ 0 < nR N r (10 + p) ∧ SpanR h (hR h (rc r + 2) p) (nd (nR N r (10 + p) - 1).toNat)) ∧
  hI h (rc r) 4 = nR N r 22 ∧
  SetR N (hL h (rc r) 5) (fun p => nR N r (35 + p)) ∧ SetR N (hL h (rc r) 6) (fun p => nR N r (23 + p)) ∧
  hI h (rc r) 7 = nR N r 47 ∧
  (∀ i : Nat, i < 20 → (i : Int) < nR N r 47 → SetR N (hL h (rc r + 3) i) (fun p => nR N r (48 + 12 * i + p))) ∧
  hI h (rc r) 9 = nR N r 288 ∧ hI h (rc r) 10 = nR N r 289 ∧ hI h (rc r) 11 = nR N r 290) : CSR h 8 N nd r := by
  have e1 : 8 + 19 + 4 * r = rc r := by unfold rc; omega
  have e2 : 8 + 20 + 4 * r = rc r + 1 := by unfold rc; omega
  have e3 : 8 + 21 + 4 * r = rc r + 2 := by unfold rc; omega
  have e4 : 8 + 22 + 4 * r = rc r + 3 := by unfold rc; omega
  unfold CSR
  rw [e1, e2, e3, e4]
  exact C
theorem rc_lt {r : Nat} (h : r < 3) : 27 ≤ rc r ∧ rc r + 4 ≤ 39 := by unfold rc; omega
/-- what is known behind a call that keeps the state, then sets cells S of it; the reference then sets numbers of its row -/
def Setd (S : Nat → Prop) (h h4 g5 g7 : XH) (nd : Nat → ND) (x : BitVec 64) : Prop :=
  (∀ b, 8 ≤ b → b < 43 → ¬ S b → sameC h g7 b) ∧ (∀ b, 8 ≤ b → b < 43 → sameC h4 g7 b) ∧ (∀ a, hk h a = 1 ∨ hk h a = 11 → sameC h g7 a) ∧ nw g5 = nw h ∧
  (CS g7 8 (nw g7) nd → WF (nw g7) (hI h 437 7).toNat → ∃ o' u', Core g7 nd o' u') ∧ hI g7 437 5 = 0 ∧ hL g7 467 0 = x
theorem j_set {S : Nat → Prop} {h h2 h4 h5 g1 g5 g7 : XH} {nd : Nat → ND} {o u : Int} {x : BitVec 64} (T : HT h) (R : Core h nd o u) (r : Rmb o u h h2) (F4 : Fr S h2 h4) (s : ∀ b, S b → 8 ≤ b ∧ b < 43) (l4 : h4.length = h2.length) (T4 : HT h4) (e5 : h5 = sL h4 467 0 x) (T5 : HT h5) (e1 : g1 = sI h5 437 5 0) (r3 : Rrec ((o + u) % 10) u g1 g5) (T6 : HT g5) (F7 : Fr (fun b => b = 438) g5 g7) : Setd S h h4 g5 g7 nd x := by
  obtain ⟨C, W, Nt, P, B, Tp⟩ := id R
  have L := HT_len T
  have rl := r.2.1
  have bb := P.1
  have Bs := bs_lt (k := ((o + u) % 10).toNat) (by omega)
  have l1 : g1.length = h4.length := by rw [e1, len_sV, e5, len_sV]
  have ql := r3.2.1
  have F41 : Fr (fun b => b = 467 ∨ b = 437) h4 g1 := fun b _ n => by
    have f5 : sameC h4 h5 b := by rw [e5]; exact sameC_sV (fun z => n (.inl z.symm))
    have f1 : sameC h5 g1 b := by rw [e1]; exact sameC_sV (fun z => n (.inr z.symm))
    exact sameC_tr f5 f1
  have F : Fr (fun b => S b ∨ b = 467 ∨ b = 437) h2 g1 := fun b hb n => sameC_tr (F4 b hb (fun z => n (.inl z))) (F41 b (by omega) (fun z => n (.inr z)))
  have G : ∀ b, b < h.length → ¬ b = 2 → ¬ (86 ≤ b ∧ b < 437) → ¬ S b → ¬ b = 467 → ¬ b = 437 → ¬ b = 438 → ¬ b = 439 → sameC h g7 b := fun b hb n1 n2 n3 n4 n5 n6 n7 =>
    sameC_tr (sameC_tr (sameC_tr (r.1 b hb (fun y => y.elim n1 (fun y => n2 (by omega)))) (F b (by omega) (fun y => y.elim n3 (fun y => by omega)))) (r3.1 b (by omega) (fun y => y.elim n5 n7))) (F7 b (by omega) n6)
  have c2 : sameC h2 g1 2 := F 2 (by omega) (fun y => y.elim (fun y => by have := s 2 y; omega) (by decide))
  refine ⟨fun b x y n => G b (by omega) (by omega) (by omega) n (by omega) (by omega) (by omega) (by omega), fun b x y => ?_, fun a ha => ?_, ?_, fun nC nW => ?_, ?_, ?_⟩
  · exact sameC_tr (sameC_tr (F41 b (by omega) (by omega)) (r3.1 b (by omega) (by omega))) (F7 b (by omega) (by omega))
  · have ha4 : ¬ a < 468 := fun y => noTxt T y ha
    have hal : a < h.length := by rcases ha with e | e <;> exact hk_lt e (by decide)
    exact G a hal (by omega) (by omega) (fun y => by have := s a y; omega) (by omega) (by omega) (by omega) (by omega)
  · exact nw_fr (sameC_tr (sameC_tr (r.1 438 (by omega) (by omega)) (F 438 (by omega) (fun y => y.elim (fun y => by have := s _ y; omega) (by decide)))) (r3.1 438 (by omega) (by decide)))
  · refine Core_chg T R r F (fun b y => ?_) (by omega) (by rw [sameC_I c2]) (by rw [sameC_I c2]) (fun j hj => ?_) r3 T6 F7 nC nW
    · rcases y with y | y | y
      · have := s b y; omega
      · omega
      · omega
    · rw [e1, el_ni (by omega), e5, el_ne (by decide)]
      exact sameC_el (F4 437 (by omega) (fun y => by have := s _ y; omega)) j
  · rw [sameC_I (F7 437 (by omega) (by decide)), show hI g5 437 5 = hI g1 437 5 from congrArg gvI (r3.2.2.2.2.2.1 5 (by decide) (by decide) (by decide))]
    exact h5_0 T5 (rgk rfl) e1
  · rw [sameC_L (F7 467 (by omega) (by decide)), sameC_L (r3.1 467 (by omega) (by decide)), e1, hL_ne (by decide), e5]
    exact hL_eq (by rw [lyn (c := 101) (n := 1) T4 rfl]; decide)
/-- a number of the row is changed: who doesn't look at it -/
theorem CS_one {h g : XH} {N M : Nat → Int} {nd : Nat → ND} {r : Nat} (hr : r < 3) (G : ∀ c, 8 ≤ c → c < 43 → ¬ (rc r ≤ c ∧ c < rc r + 4) → sameC h g c) (X : ∀ a, hk h a = 1 ∨ hk h a = 11 → sameC h g a) {m : Nat} (W : WF N m) (E : ∀ i, ¬ (805 + 291 * r ≤ i ∧ i < 805 + 291 * r + 291) → M i = N i) (z : CS h 8 N nd) (zr : CSR g 8 M nd r) (wr : WRt M m r) : CS g 8 M nd ∧ WF M m := by
  have E' : VE N M := fun i _ n => E i (by omega)
  have hW := WF_b W
  have hv := WV_hp W.1
  have rb := rc_lt hr
  have er : ∀ q, ¬ q = r → q < 3 → ∀ k, k < 291 → nR M q k = nR N q k := fun q n hq k hk => by unfold nR; exact E _ (by omega)
  refine ⟨⟨CSV_ve E' hW.2.2.2 (CSV_cp (fun j i w x _ => sameC_el (G (8 + j) (by omega) (by omega) (by omega)) i) X hW z.1), CSP_ve E' hW.2.2.2 (CSP_cp (fun j i w x _ => sameC_el (G (8 + j) (by omega) (by omega) (by omega)) i) hW z.2.1), fun q hq => ?_, CST_ve E' hW.2.2.2 hv (fun i hi => E i (by omega)) (CST_cp (fun j i w _ => sameC_el (G (8 + j) (by omega) (by omega) (by omega)) i) z.2.2.2)⟩, WV_ve E' W.1, fun q hq => ?_, WT_ve E' (fun i hi => E i (by omega)) W.2.2⟩
  · by_cases e : q = r
    · rw [e]; exact zr
    · exact CSR_ve E' hW.2.2.2 hv (er q e hq) (CSR_cp (fun j i w _ => sameC_el (G _ (by omega) (by omega) (by unfold rc; omega)) i) X (z.2.2.1 q hq))
  · by_cases e : q = r
    · rw [e]; exact wr
    · exact WRt_ve E' (er q e hq) (W.2.1 q hq)
