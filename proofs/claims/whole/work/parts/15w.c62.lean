/-! CALLS THAT READ A TEXT AND KEEP A NEED, both sides -/
theorem dsetT3 {S : Nat → Prop} {N' : Nat → Int} {h : XH} {nd : Nat → ND} {o u x a1 a2 a3 : Int} {P1 P2 : Prop} {r : Int ⊕ ND} {L : List Int} {c m : Nat} {wL : (Int → XH → Prop) → Prop} {wR : XH → (Int → XH → Prop) → Prop} (T : HT h) (R : Inv h nd o u c) (hc : c < 1000) (i7 : hI h 437 7 = (m : Int)) (hs : ∀ b, S b → 8 ≤ b ∧ b < 43) (Z9 : Tape h 437 9 441 L) (ra : rg a1 ∧ rg a2 ∧ rg a3) (nz : ¬ a1 = 0 ∧ ¬ a2 = 0 ∧ ¬ a3 = 0)
    (B' : P1 → P2 → BdN (nw h) c → BdN N' (c + 1)) (W' : P1 → P2 → WF N' (m + 1))
    (A : ∀ K : Int → XH → Prop, (¬ P1 → K a1 (nT h)) → (P1 → ¬ P2 → K a2 (nT h)) → (P1 → P2 → ∀ e, r = .inl e → ∀ g, ClF h g → hI g 3 2 = e → HT g → K a3 (nT g)) → (P1 → P2 → ∀ d, r = .inr d → ∀ g h2 h4 h5, ClF h g → hI g 3 2 = -1 → HT g → Rmb o u g h2 → HT h2 → Fr S h2 h4 → h4.length = h2.length → xhs h4 = xhs h2 → HT h4 → CS h4 8 N' (putN nd m d) → h5 = sL h4 467 0 (i2l x) → K 0 h5) → wL K)
    (B : ∀ g, HT g → NT g nd → hI g 437 7 = (m : Int) → CaR g (nw h) nd → Tape g 437 9 441 L → hI g 437 3 = (o + u) % 10 → hI g 437 2 = u → nw g = nw h → ∀ K : Int → XH → Prop, (¬ P1 → ∀ h1 h2, HT h1 → h1 = sI g 437 5 0 → h2 = sI h1 437 5 a1 → K 0 h2) → (P1 → ¬ P2 → ∀ h1 h2, HT h1 → h1 = sI g 437 5 0 → h2 = sI h1 437 5 a2 → K 0 h2) → (P1 → P2 → ∀ e, r = .inl e → ∀ h1 h2 h3, HT h1 → h1 = sI g 437 5 0 → RdF h1 h2 → hI h2 437 10 = e → HT h2 → h3 = sI h2 437 5 a3 → K 0 h3) → (P1 → P2 → ∀ d, r = .inr d → ∀ h1 h2 h5 h7, HT h1 → h1 = sI g 437 5 0 → RdF h1 h2 → hI h2 437 10 = -1 → HT h2 → Rrec ((o + u) % 10) u h2 h5 → HT h5 → Fr (fun b => b = 437 ∨ b = 438 ∨ b = 440 ∨ (468 ≤ b ∧ hk h5 b = 106)) h5 h7 → (∀ j, ¬ j = 6 → ¬ j = 7 → el h7 437 j = el h5 437 j) → Gr 1 nKp h5 h7 → nw h7 = N' → NT h7 (putN nd m d) → DJo h7 → hI h7 437 7 = (m : Int) + 1 → K x h7) → wR g K)
    {K : Int → XH → Prop} {J : XH → Prop} (k : ∀ h' nd' o' u', HT h' → Inv h' nd' o' u' (c + 1) → (∀ i, 5000 ≤ i → nd' i = nd i) → Gr (407 + 1) (nTx + nKp) h h' → J h') : wL (LDw h wR K J) := by
  have L0 := HT_len T
  have P := R.1.2.2.2.1
  have Bs := bs_lt (k := ((o + u) % 10).toNat) (by have := P.1; omega)
  have m0 : (hI h 437 7).toNat = m := by omega
  have m5 : m < 5000 := by have := R.2.1.2.2.1; omega
  have hs2 : ∀ b, S b → b = 2 ∨ (8 ≤ b ∧ b < 43) ∨ (44 ≤ b ∧ b < 86) := fun b y => by have := hs b y; omega
  have B2 := fun g Tg (Z : NTm g nd (hI h 437 7).toNat) (i : hI g 437 7 = hI h 437 7) CR Z9' q3 q2 en => B g Tg Z.1 (i.trans i7) CR Z9' q3 q2 en
  by_cases p1 : P1
  · by_cases p2 : P2
    · cases er : r with
      | inl e =>
        refine dsetT (S := S) (N' := N') (nd1 := nd) (e := a3) (x := x) (pe := e) (E1 := False) (L := L) (n1 := 1) (s1 := nKp) T R hc ra.2.2 hs2 Z9 (fun _ _ => rfl) (fun z => (nz.2.2 z).elim) (fun Q _ qE _ => ?_) (fun g Tg Z i CR Z9' q3 q2 en Q _ qE _ => ?_) k
        · exact A Q (fun n => (n p1).elim) (fun _ n => (n p2).elim) (fun _ _ e' re g F hp Tg => by
            have : e' = e := by rw [er] at re; exact (Sum.inl.inj re).symm
            exact qE nz.2.2 id g F (hp.trans this) Tg) (fun _ _ d rd => by rw [er] at rd; cases rd)
        · exact B2 g Tg Z i CR Z9' q3 q2 en Q (fun n => (n p1).elim) (fun _ n => (n p2).elim) (fun _ _ e' re h1 h2 h3 t1 e1 F hp t2 e3 => by
            have : e' = e := by rw [er] at re; exact (Sum.inl.inj re).symm
            exact qE nz.2.2 id h1 h2 h3 t1 e1 F (hp.trans this) t2 e3) (fun _ _ d rd => by rw [er] at rd; cases rd)
      | inr d =>
        refine dsetT (S := S) (N' := N') (nd1 := putN nd m d) (e := 0) (x := x) (pe := -1) (E1 := False) (L := L) (n1 := 1) (s1 := nKp) T R hc (rgk rfl) hs2 Z9 (fun i hi => by unfold putN; rw [if_neg (by omega)]) (fun _ => B' p1 p2) (fun Q _ _ qS => ?_) (fun g Tg Z i CR Z9' q3 q2 en Q _ _ qS => ?_) k
        · refine A Q (fun n => (n p1).elim) (fun _ n => (n p2).elim) (fun _ _ e re => by rw [er] at re; cases re) (fun _ _ d' rd g h2 h4 h5 F hp Tg r2 T2 F4 l4 x4 T4 C4 e5 => ?_)
          have ed : d' = d := by rw [er] at rd; exact (Sum.inr.inj rd).symm
          rw [ed] at C4
          have gl := F.2.2.2.2.1
          have rl := r2.2.1
          have CC := (ClF_T T (InvT_of R) F).2.2.1
          have s2 : sameC h2 h4 2 := F4 2 (by omega) (fun y => by have := hs _ y; omega)
          refine qS rfl g h2 h4 h5 F hp Tg r2 T2 F4 l4 x4 (fun j _ => sameC_el s2 j) T4 C4 (CaC_0n CC ((sameC_I s2 11).trans r2.2.2.2.1) (sameC_tr (r2.1 58 (by omega) (by omega)) (F4 58 (by omega) (fun y => by have := hs _ y; omega)))) e5
        · refine B2 g Tg Z i CR Z9' q3 q2 en Q (fun n => (n p1).elim) (fun _ n => (n p2).elim) (fun _ _ e re => by rw [er] at re; cases re) (fun _ _ d' rd h1 h2 h5 h7 t1 e1 F hp t2 r3 t5 F7 e7 G7 en7 N7 D7 i7' => ?_)
          have ed : d' = d := by rw [er] at rd; exact (Sum.inr.inj rd).symm
          rw [ed] at N7
          exact qS rfl h1 h2 h5 h7 t1 e1 F hp t2 r3 t5 F7 e7 G7 en7 N7 D7 (by omega) (fun i hi => by unfold putN; rw [if_neg (by omega)]) (by rw [show (hI h7 437 7).toNat = m + 1 by omega]; exact W' p1 p2)
    · refine dsetT (S := S) (N' := N') (nd1 := nd) (e := a2) (x := x) (pe := 0) (E1 := True) (L := L) (n1 := 1) (s1 := nKp) T R hc ra.2.1 hs2 Z9 (fun _ _ => rfl) (fun z => (nz.2.1 z).elim) (fun Q q0 _ _ => ?_) (fun g Tg Z i CR Z9' q3 q2 en Q q0 _ _ => ?_) k
      · exact A Q (fun n => (n p1).elim) (fun _ _ => q0 nz.2.1 trivial) (fun _ y => (p2 y).elim) (fun _ y => (p2 y).elim)
      · exact B2 g Tg Z i CR Z9' q3 q2 en Q (fun n => (n p1).elim) (fun _ _ => q0 nz.2.1 trivial) (fun _ y => (p2 y).elim) (fun _ y => (p2 y).elim)
  · refine dsetT (S := S) (N' := N') (nd1 := nd) (e := a1) (x := x) (pe := 0) (E1 := True) (L := L) (n1 := 1) (s1 := nKp) T R hc ra.1 hs2 Z9 (fun _ _ => rfl) (fun z => (nz.1 z).elim) (fun Q q0 _ _ => ?_) (fun g Tg Z i CR Z9' q3 q2 en Q q0 _ _ => ?_) k
    · exact A Q (fun _ => q0 nz.1 trivial) (fun y => (p1 y).elim) (fun y => (p1 y).elim) (fun y => (p1 y).elim)
    · exact B2 g Tg Z i CR Z9' q3 q2 en Q (fun _ => q0 nz.1 trivial) (fun y => (p1 y).elim) (fun y => (p1 y).elim) (fun y => (p1 y).elim)
/-- the tapes -/
theorem tapes {h : XH} {nd : Nat → ND} {o u : Int} {c : Nat} (R : Inv h nd o u c) : ∃ L : List Int, LOK L ∧ Tape h 3 1 4 L ∧ Tape h 437 9 441 L := by
  obtain ⟨L, lL, Z3, Z9, rL⟩ := Tape_of R.1.2.2.2.2.2
  refine ⟨L, ⟨lL, fun j => ?_⟩, Z3, Z9⟩
  by_cases c : j < L.length
  · have : L.getD j 0 ∈ L := by
      rw [List.getD_eq_getElem?_getD, List.getElem?_eq_getElem c]
      exact List.getElem_mem c
    have := rL _ this
    omega
  · rw [List.getD_eq_getElem?_getD, List.getElem?_eq_none (by omega)]
    exact ⟨by decide, by decide⟩
theorem d_need {h : XH} {nd : Nat → ND} {o u p1 p2 p3 : Int} {c : Nat} (T : HT h) (R : Inv h nd o u c) (hc : c < 512) (hb : p3 = 0 ∨ p3 = 1) {K : Int → XH → Prop} {J : XH → Prop} (k : ∀ h' nd' o' u', HT h' → Inv h' nd' o' u' (c + 1) → (∀ i, 5000 ≤ i → nd' i = nd i) → Gr (407 + 1) (nTx + nKp) h h' → J h') : w_L_need p1 p2 p3 (LDw h (fun g Q => w_X14_need p1 p2 p3 Q g) K J) h := by
  have C := R.1.1
  obtain ⟨L, ok, Z3, Z9⟩ := tapes R
  obtain ⟨m, i7⟩ : ∃ m : Nat, hI h 437 7 = (m : Int) := ⟨(hI h 437 7).toNat, by have := R.1.2.2.1.1; omega⟩
  have hm : m ≤ 511 := by have := R.2.1.2.2.1; omega
  have W : WF (nw h) m := by have := R.1.2.1; rw [i7, Int.toNat_natCast] at this; exact this
  have W1 := WF_up (Nat.le_succ m) W
  obtain ⟨b0, q1, q2, -⟩ := id R.1.2.2.2.1
  have I : ∀ r : Nat, r < 3 → fOK (nw h) (inst (nw h) r) := fun r hr => fOK_of (CS_i C hr)
  refine dsetT3 (S := fun b => b = 18 ∨ b = 19 ∨ b = 20) (N' := needN (nw h) (slotF (nw h) p1 p2).toNat m p3) (x := nV (nw h) (slotF (nw h) p1 p2).toNat 7 + 1) (a1 := 1) (a2 := 2) (a3 := 3) (P1 := ((0 ≤ p1 ∧ p1 < nw h 0) ∧ ¬ slotF (nw h) p1 p2 = -1)) (P2 := (nV (nw h) (slotF (nw h) p1 p2).toNat 7 < 3 ∧ ¬ inUse (nw h) (slotF (nw h) p1 p2).toNat)) (r := rN (tT L (nw h 0))) (L := L) (m := m) (wL := fun Q => w_L_need p1 p2 p3 Q h) (wR := fun g Q => w_X14_need p1 p2 p3 Q g) T R (by omega) i7 (fun b y => by omega) Z9 ⟨rgk rfl, rgk rfl, rgk rfl⟩ ⟨by decide, by decide, by decide⟩ (fun y1 y2 b => BdN_vq (WF_need (x := (m : Int)) (b := p3) W1 (slot_v W.1 y1.2).1 y2.1 ⟨by omega, by omega⟩).2 W.1 I b) (fun y1 y2 => (WF_need (x := (m : Int)) (b := p3) W1 (slot_v W.1 y1.2).1 y2.1 ⟨by omega, by omega⟩).1) (fun Q k0 k1 kE k => ?_) (fun g Tg Z i7' CR Z9' q3' q2' en Q k0 k1 kE k => ?_) k
  · exact c_L_need T C W b0 q1 q2 R.1.2.2.2.2.1 Z3 ok hb k0 k1 kE k
  · exact c_X14_need Tg en.symm W (by omega) q3' q2' I Z i7' hm CR Z9' ok  k0 k1 kE k
