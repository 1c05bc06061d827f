/-! PIN, both sides -/
theorem d_pin {h : XH} {nd : Nat → ND} {o u p1 : Int} {c : Nat} (T : HT h) (R : Inv h nd o u c) (hc : c < 512) {K : Int → XH → Prop} {J : XH → Prop} (k : ∀ h' nd' o' u', HT h' → Inv h' nd' o' u' (c + 1) → (∀ i, 5000 ≤ i → nd' i = nd i) → Gr (407 + 1) (nTx + nKp) h h' → J h') : w_L_pin p1 (LDw h (fun g Q => w_X14_pin p1 Q g) K J) h := by
  have C := R.1.1
  obtain ⟨L, ok, Z3, Z9⟩ := tapes R
  obtain ⟨m, i7⟩ : ∃ m : Nat, hI h 437 7 = (m : Int) := ⟨(hI h 437 7).toNat, by have := R.1.2.2.1.1; omega⟩
  have hm : m ≤ 511 := by have := R.2.1.2.2.1; omega
  have W : WF (nw h) m := by have := R.1.2.1; rw [i7, Int.toNat_natCast] at this; exact this
  have W1 := WF_up (Nat.le_succ m) W
  have m0 : (hI h 437 7).toNat = m := by omega
  obtain ⟨b0, q1, q2, -⟩ := id R.1.2.2.2.1
  have I : ∀ r : Nat, r < 3 → fOK (nw h) (inst (nw h) r) := fun r hr => fOK_of (CS_i C hr)
  have r3 := rh_lt W
  have rb := rc_lt r3
  have L0 := HT_len T
  have Bs := bs_lt (k := ((o + u) % 10).toNat) (by omega)
  have hs2 : ∀ b, b = rc (rh (nw h)) + 2 → b = 2 ∨ (8 ≤ b ∧ b < 43) ∨ (44 ≤ b ∧ b < 86) := fun b y => by omega
  have A0 := fun {K : Int → XH → Prop} k0 kE k => c_L_pin (p1 := p1) (K := K) T C W b0 q1 q2 R.1.2.2.2.2.1 Z3 ok k0 kE k
  have B0 := fun g Tg (Z : NTm g nd (hI h 437 7).toNat) (i : hI g 437 7 = hI h 437 7) CR Z9' q3' q2' (en : nw g = nw h) (K : Int → XH → Prop) k0 kE k => c_X14_pin (p0 := p1) (K := K) (q := (o + u) % 10) (u := u) Tg en.symm W (by omega) q3' q2' I Z.1 (i.trans i7) hm CR Z9' ok k0 kE k
  by_cases p : 0 ≤ p1 ∧ p1 < nw h 0
  · have p12 : p1.toNat < 12 := by have := W.1.2.1; omega
    have CC : ∀ g h2 h4 : XH, ClF h g → Rmb o u g h2 → Fr (fun b => b = rc (rh (nw h)) + 2) h2 h4 → ∀ N' nd1, CaC h4 N' nd1 := fun g h2 h4 F r2 F4 N' nd1 => by
      have gl := F.2.2.2.2.1
      have rl := r2.2.1
      exact CaC_0n (ClF_T T (InvT_of R) F).2.2.1 ((sameC_I (F4 2 (by omega) (by omega)) 11).trans r2.2.2.2.1) (sameC_tr (r2.1 58 (by omega) (by omega)) (F4 58 (by omega) (by omega)))
    have S2 : ∀ h2 h4 : XH, 468 ≤ h2.length → Fr (fun b => b = rc (rh (nw h)) + 2) h2 h4 → ∀ j, j = 9 ∨ j = 10 → el h4 2 j = el h2 2 j := fun h2 h4 l F4 j _ => sameC_el (F4 2 (by omega) (by omega)) j
    have bd : ∀ x : Int, BdN (nw h) c → BdN (pinN (nw h) (rh (nw h)) p1.toNat x) (c + 1) := fun x b => BdN_pin W.1.2.2.2.1 r3 p12 b
    by_cases e : L = []
    · refine dsetT (S := fun b => b = rc (rh (nw h)) + 2) (N' := pinN (nw h) (rh (nw h)) p1.toNat 0) (nd1 := nd) (e := 0) (x := (pinM (pinN (nw h) (rh (nw h)) p1.toNat 0) : Nat)) (pe := -1) (E1 := False) (L := L) (n1 := 1) (s1 := nKp) (wL := fun Q => w_L_pin p1 Q h) (wR := fun g Q => w_X14_pin p1 Q g) T R (by omega) (rgk rfl) hs2 Z9 (fun _ _ => rfl) (fun _ => bd 0) (fun Q _ _ qS => ?_) (fun g Tg Z i CR Z9' q3 q2 en Q _ _ qS => ?_) k
      · refine A0 (fun y => (y p).elim) (fun _ ne => (ne e).elim) (fun _ x nd1 PR g h2 h4 h5 F hp Tg r2 T2 F4 l4 x4 T4 C4 e5 => ?_)
        obtain ⟨-, ex, en⟩ := PR.resolve_right (fun y => y.1 e)
        rw [ex, en] at C4
        rw [ex] at e5
        exact qS rfl g h2 h4 h5 F hp Tg r2 T2 F4 l4 x4 (S2 h2 h4 (HT_len T2) F4) T4 C4 (CC g h2 h4 F r2 F4 _ _) e5
      · refine B0 g Tg Z i CR Z9' q3 q2 en Q (fun y => (y p).elim) (fun _ ne => (ne e).elim) (fun _ x nd1 PR h1 h2 h5 h7 t1 e1 F hp t2 r3' t5 F7 e7 G7 en7 N7 D7 i7' => ?_)
        obtain ⟨-, ex, en1⟩ := PR.resolve_right (fun y => y.1 e)
        rw [ex] at en7 i7' ⊢
        rw [en1] at N7
        rw [if_pos rfl] at i7'
        exact qS rfl h1 h2 h5 h7 t1 e1 F hp t2 r3' t5 F7 e7 G7 en7 N7 D7 (by omega) (fun _ _ => rfl) (by rw [show (hI h7 437 7).toNat = m by omega]; exact WF_pin W r3 (by omega) ⟨by omega, by omega⟩)
    · cases er : rW (tT L (nw h 0)) p1 with
      | inl pe =>
        refine dsetT (S := fun b => b = rc (rh (nw h)) + 2) (N' := nw h) (nd1 := nd) (e := 2) (x := 0) (pe := pe) (E1 := False) (L := L) (n1 := 1) (s1 := nKp) (wL := fun Q => w_L_pin p1 Q h) (wR := fun g Q => w_X14_pin p1 Q g) T R (by omega) (rgk rfl) hs2 Z9 (fun _ _ => rfl) (fun z => absurd z (by decide)) (fun Q _ qE _ => ?_) (fun g Tg Z i CR Z9' q3 q2 en Q _ qE _ => ?_) k
        · refine A0 (fun y => (y p).elim) (fun _ _ e' re g F hp Tg => qE (by decide) id g F (hp.trans (Sum.inl.inj (re.symm.trans er))) Tg) (fun _ x nd1 PR => ?_)
          rcases PR with ⟨y, -⟩ | ⟨-, d, rd, -⟩
          · exact (e y).elim
          · rw [er] at rd; cases rd
        · refine B0 g Tg Z i CR Z9' q3 q2 en Q (fun y => (y p).elim) (fun _ _ e' re h1 h2 h3 t1 e1 F hp t2 e3 => qE (by decide) id h1 h2 h3 t1 e1 F (hp.trans (Sum.inl.inj (re.symm.trans er))) t2 e3) (fun _ x nd1 PR => ?_)
          rcases PR with ⟨y, -⟩ | ⟨-, d, rd, -⟩
          · exact (e y).elim
          · rw [er] at rd; cases rd
      | inr d =>
        refine dsetT (S := fun b => b = rc (rh (nw h)) + 2) (N' := pinN (nw h) (rh (nw h)) p1.toNat ((m : Int) + 1)) (nd1 := putN nd m d) (e := 0) (x := (pinM (pinN (nw h) (rh (nw h)) p1.toNat ((m : Int) + 1)) : Nat)) (pe := -1) (E1 := False) (L := L) (n1 := 1) (s1 := nKp) (wL := fun Q => w_L_pin p1 Q h) (wR := fun g Q => w_X14_pin p1 Q g) T R (by omega) (rgk rfl) hs2 Z9 (fun i hi => by unfold putN; rw [if_neg (by omega)]) (fun _ => bd _) (fun Q _ _ qS => ?_) (fun g Tg Z i CR Z9' q3 q2 en Q _ _ qS => ?_) k
        · refine A0 (fun y => (y p).elim) (fun _ _ e' re => by rw [er] at re; cases re) (fun _ x nd1 PR g h2 h4 h5 F hp Tg r2 T2 F4 l4 x4 T4 C4 e5 => ?_)
          obtain ⟨-, d', rd, ex, en⟩ := PR.resolve_left (fun y => e y.1)
          obtain rfl : d = d' := Sum.inr.inj (er.symm.trans rd)
          rw [ex, en] at C4
          rw [ex] at e5
          exact qS rfl g h2 h4 h5 F hp Tg r2 T2 F4 l4 x4 (S2 h2 h4 (HT_len T2) F4) T4 C4 (CC g h2 h4 F r2 F4 _ _) e5
        · refine B0 g Tg Z i CR Z9' q3 q2 en Q (fun y => (y p).elim) (fun _ _ e' re => by rw [er] at re; cases re) (fun _ x nd1 PR h1 h2 h5 h7 t1 e1 F hp t2 r3' t5 F7 e7 G7 en7 N7 D7 i7' => ?_)
          obtain ⟨-, d', rd, ex, en1⟩ := PR.resolve_left (fun y => e y.1)
          obtain rfl : d = d' := Sum.inr.inj (er.symm.trans rd)
          rw [ex] at en7 i7' ⊢
          rw [en1] at N7
          rw [if_neg (by omega)] at i7'
          exact qS rfl h1 h2 h5 h7 t1 e1 F hp t2 r3' t5 F7 e7 G7 en7 N7 D7 (by omega) (fun i hi => by unfold putN; rw [if_neg (by omega)]) (by rw [show (hI h7 437 7).toNat = m + 1 by omega]; exact WF_pin W1 r3 (by omega) ⟨by omega, by omega⟩)
  · refine dsetT (S := fun b => b = rc (rh (nw h)) + 2) (N' := nw h) (nd1 := nd) (e := 1) (x := 0) (pe := 0) (E1 := True) (L := L) (n1 := 1) (s1 := nKp) (wL := fun Q => w_L_pin p1 Q h) (wR := fun g Q => w_X14_pin p1 Q g) T R (by omega) (rgk rfl) hs2 Z9 (fun _ _ => rfl) (fun z => absurd z (by decide)) (fun Q q0 _ _ => ?_) (fun g Tg Z i CR Z9' q3 q2 en Q q0 _ _ => ?_) k
    · exact A0 (fun _ => q0 (by decide) trivial) (fun y => (p y).elim) (fun y => (p y).elim)
    · exact B0 g Tg Z i CR Z9' q3 q2 en Q (fun _ => q0 (by decide) trivial) (fun y => (p y).elim) (fun y => (p y).elim)
