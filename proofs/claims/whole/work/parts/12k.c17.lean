/-! UNWISH, LOCK, BACKTO -/
def wl (N : Nat → Int) (r : Nat) : Nat := cntN (nR N r 0).toNat (fun w => !decide (nR N r (1 + w) = -1))
set_option maxHeartbeats 1000000 in
theorem c_X6_wishesLeft {h : XH} {N : Nat → Int} {nd : Nat → ND} {m : Nat} (T : HT h) (C : CS h 8 N nd) (W : WF N m) {K : Int → Prop} (dk : DK nd m) {r : Nat} (hr : r < 3) (k : K (wl N r : Nat)) : w_X6_wishesLeft (rc r) K h := by
  unfold w_X6_wishesLeft
  obtain ⟨a1, a2, -⟩ := R8 (C.2.2.1 r hr)
  obtain ⟨d1, d2, d3, -⟩ := W.2.1 r hr
  refine ⟨fun a v => 0 ≤ v ∧ v ≤ nR N r 0 ∧ a = (cntN v.toNat (fun w => !decide (nR N r (1 + w) = -1)) : Nat), fun _ v => (8 - v).toNat, ?_, ?_⟩
  · exact ⟨by omega, d1, rfl⟩
  · intro x1 x2 rx1 rx2 z3
    refine ⟨fun c10 => ?_, fun c10 => ?_⟩
    · rw [z3.2.2, show x2.toNat = (nR N r 0).toNat by omega]
      exact k
    · obtain ⟨z0, z1, z2⟩ := z3
      have st := cntN_st (g := fun w => !decide (nR N r (1 + w) = -1)) (v := x2) (by omega)
      have le := cntN_le (fun w => !decide (nR N r (1 + w) = -1)) x2.toNat
      have b2 := a2 x2.toNat (by omega) (by omega)
      have b3 := d3 x2.toNat (by omega) (by omega)
      refine ⟨(by first | decide | omega | ((try simp (disch := omega) only [wr_of] at *); omega)), ?_⟩
      refine ⟨_, fun x5 rx5 z6 => z6, ?_⟩
      refine ⟨fun c9 => ?_, fun c9 => ?_⟩
      · intro x7 ex7 rx7
        intro x8 ex8 rx8
        rw [wr_of (by omega) (by omega)] at ex7 ex8
        have e : nR N r (1 + x2.toNat) = -1 := by
          rcases b2 with y | ⟨y1, y2⟩
          · exact y.1
          · exact absurd c9 (AtomR_nz T y2 (dk _ (by omega)))
        rw [if_neg (show ¬ (!decide (nR N r (1 + x2.toNat) = -1)) = true by rw [dt e]; decide)] at st
        exact ⟨⟨by omega, by omega, by rw [ex8, st, ex7, z2]; omega⟩, by dsimp only; omega⟩
      · intro x7 ex7 rx7
        intro x8 ex8 rx8
        rw [wr_of (by omega) (by omega)] at ex7 ex8
        have e : ¬ nR N r (1 + x2.toNat) = -1 := by
          rcases b2 with y | ⟨y1, y2⟩
          · exact absurd y.2 c9
          · omega
        rw [if_pos (show (!decide (nR N r (1 + x2.toNat) = -1)) = true by rw [df e]; rfl)] at st
        exact ⟨⟨by omega, by omega, by rw [ex8, st, ex7, z2]; omega⟩, by dsimp only; omega⟩
set_option maxHeartbeats 1000000 in
theorem c_X14_wishAt {p0 : Int} {h : XH} {N : Nat → Int} {m : Nat} (T : HT h) (eN : N = nw h) (W : WF N m) {nd : Nat → ND} (Z : NTm h nd m) (hp : 0 ≤ p0 ∧ p0 < nR N (rh N) 0) {K : Nat → Prop} (k : ∀ a, (nR N (rh N) (1 + p0.toNat) = -1 ∧ a = 0) ∨ (0 ≤ nR N (rh N) (1 + p0.toNat) ∧ NeedR h a (nd (nR N (rh N) (1 + p0.toNat)).toNat)) → K a) : w_X14_wishAt p0 K h := by
  unfold w_X14_wishAt
  obtain ⟨d1, d2, d3, -⟩ := W.2.1 (rh N) (rh_lt W)
  have d4 := d3 p0.toNat (by omega) (by omega)
  have z2 := Z.2
  have z1 := Z.1.2.2.2.1
  rw [wr_of (by omega) (by omega)]
  refine c_X14_rootAt (by omega) (hr_ eN W) (rh_lt W) ?_
  intro x1 ex1
  rw [← eN, show (1 + p0).toNat = 1 + p0.toNat by omega] at ex1
  intro rx1
  refine ⟨_, fun a2 z3 => z3, ?_⟩
  refine ⟨fun c6 => ?_, fun c6 => ?_⟩
  · refine ⟨Z.1.2.2.1, ?_⟩
    refine ⟨(by omega), ?_⟩
    refine k _ (.inr ⟨by omega, ?_⟩)
    rw [← ex1]
    exact Z.1.2.2.2.2.2.2.2 x1.toNat (by omega)
  · exact k _ (.inl ⟨by omega, rfl⟩)
set_option maxHeartbeats 1000000 in
theorem c_X14_wishesLeft {h : XH} {N : Nat → Int} {m : Nat} (T : HT h) (eN : N = nw h) (W : WF N m) {nd : Nat → ND} (Z : NTm h nd m) {K : Int → Prop} (k : K (wl N (rh N) : Nat)) : w_X14_wishesLeft K h := by
  unfold w_X14_wishesLeft
  obtain ⟨d1, d2, d3, -⟩ := W.2.1 (rh N) (rh_lt W)
  refine ⟨fun a v => 0 ≤ v ∧ v ≤ nR N (rh N) 0 ∧ a = (cntN v.toNat (fun w => !decide (nR N (rh N) (1 + w) = -1)) : Nat), fun _ v => (8 - v).toNat, ?_, ?_⟩
  · exact ⟨by omega, d1, rfl⟩
  · intro x1 x2 rx1 rx2 z3
    refine c_X14_rootAt (by decide) (hr_ eN W) (rh_lt W) ?_
    intro x4 ex4
    rw [← eN, show (0 : Int).toNat = 0 from rfl] at ex4
    obtain ⟨z0, z1, z2⟩ := z3
    have st := cntN_st (g := fun w => !decide (nR N (rh N) (1 + w) = -1)) (v := x2) (by omega)
    have le := cntN_le (fun w => !decide (nR N (rh N) (1 + w) = -1)) x2.toNat
    intro rx4
    refine ⟨fun c11 => ?_, fun c11 => ?_⟩
    · rw [z2, show x2.toNat = (nR N (rh N) 0).toNat by omega]
      exact k
    · refine c_X14_wishAt T eN W Z (by omega) ?_
      intro a5 qa5
      refine ⟨_, fun x6 rx6 z7 => z7, ?_⟩
      refine ⟨fun c10 => ?_, fun c10 => ?_⟩
      · intro x8 ex8 rx8
        intro x9 ex9 rx9
        rw [wr_of (by omega) (by omega)] at ex8 ex9
        have e : ¬ nR N (rh N) (1 + x2.toNat) = -1 := by
          rcases qa5 with y | y
          · exact absurd y.2 c10
          · omega
        rw [if_pos (show (!decide (nR N (rh N) (1 + x2.toNat) = -1)) = true by rw [df e]; rfl)] at st
        exact ⟨⟨by omega, by omega, by rw [ex9, st, ex8, z2]; omega⟩, by dsimp only; omega⟩
      · intro x8 ex8 rx8
        intro x9 ex9 rx9
        rw [wr_of (by omega) (by omega)] at ex8 ex9
        have e : nR N (rh N) (1 + x2.toNat) = -1 := by
          rcases qa5 with y | ⟨y, y2⟩
          · exact y.1
          · exact absurd y2.2.2.2.1 (by omega)
        rw [if_neg (show ¬ (!decide (nR N (rh N) (1 + x2.toNat) = -1)) = true by rw [dt e]; decide)] at st
        exact ⟨⟨by omega, by omega, by rw [ex9, st, ex8, z2]; omega⟩, by dsimp only; omega⟩
set_option maxHeartbeats 1000000 in
theorem c_X12_unwish {p0 : Int} {h : XH} {N : Nat → Int} {nd : Nat → ND} {m : Nat} {o u : Int} (T : HT h) (C : CS h 8 N nd) (W : WF N m) (B0 : 0 ≤ o ∧ o < 10 ∧ 0 ≤ u ∧ u ≤ 10) (Bo : hI h 2 9 = o) (Bu : hI h 2 10 = u) (Bs : hI h 43 2 = 10) (dk : DK nd m) {K : Int → XH → Prop} {E : Nat → XH → Prop} (k0 : ¬ (0 ≤ p0 ∧ p0 < nR N (rh N) 0 ∧ ¬ nR N (rh N) (1 + p0.toNat) = -1) → E 2 (nT h)) (k : 0 ≤ p0 ∧ p0 < nR N (rh N) 0 ∧ ¬ nR N (rh N) (1 + p0.toNat) = -1 → ∀ h2 h4, Rmb o u h h2 → HT h2 → Fr (fun b => b = rc (rh N) + 1) h2 h4 → h4.length = h2.length → xhs h4 = xhs h2 → CS h4 8 (updN N (805 + 291 * rh N + (1 + p0.toNat)) (-1)) nd → K ((wl (updN N (805 + 291 * rh N + (1 + p0.toNat)) (-1)) (rh N) : Nat)) h4) : w_X12_unwish p0 K E h := by
  unfold w_X12_unwish
  obtain ⟨a1, a2, -⟩ := R8 (C.2.2.1 (rh N) (rh_lt W))
  obtain ⟨d1, d2, d3, -⟩ := W.2.1 (rh N) (rh_lt W)
  have r3 := rh_lt W
  refine c_atH C W ?_
  refine ⟨_, fun z2 => z2, ?_⟩
  refine ⟨fun c10 => ?_, fun c10 => ?_⟩
  · exact k0 (by omega)
  · refine ⟨(rc_k T (rh_lt W)), ?_⟩
    refine ⟨fun c9 => ?_, fun c9 => ?_⟩
    · exact k0 (by omega)
    · refine ⟨(by first | decide | omega | ((try simp (disch := omega) only [wr_of] at *); omega)), ?_⟩
      refine ⟨fun c8 => ?_, fun c8 => ?_⟩
      · refine c_X12_remember B0 T Bo Bu Bs ?_
        intro h5 qh5
        intro t5 u5
        have C1' := Rmb_CS T qh5 B0 W C
        intro h6 eh6 t6 u6
        have e8 : hn h5 (rc (rh N) + 1) = 8 := by
          have : rh N = 0 ∨ rh N = 1 ∨ rh N = 2 := by omega
          rcases this with y | y | y
          · rw [y]; exact lyn (c := 103) (n := 8) t5 rfl
          · rw [y]; exact lyn (c := 103) (n := 8) t5 rfl
          · rw [y]; exact lyn (c := 103) (n := 8) t5 rfl
        obtain ⟨c1, c2⟩ := CS_unw (g := h6) t5 C1' W r3 (v := p0.toNat) (by omega) eh6 (by omega)
        have er : rh (updN N (805 + 291 * rh N + (1 + p0.toNat)) (-1)) = rh N := by unfold rh; rw [updN_ne (by omega)]
        refine c_X6_wishesLeft t6 c1 c2 dk (r := rh N) r3 ?_
        intro _
        have b2 := a2 p0.toNat (by omega) (by omega)
        refine k ⟨by omega, by omega, ?_⟩ _ _ qh5 t5 (by rw [eh6]; exact Fr_sV rfl) (by rw [eh6, len_sV]) (by rw [eh6, xhs_sV]) c1
        rcases b2 with y | ⟨y1, y2⟩
        · exact absurd y.2 c8
        · omega
      · have b2 := a2 p0.toNat (by omega) (by omega)
        have b3 := d3 p0.toNat (by omega) (by omega)
        refine k0 (fun z => ?_)
        rcases b2 with y | ⟨y1, y2⟩
        · exact z.2.2 y.1
        · exact AtomR_nz T y2 (dk _ (by omega)) (Decidable.not_not.mp c8)
set_option maxHeartbeats 1000000 in
theorem c_L_unwish {p0 : Int} {h : XH} {N : Nat → Int} {nd : Nat → ND} {m : Nat} {o u : Int} (T : HT h) (C : CS h 8 N nd) (W : WF N m) (B0 : 0 ≤ o ∧ o < 10 ∧ 0 ≤ u ∧ u ≤ 10) (Bo : hI h 2 9 = o) (Bu : hI h 2 10 = u) (Bs : hI h 43 2 = 10) (dk : DK nd m) {K : Int → XH → Prop} (k0 : ¬ (0 ≤ p0 ∧ p0 < nR N (rh N) 0 ∧ ¬ nR N (rh N) (1 + p0.toNat) = -1) → K 1 (nT h)) (k : 0 ≤ p0 ∧ p0 < nR N (rh N) 0 ∧ ¬ nR N (rh N) (1 + p0.toNat) = -1 → ∀ h2 h4 h5, Rmb o u h h2 → HT h2 → Fr (fun b => b = rc (rh N) + 1) h2 h4 → h4.length = h2.length → xhs h4 = xhs h2 → HT h4 → CS h4 8 (updN N (805 + 291 * rh N + (1 + p0.toNat)) (-1)) nd → h5 = sL h4 467 0 (i2l ((wl (updN N (805 + 291 * rh N + (1 + p0.toNat)) (-1)) (rh N) : Nat))) → K 0 h5) : w_L_unwish p0 K h := by
  unfold w_L_unwish
  refine c_X12_unwish T C W B0 Bo Bu Bs dk (fun q => ⟨rfl, k0 q⟩) (fun q g2 g4 r t f l x c => ?_)
  intro tx ux _
  intro h5 eh5 t5 u5
  exact k q _ _ _ r t f l x tx c eh5
set_option maxHeartbeats 1000000 in
theorem c_X14_unwish {p0 : Int} {h : XH} {N : Nat → Int} {m : Nat} {q u : Int} (T : HT h) (eN : N = nw h) (W : WF N m) (B1 : 0 ≤ q ∧ q < 10 ∧ 0 ≤ u ∧ u ≤ 10) (Rq : hI h 437 3 = q) (Ru : hI h 437 2 = u) {nd : Nat → ND} (Z : NTm h nd m) {K : Int → XH → Prop} (k0 : ¬ (0 ≤ p0 ∧ p0 < nR N (rh N) 0 ∧ ¬ nR N (rh N) (1 + p0.toNat) = -1) → ∀ h1 h2, HT h1 → h1 = sI h 437 5 0 → h2 = sI h1 437 5 1 → K 0 h2) (k : 0 ≤ p0 ∧ p0 < nR N (rh N) 0 ∧ ¬ nR N (rh N) (1 + p0.toNat) = -1 → ∀ h1 h5 h7, HT h1 → h1 = sI h 437 5 0 → Rrec q u h1 h5 → HT h5 → Fr (fun b => b = 438) h5 h7 → Gr 0 (0) h5 h7 → nw h7 = updN N (805 + 291 * rh N + (1 + p0.toNat)) (-1) → K ((wl (updN N (805 + 291 * rh N + (1 + p0.toNat)) (-1)) (rh N) : Nat)) h7) : w_X14_unwish p0 K h := by
  unfold w_X14_unwish
  intro h1 eh1 t1 u1
  have eN1 : N = nw h1 := eN.trans (nw_fr (by rw [eh1]; exact sameC_sV (by decide))).symm
  have Rq1 : hI h1 437 3 = q := by rw [eh1, hI_ni (by decide)]; exact Rq
  have Ru1 : hI h1 437 2 = u := by rw [eh1, hI_ni (by decide)]; exact Ru
  have r3 := rh_lt W
  obtain ⟨d1, d2, d3, -⟩ := W.2.1 (rh N) (rh_lt W)
  have Z1 := NTm_5 T eh1 Z
  refine c_X14_rootAt (by decide) (hr_ eN1 W) (rh_lt W) ?_
  intro x2 ex2
  rw [← eN1, show (0 : Int).toNat = 0 from rfl] at ex2
  intro rx2
  refine c_X14_within ?_
  intro x3 qx3
  rw [wr_of (by omega) (by omega)] at qx3
  intro rx3 vx3
  refine ⟨fun x => bq x (0 ≤ p0 ∧ p0 < nR N (rh N) 0 ∧ ¬ nR N (rh N) (1 + p0.toNat) = -1), ?_, ?_⟩
  · intro x4 rx4 z5
    refine c_X14_refused z5 ?_
    intro x6 h7 qx6
    intro t7 u7
    intro rx6 vx6
    refine ⟨fun c11 => ?_, fun c11 => ?_⟩
    · obtain ⟨b_, e_⟩ : (0 ≤ p0 ∧ p0 < nR N (rh N) 0 ∧ ¬ nR N (rh N) (1 + p0.toNat) = -1) ∧ h7 = h1 := by
        rcases qx6 with ⟨_, y, z⟩ | ⟨y, _⟩
        · exact ⟨y, z⟩
        · omega
      subst e_
      refine c_X14_record B1 t7 Rq1 Ru1 ?_
      intro h8 qh8
      have eN8 : N = nw h8 := eN1.trans (nw_fr (qh8.1 438 (by have := HT_len t7; omega) (by decide))).symm
      intro t8 u8
      rw [wr_of (by omega) (by omega)]
      refine c_X14_putRoot (by omega) (hr_ eN8 W) (rh_lt W) ?_
      intro h9 eh9
      rw [show (1 + p0).toNat = 1 + p0.toNat by omega] at eh9
      have en9 := W_nw t8 (by omega) (rgk rfl) eh9 eN8.symm
      intro t9 u9
      have Z9 : NTm h9 nd m := NTm_8 t8 (by rw [eh9]; exact Fr_sV rfl) (NTm_rec t7 qh8 Z1)
      have er : rh (updN N (805 + 291 * rh N + (1 + p0.toNat)) (-1)) = rh N := by unfold rh; rw [updN_ne (by omega)]
      have W9 : WF (updN N (805 + 291 * rh N + (1 + p0.toNat)) (-1)) m := by
        have E : VE N (updN N (805 + 291 * rh N + (1 + p0.toNat)) (-1)) := fun i _ _ => updN_ne (by omega)
        refine ⟨WV_ve E W.1, fun q hq => ?_, WT_ve E (fun i hi => updN_ne (by omega)) W.2.2⟩
        obtain ⟨f1, f2, f3, f4, f5, f6, f7, f8, f9, f10, f11⟩ := W.2.1 q hq
        have g : ∀ k, (k = 0 ∨ 9 ≤ k) → k < 291 → nR (updN N (805 + 291 * rh N + (1 + p0.toNat)) (-1)) q k = nR N q k := fun k hk hl => updN_ne (by omega)
        unfold WRt
        rw [g 0 (by omega) (by omega), g 9 (by omega) (by omega), g 47 (by omega) (by omega), g 22 (by omega) (by omega), E 0 (by omega) (by omega)]
        refine ⟨f1, f2, fun w h8 hw => ?_, f4, f5, f6, fun p hp => by rw [g (10 + p) (by omega) (by omega)]; exact f7 p hp, f8, f9, f10, f11⟩
        have : nR (updN N (805 + 291 * rh N + (1 + p0.toNat)) (-1)) q (1 + w) = -1 ∨ nR (updN N (805 + 291 * rh N + (1 + p0.toNat)) (-1)) q (1 + w) = nR N q (1 + w) := by
          by_cases y : 805 + 291 * q + (1 + w) = 805 + 291 * rh N + (1 + p0.toNat)
          · exact .inl (if_pos y)
          · exact .inr (if_neg y)
        have := f3 w h8 hw
        omega
      refine c_X14_wishesLeft t9 en9.symm W9 Z9 ?_
      rw [er]
      intro _
      exact k b_ _ _ _ t7 eh1 qh8 t8 (by rw [eh9]; exact Fr_sV rfl) (by rw [eh9]; exact Gr_sV _ _ _ _) en9
    · have q_ : ¬ (0 ≤ p0 ∧ p0 < nR N (rh N) 0 ∧ ¬ nR N (rh N) (1 + p0.toNat) = -1) ∧ h7 = sI h1 437 5 1 := by
        rcases qx6 with ⟨y, _⟩ | ⟨_, y, z⟩
        · omega
        · exact ⟨y, z⟩
      exact k0 q_.1 _ _ t1 eh1 q_.2
  · refine ⟨_, fun z12 => z12, ?_⟩
    refine ⟨fun c15 => ?_, fun c15 => ?_⟩
    · first
        | exact bqF (fun z => (bq1 qx3).2.1.mp c15 (by omega))
        | exact bqF (fun z => by rcases qa13 with ⟨y, _⟩ | ⟨y, y2⟩; exact z.2.2 y; exact absurd y2.2.2.2.1 (by omega))
        | exact bqT ⟨by omega, by omega, by rcases qa13 with ⟨y, y2⟩ | ⟨y, y2⟩; exact absurd y2 c14; omega⟩
    · have b3 := (bq1 qx3).2.2.1.mp c15
      refine c_X14_wishAt t1 eN1 W Z1 (by omega) ?_
      intro a13 qa13
      refine ⟨fun c14 => ?_, fun c14 => ?_⟩
      · first
          | exact bqF (fun z => (bq1 qx3).2.1.mp c15 (by omega))
          | exact bqF (fun z => by rcases qa13 with ⟨y, _⟩ | ⟨y, y2⟩; exact z.2.2 y; exact absurd y2.2.2.2.1 (by omega))
          | exact bqT ⟨by omega, by omega, by rcases qa13 with ⟨y, y2⟩ | ⟨y, y2⟩; exact absurd y2 c14; omega⟩
      · first
          | exact bqF (fun z => (bq1 qx3).2.1.mp c15 (by omega))
          | exact bqF (fun z => by rcases qa13 with ⟨y, _⟩ | ⟨y, y2⟩; exact z.2.2 y; exact absurd y2.2.2.2.1 (by omega))
          | exact bqT ⟨by omega, by omega, by rcases qa13 with ⟨y, y2⟩ | ⟨y, y2⟩; exact absurd y2 c14; omega⟩
theorem d_unwish {h : XH} {nd : Nat → ND} {o u p0 : Int} {c : Nat} (T : HT h) (R : Inv h nd o u c) (hc : c < 1000) {K : Int → XH → Prop} {J : XH → Prop} (k : ∀ h' o' u', HT h' → Inv h' nd o' u' (c + 1) → Gr (1 + 0) (xcs none + (0)) h h' → J h') : w_L_unwish p0 (LDw h (fun g Q => w_X14_unwish p0 Q g) K J) h := by
  have W := R.1.2.1
  have C := R.1.1
  have hr := rh_lt W
  obtain ⟨b0, p1', p2', p3', p4', p5'⟩ := id R.1.2.2.2.1
  refine dset (S := fun b => b = rc (rh (nw h)) + 1) (N' := updN (nw h) (805 + 291 * rh (nw h) + (1 + p0.toNat)) (-1)) (e := if 0 ≤ p0 ∧ p0 < nR (nw h) (rh (nw h)) 0 ∧ ¬ nR (nw h) (rh (nw h)) (1 + p0.toNat) = -1 then 0 else 1) (x := (wl (updN (nw h) (805 + 291 * rh (nw h) + (1 + p0.toNat)) (-1)) (rh (nw h)) : Nat)) (wL := fun Q => w_L_unwish p0 Q h) (wR := fun g Q => w_X14_unwish p0 Q g) T R hc (fun b y => by have := rc_lt hr; omega) (fun ez => ?_) (fun ez b => ?_) (fun Q q0 q1 => ?_) (fun g Tg gF g3 g2 eg Q q0 q1 => ?_) k
  · have z := e1_0 (by decide) ez
    exact (CS_unw T C W hr (v := p0.toNat) (by have := (W.2.1 _ hr).2.1; omega) rfl (by
      have := (W.2.1 _ hr).2.1
      have : rh (nw h) = 0 ∨ rh (nw h) = 1 ∨ rh (nw h) = 2 := by omega
      rcases this with y | y | y
      · rw [y, show hn h (rc 0 + 1) = 8 from lyn (c := 103) (n := 8) T rfl]; omega
      · rw [y, show hn h (rc 1 + 1) = 8 from lyn (c := 103) (n := 8) T rfl]; omega
      · rw [y, show hn h (rc 2 + 1) = 8 from lyn (c := 103) (n := 8) T rfl]; omega)).2
  · have z := e1_0 (by decide) ez
    have d2 := (W.2.1 _ hr).2.1
    exact BdN_cg (fun i hi => updN_ne (by omega)) (fun r hr => ⟨updN_ne (by omega), fun p hp => updN_ne (by omega)⟩) (fun m hm => updN_ne (by omega)) (WF_b W).2.2.2 b
  · exact c_L_unwish T C W b0 p1' p2' R.1.2.2.2.2.1 (DK_of (NTm_of R.1)) (fun y => kA q0 (by decide) y) (fun y => kZ q1 y)
  · exact c_X14_unwish Tg eg.symm W (by omega) g3 g2 (NTm_F T gF (NTm_of R.1)) (fun y => kA q0 (by decide) y) (fun y => kZ q1 y)
