/-! INSTALL, the class -/
set_option maxHeartbeats 1000000 in
theorem c_knowMet1 {h : XH} {N : Nat → Int} {nd : Nat → ND} {m : Nat} (T : HT h) (C : CS h 8 N nd) (W : WF N m) (dk : DK nd m) (z : hI h 2 11 = 0) {K : XH → Prop} (k : ∀ g, Fr (fun b => b = 2 ∨ (45 ≤ b ∧ b < 51)) h g → g.length = h.length → xhs g = xhs h → (∀ j, ¬ j = 11 → el g 2 j = el h 2 j) → hI g 2 11 = 1 → MetOK g N nd → K g) : w_X12_knowMet K h := by
  unfold w_X12_knowMet
  have L := HT_len T
  refine ⟨fun g => Fr (fun b => b = 2 ∨ (45 ≤ b ∧ b < 51)) h g ∧ g.length = h.length ∧ xhs g = xhs h ∧ (∀ j, ¬ j = 11 → el g 2 j = el h 2 j) ∧ hI g 2 11 = 1 ∧ MetOK g N nd, ?_, ?_⟩
  · intro h1 t1 s1 z2
    exact k _ z2.1 z2.2.1 z2.2.2.1 z2.2.2.2.1 z2.2.2.2.2.1 z2.2.2.2.2.2
  · refine ⟨fun c5 => ?_, fun c5 => ?_⟩
    · omega
    · refine c_X3_renew T C W dk ?_
      intro h3 q3 m3
      intro t3 u3
      intro h4 eh4 t4 u4
      have s4 : ∀ b, ¬ b = 2 → sameC h3 h4 b := fun b n => by rw [eh4]; exact sameC_sV (fun z => n z.symm)
      have s2 : sameC h h3 2 := q3.1 2 (by omega) (by decide)
      exact ⟨Fr_tr (Fr_mono q3.1 (fun b y => .inr y)) (by have := q3.2.1; omega) (by rw [eh4]; exact Fr_sV (.inl rfl)), by rw [eh4, len_sV]; exact q3.2.1, by rw [eh4, xhs_sV]; exact q3.2.2, fun j n => by rw [eh4, el_ni (fun z => n z.symm)]; exact sameC_el s2 j, by rw [eh4]; exact hI_eq (lstn t3).2.2.2.1 (rgk rfl), MetOK_fr (fun b x y => s4 b (by omega)) m3⟩
set_option maxHeartbeats 4000000 in
theorem c_X12_install {h : XH} {N : Nat → Int} {nd : Nat → ND} {m : Nat} {o u : Int} (T : HT h) (C : CS h 8 N nd) (W : WF N m) (B0 : 0 ≤ o ∧ o < 10 ∧ 0 ≤ u ∧ u ≤ 10) (Bo : hI h 2 9 = o) (Bu : hI h 2 10 = u) (Bs_ : hI h 43 2 = 10) (dk : DK nd m) (CC : CaC h N nd) (l2 : N 2 + 12 ≤ 12000) (lk : ∀ k : Nat, k < 3 → N (1714 + 81 * k) + 36 ≤ 100000) (l47 : nR N (rh N) 47 < 600) {K : Int → XH → Prop} {E : Nat → XH → Prop} (k0 : ¬ sndP N nd (goal N (rh N)) → ∀ g, HT g → CSt h g N nd → E 0 (nT g)) (k : sndP N nd (goal N (rh N)) → ∀ h1 h2 g b L, HT h1 → CSt h h1 N nd → Rmb o u h1 h2 → HT h2 → Arr N nd (goal N (rh N)) b L → L.length ≤ 12 → Fr (fun b => b = 2 ∨ b = 8 ∨ b = 40 ∨ (rc (rh N) ≤ b ∧ b < rc (rh N) + 4) ∨ (44 ≤ b ∧ b < 86)) h2 g → g.length = h2.length → xhs g = xhs h2 → (∀ j, j = 9 ∨ j = 10 → el g 2 j = el h2 2 j) → HT g → CS g 8 (insP N nd b L).2 nd → CaC g (insP N nd b L).2 nd → K (insP N nd b L).1 g) : w_X12_install K E h := by
  unfold w_X12_install
  have L0 := HT_len T
  have rb := rc_lt (rh_lt W)
  have Bs := bs_lt (k := ((o + u) % 10).toNat) (by omega)
  refine c_X12_checkGoalSound T C W dk CC k0 (fun y h1 t1 s1 c1 _ _ => ?_)
  intro _ _
  have C1 : CS h1 8 N nd := CS_fr (fun j hj => s1.2.1 (8 + j) (by omega) (by omega)) (txt_fr T s1.2.1 (fun b y => by omega)) (WF_b W) C
  have g1 := s1.2.2.2.1
  refine c_X12_remember B0 t1 ((congrArg gvI (s1.2.2.1 9 (.inl rfl))).trans Bo) ((congrArg gvI (s1.2.2.1 10 (.inr rfl))).trans Bu) ((sameC_I (s1.2.1 43 (by omega) (by omega)) 2).trans Bs_) ?_
  intro h2 qh2
  intro t2 u2
  have C2 := Rmb_CS t1 qh2 B0 W C1
  have g2 := qh2.2.1
  refine c_knowMet1 t2 C2 W dk qh2.2.2.2.1 ?_
  intro h3 F3 l3 x3 k3 e3 M3
  intro t3 u3
  have C3 : CS h3 8 N nd := CS_fr (fun j hj => F3 (8 + j) (by omega) (by omega)) (txt_fr t2 F3 (fun b y => by omega)) (WF_b W) C2
  refine c_X2_run t3 C3 W dk M3 l2 lk l47 ?_
  intro h5 b L A5 l12 F5 l5 x5 t5_ C5 M5
  intro t5 u5
  intro rx4
  have s2 : sameC h3 h5 2 := F5 2 (by omega) (by omega)
  have F25 : Fr (fun b => b = 2 ∨ b = 8 ∨ b = 40 ∨ (rc (rh N) ≤ b ∧ b < rc (rh N) + 4) ∨ (44 ≤ b ∧ b < 86)) h2 h5 := Fr_tr (Fr_mono F3 (fun b y => by omega)) (by omega) (Fr_mono F5 (fun b y => by omega))
  refine k y h1 h2 h5 b L t1 s1 qh2 t2 A5 l12 F25 (by omega) (by omega) (fun j hj => (sameC_el s2 j).trans (k3 j (by omega))) t5_ C5 ?_
  have i11 : hI h5 2 11 = 1 := (sameC_I s2 11).trans e3
  have z58 : ∀ c : Nat, c < 3712 → hI h5 58 c = 0 := fun c hc => by
    rw [sameC_I (F5 58 (by omega) (by omega)), sameC_I (F3 58 (by omega) (by omega)), sameC_I (qh2.1 58 (by omega) (by omega))]
    exact c1.2.2.2.2.2.2 c hc
  unfold CaC
  rw [i11]
  exact ⟨by decide, by decide, fun _ => M5, fun z => absurd z (by decide), fun z => absurd z (by decide), fun z => absurd z (by decide), z58⟩
set_option maxHeartbeats 1000000 in
theorem c_L_install {h : XH} {N : Nat → Int} {nd : Nat → ND} {m : Nat} {o u : Int} (T : HT h) (C : CS h 8 N nd) (W : WF N m) (B0 : 0 ≤ o ∧ o < 10 ∧ 0 ≤ u ∧ u ≤ 10) (Bo : hI h 2 9 = o) (Bu : hI h 2 10 = u) (Bs_ : hI h 43 2 = 10) (dk : DK nd m) (CC : CaC h N nd) (l2 : N 2 + 12 ≤ 12000) (lk : ∀ k : Nat, k < 3 → N (1714 + 81 * k) + 36 ≤ 100000) (l47 : nR N (rh N) 47 < 600) {K : Int → XH → Prop} (k0 : ¬ sndP N nd (goal N (rh N)) → ∀ g, HT g → CSt h g N nd → K 1 (nT g)) (k : sndP N nd (goal N (rh N)) → ∀ h1 h2 g b L, HT h1 → CSt h h1 N nd → Rmb o u h1 h2 → HT h2 → Arr N nd (goal N (rh N)) b L → L.length ≤ 12 → Fr (fun b => b = 2 ∨ b = 8 ∨ b = 40 ∨ (rc (rh N) ≤ b ∧ b < rc (rh N) + 4) ∨ (44 ≤ b ∧ b < 86)) h2 g → g.length = h2.length → xhs g = xhs h2 → (∀ j, j = 9 ∨ j = 10 → el g 2 j = el h2 2 j) → HT g → CS g 8 (insP N nd b L).2 nd → CaC g (insP N nd b L).2 nd → ∀ h5, h5 = sL g 467 0 (i2l (insP N nd b L).1) → K 0 h5) : w_L_install K h := by
  unfold w_L_install
  refine c_X12_install T C W B0 Bo Bu Bs_ dk CC l2 lk l47 (fun y g t s => ⟨rfl, k0 y g t s⟩) (fun y h1 h2 g b L t1 s1 r2 t2 A l F gl gx e9 tg Cg CCg => ?_)
  intro tx ux _
  intro h5 eh5 t5 u5
  exact k y h1 h2 g b L t1 s1 r2 t2 A l F gl gx e9 tg Cg CCg _ eh5
theorem dset3 {S : Nat → Prop} {N' : Nat → Int} {h : XH} {nd : Nat → ND} {o u e x : Int} {c n0 s0 n1 s1 : Nat} {wL : (Int → XH → Prop) → Prop} {wR : XH → (Int → XH → Prop) → Prop} (T : HT h) (R : Inv h nd o u c) (hc : c < 1000) (re : rg e) (hs : ∀ b, S b → b = 2 ∨ (8 ≤ b ∧ b < 43) ∨ (44 ≤ b ∧ b < 86))
    (W' : e = 0 → WF N' (hI h 437 7).toNat) (B' : e = 0 → BdN (nw h) c → BdN N' (c + 1))
    (A : ∀ Q : Int → XH → Prop, (¬ e = 0 → ∀ g, HT g → CSt h g (nw h) nd → Q e (nT g)) → (e = 0 → ∀ h1 h2 h4 h5, HT h1 → CSt h h1 (nw h) nd → Rmb o u h1 h2 → HT h2 → Fr S h2 h4 → h4.length = h2.length → xhs h4 = xhs h2 → (∀ j, j = 9 ∨ j = 10 → el h4 2 j = el h2 2 j) → HT h4 → CS h4 8 N' nd → CaC h4 N' nd → h5 = sL h4 467 0 (i2l x) → Q 0 h5) → wL Q)
    (B : ∀ g, HT g → NTm g nd (hI h 437 7).toNat → CaR g (nw h) nd → hI g 437 3 = (o + u) % 10 → hI g 437 2 = u → nw g = nw h → ∀ Q : Int → XH → Prop, (¬ e = 0 → ∀ g1 g2 g3, HT g1 → g1 = sI g 437 5 0 → RSt g1 g2 nd n0 s0 → HT g2 → g3 = sI g2 437 5 e → Q 0 g3) → (e = 0 → ∀ g1 g2 g5 g7, HT g1 → g1 = sI g 437 5 0 → RSt g1 g2 nd n0 s0 → HT g2 → Rrec ((o + u) % 10) u g2 g5 → HT g5 → Fr (fun b => b = 437 ∨ b = 438 ∨ (462 ≤ b ∧ b < 467)) g5 g7 → (∀ j, j ≤ 55 → el g7 437 j = el g5 437 j) → Gr n1 s1 g5 g7 → nw g7 = N' → Q x g7) → wR g Q)
    {K : Int → XH → Prop} {J : XH → Prop} (k : ∀ h' o' u', HT h' → Inv h' nd o' u' (c + 1) → Gr (1 + n0 + n1) (xcs none + s0 + s1) h h' → J h') : wL (LDw h wR K J) := by
  have L := HT_len T
  have P := R.1.2.2.2.1
  have b0 := P.1
  have BB : ∀ {g}, HT g → Fr (fun b => b < 437 ∨ b = 467) h g → NTm g nd (hI h 437 7).toNat ∧ CaR g (nw h) nd ∧ hI g 437 3 = (o + u) % 10 ∧ hI g 437 2 = u ∧ nw g = nw h := fun {g} Tg f => by
    have s37 : sameC h g 437 := f 437 (by omega) (by omega)
    exact ⟨NTm_F T f (NTm_of R.1), CaR_fr (fun b x y => f b y (by omega)) (fun j _ => sameC_el s37 j) L R.2.2.2, (sameC_I s37 3).trans P.2.2.2.2.1, (sameC_I s37 2).trans P.2.2.2.1, nw_fr (f 438 (by omega) (by omega))⟩
  refine A _ (fun ne g Tg s => ?_) (fun ez h1 h2 h4 h5 T1 s r T2 F4 l4 x4 e2 T4 C4 CC4 e5 => ?_)
  · intro t1 u1 rx
    have a := Ask_c T R s
    have a2 := Ask_tr a (Ask_nT Tg a.1)
    have f : Fr (fun b => b < 437 ∨ b = 467) h (nT g) := fun b hb n => sameC_tr (s.2.1 b hb (by omega)) (nT_s g (by have := s.2.2.2.1; omega))
    obtain ⟨q1, q2, q3, q4, q5⟩ := BB t1 f
    refine B (nT g) t1 q1 q2 q3 q4 q5 _ (fun _ g1 g2 g3 tg e1 rr t2 e3 => ?_) (fun ez => (ne ez).elim)
    intro t3 u3 ry
    obtain ⟨z1, z2⟩ := Ask_rn t1 a2.1 tg e1 rr t2 re e3
    have z3 := Ask_tr a2 z1
    exact fin_ z2 (fun z => (ne z).elim) (k g3 o u t3 (Inv_mono (Nat.le_succ c) z3.1) (Gr_mono z3.2.2 (by omega) (by omega)))
  · intro t1 u1 rx
    have R1 := CSt_Inv T R s
    have gl1 := s.2.2.2.1
    have gx1 := s.2.2.2.2
    have n1 : nw h1 = nw h := nw_fr (s.2.1 438 (by omega) (by omega))
    have i7 : hI h1 437 7 = hI h 437 7 := sameC_I (s.2.1 437 (by omega) (by omega)) 7
    have F5 : Fr (fun b => b = 467) h4 h5 := by rw [e5]; exact Fr_sV rfl
    obtain ⟨q1, q2, q3, q4, q5⟩ := BB t1 (Fr_tr (Fr_mono s.2.1 (fun b y => by omega)) (by omega) (keptB T1 R1 hs r F4 l4 F5))
    refine B h5 t1 q1 q2 q3 q4 q5 _ (fun ne => (ne ez).elim) (fun _ g1 g2 g5 g7 tg e1 rr t2 r3 t5 F7 e7 G7 en => ?_)
    intro t7 u7 ry
    obtain ⟨⟨o', u', I⟩, g, h5', hl⟩ := set2 T1 R1 hc hs r T2 F4 l4 x4 e2 T4 C4 CC4 F5 (by rw [e5, len_sV]) (by rw [e5, xhs_sV]) t1 e1 tg rr t2 r3 t5 F7 e7 G7 en (by rw [i7]; exact W' ez) (by rw [n1]; exact B' ez)
    rw [← ez] at h5'
    refine fin_ (by rw [h5', ez]) (fun _ => ?_) (k g7 o' u' t7 I ⟨by have := g.1; omega, by have := g.2; omega⟩)
    rw [hl, e5]
    exact hL_eq (by rw [lyn (c := 101) (n := 1) T4 rfl]; decide)
