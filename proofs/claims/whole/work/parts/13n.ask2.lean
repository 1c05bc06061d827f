/-! CALLS THAT ASK OR SET, where something is worked out: both sides -/
theorem Ask_tr {h g k : XH} {nd : Nat → ND} {o u : Int} {c n s n2 s2 : Nat} (a : Ask h g nd o u c n s) (b : Ask g k nd o u c n2 s2) : Ask h k nd o u c (n + n2) (s + s2) := ⟨b.1, b.2.1.trans a.2.1, Gr_tr a.2.2 b.2.2⟩
theorem bq_is {x : Int} {P : Prop} [Decidable P] (q : bq x P) : x = if P then 1 else 0 := by
  rcases q with ⟨e, p⟩ | ⟨e, p⟩
  · rw [if_pos p]; exact e
  · rw [if_neg p]; exact e
theorem mkAe {h : XH} {nd : Nat → ND} {o u e x : Int} {c : Nat} {wL : (Int → XH → Prop) → Prop} (T : HT h) (R : Inv h nd o u c) (a : ∀ Q : Int → XH → Prop, (¬ e = 0 → ∀ g, HT g → CSt h g (nw h) nd → Q e (nT g)) → (e = 0 → ∀ g g6, HT g → CSt h g (nw h) nd → g6 = sL g 467 0 (i2l x) → Q 0 g6) → wL Q) :
    ∀ Q : Int → XH → Prop, (∀ g, Ask h g nd o u c 1 (xcs none) → (e = 0 → hL g 467 0 = i2l x) → Q e g) → wL Q := by
  intro Q q
  refine a Q (fun ne g Tg s => ?_) (fun ez g g6 Tg s e6 => ?_)
  · have A := Ask_c T R s
    have B := Ask_tr A (Ask_nT Tg A.1)
    rw [Nat.zero_add, Nat.zero_add] at B
    exact q _ B (fun z => (ne z).elim)
  · have A := Ask_c T R s
    obtain ⟨z1, z2⟩ := Ask_6 Tg A.1 e6
    have B := Ask_tr A z1
    have := q g6 ⟨B.1, B.2.1, Gr_mono B.2.2 (by omega) (by omega)⟩ (fun _ => z2)
    rw [ez] at this
    exact this
theorem mkBe {g : XH} {nd : Nat → ND} {o u e x : Int} {c n2 s2 : Nat} {wR : (Int → XH → Prop) → Prop} (T : HT g) (R : Inv g nd o u c) (re : rg e) (b : ∀ Q : Int → XH → Prop, (¬ e = 0 → ∀ g1 g2 g3, HT g1 → g1 = sI g 437 5 0 → RSt g1 g2 nd n2 s2 → HT g2 → g3 = sI g2 437 5 e → Q 0 g3) → (e = 0 → ∀ g1 g2, HT g1 → g1 = sI g 437 5 0 → RSt g1 g2 nd n2 s2 → Q x g2) → wR Q) :
    ∀ Q : Int → XH → Prop, (∀ g2 y, Ask g g2 nd o u c n2 s2 → hI g2 437 5 = e → (e = 0 → y = x ∧ hL g2 467 0 = hL g 467 0) → Q y g2) → wR Q := by
  intro Q q
  refine b Q (fun ne h1 h2 h3 t1 e1 r t2 e3 => ?_) (fun ez h1 h2 t1 e1 r => ?_)
  · obtain ⟨z1, z2⟩ := Ask_rn T R t1 e1 r t2 re e3
    exact q h3 0 z1 z2 (fun z => (ne z).elim)
  · obtain ⟨z1, z2, z3⟩ := Ask_r T R t1 e1 r
    exact q h2 x z1 (z2.trans ez.symm) (fun _ => ⟨rfl, z3⟩)
theorem mkAq {h : XH} {nd : Nat → ND} {o u x : Int} {c : Nat} {wL : (Int → XH → Prop) → Prop} (T : HT h) (R : Inv h nd o u c) (a : ∀ Q : Int → XH → Prop, (∀ g, HT g → CSt h g (nw h) nd → Q x g) → wL Q) :
    ∀ Q : Int → XH → Prop, (∀ g, Ask h g nd o u c 0 0 → Q x g) → wL Q := fun Q q => a Q (fun g _ s => q g (Ask_c T R s))
theorem mkBq {g : XH} {nd : Nat → ND} {o u x : Int} {c n2 s2 : Nat} {wR : (Int → XH → Prop) → Prop} (T : HT g) (R : Inv g nd o u c) (b : ∀ Q : Int → XH → Prop, (∀ g1 g2, HT g1 → g1 = sI g 437 5 0 → RSt g1 g2 nd n2 s2 → Q x g2) → wR Q) :
    ∀ Q : Int → XH → Prop, (∀ g2 y, Ask g g2 nd o u c n2 s2 → y = x → Q y g2) → wR Q := fun Q q => b Q (fun g1 g2 t1 e1 r => q g2 x (Ask_r T R t1 e1 r).1 rfl)
/-- what the law goes on with, of an answer yes or no that is never refused -/
abbrev LDqB (h : XH) (wR : XH → (Int → XH → Prop) → Prop) (K : Int → XH → Prop) (J : XH → Prop) : Int → XH → Prop := fun x h1 => HT h1 → HX h h1 → rg x → (x = 0 ∨ x = 1) → (wR h1 (fun y h2 => HT h2 → HX h1 h2 → rg y → (y = 0 ∨ y = 1) → ((x = y → J h2) ∧ (¬ (x = y) → K 0 h2))))
theorem dasqB {h : XH} {nd : Nat → ND} {o u x : Int} {c n1 s1 n2 s2 : Nat} {wL : (Int → XH → Prop) → Prop} {wR : XH → (Int → XH → Prop) → Prop}
    (A : ∀ Q : Int → XH → Prop, (∀ g, Ask h g nd o u c n1 s1 → Q x g) → wL Q)
    (B : ∀ g, HT g → Inv g nd o u c → nw g = nw h → ∀ Q : Int → XH → Prop, (∀ g2 y, Ask g g2 nd o u c n2 s2 → y = x → Q y g2) → wR g Q)
    {K : Int → XH → Prop} {J : XH → Prop} (k : ∀ h' o' u', HT h' → Inv h' nd o' u' (c + 1) → Gr (n1 + n2) (s1 + s2) h h' → J h') : wL (LDqB h wR K J) := by
  refine A _ (fun g a => ?_)
  intro t1 u1 rx vx
  refine B g t1 a.1 a.2.1 _ (fun g2 y b ey => ?_)
  intro t2 u2 ry vy
  exact ⟨fun _ => k g2 o u t2 (Inv_mono (Nat.le_succ c) b.1) (Gr_tr a.2.2 b.2.2), fun n => (n ey.symm).elim⟩
/-- behind a call of the class that has kept the state: what the reference finds -/
theorem keptB {S : Nat → Prop} {h h2 h4 g : XH} {nd : Nat → ND} {o u : Int} {c : Nat} (T : HT h) (R : Inv h nd o u c) (hs : ∀ b, S b → b = 2 ∨ (8 ≤ b ∧ b < 43) ∨ (44 ≤ b ∧ b < 86)) (r : Rmb o u h h2) (F4 : Fr S h2 h4) (l4 : h4.length = h2.length) (F5 : Fr (fun b => b = 467) h4 g) : Fr (fun b => b < 437 ∨ b = 467) h g := fun b hb n => by
  have b0 := R.1.2.2.2.1.1
  have Bs := bs_lt (k := ((o + u) % 10).toNat) (by omega)
  have := r.2.1
  exact sameC_tr (sameC_tr (r.1 b hb (fun y => n (by omega))) (F4 b (by omega) (fun y => by have := hs _ y; omega))) (F5 b (by omega) (fun y => n (.inr y)))
theorem dset2 {S : Nat → Prop} {N' : Nat → Int} {h : XH} {nd : Nat → ND} {o u e x : Int} {c n0 s0 n1 s1 : Nat} {wL : (Int → XH → Prop) → Prop} {wR : XH → (Int → XH → Prop) → Prop} (T : HT h) (R : Inv h nd o u c) (hc : c < 1000) (re : rg e) (hs : ∀ b, S b → b = 2 ∨ (8 ≤ b ∧ b < 43) ∨ (44 ≤ b ∧ b < 86))
    (W' : e = 0 → WF N' (hI h 437 7).toNat) (B' : e = 0 → BdN (nw h) c → BdN N' (c + 1))
    (A : ∀ Q : Int → XH → Prop, (¬ e = 0 → ∀ g, HT g → CSt h g (nw h) nd → Q e (nT g)) → (e = 0 → ∀ h2 h4 h5, Rmb o u h h2 → HT h2 → Fr S h2 h4 → h4.length = h2.length → xhs h4 = xhs h2 → (∀ j, j = 9 ∨ j = 10 → el h4 2 j = el h2 2 j) → HT h4 → CS h4 8 N' nd → CaC h4 N' nd → h5 = sL h4 467 0 (i2l x) → Q 0 h5) → wL Q)
    (B : ∀ g, HT g → NTm g nd (hI h 437 7).toNat → CaR g (nw h) nd → hI g 437 3 = (o + u) % 10 → hI g 437 2 = u → nw g = nw h → ∀ Q : Int → XH → Prop, (¬ e = 0 → ∀ g1 g2 g3, HT g1 → g1 = sI g 437 5 0 → RSt g1 g2 nd n0 s0 → HT g2 → g3 = sI g2 437 5 e → Q 0 g3) → (e = 0 → ∀ g1 g2 g5 g7, HT g1 → g1 = sI g 437 5 0 → RSt g1 g2 nd n0 s0 → HT g2 → Rrec ((o + u) % 10) u g2 g5 → HT g5 → Fr (fun b => b = 437 ∨ b = 438 ∨ (462 ≤ b ∧ b < 467)) g5 g7 → (∀ j, j ≤ 55 → el g7 437 j = el g5 437 j) → Gr n1 s1 g5 g7 → nw g7 = N' → Q x g7) → wR g Q)
    {K : Int → XH → Prop} {J : XH → Prop} (k : ∀ h' o' u', HT h' → Inv h' nd o' u' (c + 1) → Gr (1 + n0 + n1) (xcs none + s0 + s1) h h' → J h') : wL (LDw h wR K J) := by
  have L := HT_len T
  have P := R.1.2.2.2.1
  have b0 := P.1
  have BB : ∀ {g}, HT g → Fr (fun b => b < 437 ∨ b = 467) h g → NTm g nd (hI h 437 7).toNat ∧ CaR g (nw h) nd ∧ hI g 437 3 = (o + u) % 10 ∧ hI g 437 2 = u ∧ nw g = nw h := fun {g} Tg f => by
    have s37 : sameC h g 437 := f 437 (by omega) (by omega)
    exact ⟨NTm_F T f (NTm_of R.1), CaR_fr (fun b x y => f b y (by omega)) (fun j _ => sameC_el s37 j) L R.2.2.2, (sameC_I s37 3).trans P.2.2.2.2.1, (sameC_I s37 2).trans P.2.2.2.1, nw_fr (f 438 (by omega) (by omega))⟩
  refine A _ (fun ne g Tg s => ?_) (fun ez h2 h4 h5 r T2 F4 l4 x4 e2 T4 C4 CC4 e5 => ?_)
  · intro t1 u1 rx
    have a := Ask_c T R s
    have a2 := Ask_tr a (Ask_nT Tg a.1)
    have f : Fr (fun b => b < 437 ∨ b = 467) h (nT g) := fun b hb n => sameC_tr (s.2.1 b hb (by omega)) (nT_s g (by have := s.2.2.2.1; omega))
    obtain ⟨q1, q2, q3, q4, q5⟩ := BB t1 f
    refine B (nT g) t1 q1 q2 q3 q4 q5 _ (fun _ g1 g2 g3 tg e1 rr t2 e3 => ?_) (fun ez => (ne ez).elim)
    intro t3 u3 ry
    obtain ⟨z1, z2⟩ := Ask_rn t1 a2.1 tg e1 rr t2 re e3
    have z3 := Ask_tr a2 z1
    exact fin_ z2 (fun z => (ne z).elim) (k g3 o u t3 (Inv_mono (Nat.le_succ c) z3.1) (Gr_mono z3.2.2 (by omega) (by omega)))
  · intro t1 u1 rx
    have F5 : Fr (fun b => b = 467) h4 h5 := by rw [e5]; exact Fr_sV rfl
    obtain ⟨q1, q2, q3, q4, q5⟩ := BB t1 (keptB T R hs r F4 l4 F5)
    refine B h5 t1 q1 q2 q3 q4 q5 _ (fun ne => (ne ez).elim) (fun _ g1 g2 g5 g7 tg e1 rr t2 r3 t5 F7 e7 G7 en => ?_)
    intro t7 u7 ry
    obtain ⟨⟨o', u', I⟩, g, h5', hl⟩ := set2 T R hc hs r T2 F4 l4 x4 e2 T4 C4 CC4 F5 (by rw [e5, len_sV]) (by rw [e5, xhs_sV]) t1 e1 tg rr t2 r3 t5 F7 e7 G7 en (W' ez) (B' ez)
    rw [← ez] at h5'
    refine fin_ (by rw [h5', ez]) (fun _ => ?_) (k g7 o' u' t7 I (Gr_mono g (by omega) (by omega)))
    rw [hl, e5]
    exact hL_eq (by rw [lyn (c := 101) (n := 1) T4 rfl]; decide)
/-- never refused -/
theorem dset2q {S : Nat → Prop} {N' : Nat → Int} {h : XH} {nd : Nat → ND} {o u x : Int} {c n0 s0 n1 s1 : Nat} {wL : (Int → XH → Prop) → Prop} {wR : XH → (Int → XH → Prop) → Prop} (T : HT h) (R : Inv h nd o u c) (hc : c < 1000) (hs : ∀ b, S b → b = 2 ∨ (8 ≤ b ∧ b < 43) ∨ (44 ≤ b ∧ b < 86))
    (W' : WF N' (hI h 437 7).toNat) (B' : BdN (nw h) c → BdN N' (c + 1))
    (A : ∀ Q : Int → XH → Prop, (∀ h2 h4, Rmb o u h h2 → HT h2 → Fr S h2 h4 → h4.length = h2.length → xhs h4 = xhs h2 → (∀ j, j = 9 ∨ j = 10 → el h4 2 j = el h2 2 j) → HT h4 → CS h4 8 N' nd → CaC h4 N' nd → Q x h4) → wL Q)
    (B : ∀ g, HT g → NTm g nd (hI h 437 7).toNat → CaR g (nw h) nd → hI g 437 3 = (o + u) % 10 → hI g 437 2 = u → nw g = nw h → ∀ Q : Int → XH → Prop, (∀ g1 g2 g5 g7, HT g1 → g1 = sI g 437 5 0 → RSt g1 g2 nd n0 s0 → HT g2 → Rrec ((o + u) % 10) u g2 g5 → HT g5 → Fr (fun b => b = 437 ∨ b = 438 ∨ (462 ≤ b ∧ b < 467)) g5 g7 → (∀ j, j ≤ 55 → el g7 437 j = el g5 437 j) → Gr n1 s1 g5 g7 → nw g7 = N' → Q x g7) → wR g Q)
    {K : Int → XH → Prop} {J : XH → Prop} (k : ∀ h' o' u', HT h' → Inv h' nd o' u' (c + 1) → Gr (n0 + n1) (s0 + s1) h h' → J h') : wL (LDq h wR K J) := by
  have L := HT_len T
  have P := R.1.2.2.2.1
  refine A _ (fun h2 h4 r T2 F4 l4 x4 e2 T4 C4 CC4 => ?_)
  intro t1 u1 rx
  have f := keptB T R hs r F4 l4 (Fr_rf _ h4)
  have s37 : sameC h h4 437 := f 437 (by omega) (by omega)
  refine B h4 t1 (NTm_F T f (NTm_of R.1)) (CaR_fr (fun b x y => f b y (by omega)) (fun j _ => sameC_el s37 j) L R.2.2.2) ((sameC_I s37 3).trans P.2.2.2.2.1) ((sameC_I s37 2).trans P.2.2.2.1) (nw_fr (f 438 (by omega) (by omega))) _ (fun g1 g2 g5 g7 tg e1 rr t2 r3 t5 F7 e7 G7 en => ?_)
  intro t7 u7 ry
  obtain ⟨⟨o', u', I⟩, g, -, -⟩ := set2 T R hc hs r T2 F4 l4 x4 e2 T4 C4 CC4 (Fr_rf _ h4) rfl rfl t1 e1 tg rr t2 r3 t5 F7 e7 G7 en W' B'
  exact ⟨fun _ => k g7 o' u' t7 I g, fun n => (n rfl).elim⟩
