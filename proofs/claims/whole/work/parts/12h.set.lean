/-! CALLS THAT SET, both sides: e says how it ends (0: done), N' is the row then, x the answer -/
def updN (N : Nat → Int) (i : Nat) (v : Int) : Nat → Int := fun j => if j = i then v else N j
theorem updN_eq {N : Nat → Int} {i : Nat} {v : Int} : updN N i v i = v := if_pos rfl
theorem updN_ne {N : Nat → Int} {i j : Nat} {v : Int} (n : ¬ j = i) : updN N i v j = N j := if_neg n
theorem dset {S : Nat → Prop} {N' : Nat → Int} {h : XH} {nd : Nat → ND} {o u e x : Int} {c n1 s1 : Nat} {wL : (Int → XH → Prop) → Prop} {wR : XH → (Int → XH → Prop) → Prop} (T : HT h) (R : Inv h nd o u c) (hc : c < 1000) (hs : ∀ b, S b → 8 ≤ b ∧ b < 43)
    (W' : e = 0 → WF N' (hI h 437 7).toNat) (B' : e = 0 → BdN (nw h) c → BdN N' (c + 1))
    (A : ∀ Q : Int → XH → Prop, (∀ n, e = n → ¬ n = 0 → Q n (nT h)) → (e = 0 → ∀ h2 h4 h5, Rmb o u h h2 → HT h2 → Fr S h2 h4 → h4.length = h2.length → xhs h4 = xhs h2 → HT h4 → CS h4 8 N' nd → h5 = sL h4 467 0 (i2l x) → Q 0 h5) → wL Q)
    (B : ∀ g, HT g → Fr (fun b => b < 437 ∨ b = 467) h g → hI g 437 3 = (o + u) % 10 → hI g 437 2 = u → nw g = nw h → ∀ Q : Int → XH → Prop, (∀ n, e = n → ¬ n = 0 → ∀ g1 g2, HT g1 → g1 = sI g 437 5 0 → g2 = sI g1 437 5 n → Q 0 g2) → (e = 0 → ∀ g1 g5 g7, HT g1 → g1 = sI g 437 5 0 → Rrec ((o + u) % 10) u g1 g5 → HT g5 → Fr (fun b => b = 438) g5 g7 → Gr n1 s1 g5 g7 → nw g7 = N' → Q x g7) → wR g Q)
    {K : Int → XH → Prop} {J : XH → Prop} (k : ∀ h' o' u', HT h' → Inv h' nd o' u' (c + 1) → Gr (1 + n1) (xcs none + s1) h h' → J h') : wL (LDw h wR K J) := by
  have L := HT_len T
  obtain ⟨b0, p1, p2, p3, p4, p5⟩ := id R.1.2.2.2.1
  have Bs := bs_lt (k := ((o + u) % 10).toNat) (by omega)
  refine A _ (fun n en nz => ?_) (fun ez h2 h4 h5 r T2 F4 l4 x4 T4 C4 e5 => ?_)
  · intro t1 u1 rx
    have s := nT_s h (b := 437) (by omega)
    refine B (nT h) t1 (fun b hb _ => nT_s h hb) (by rw [sameC_I s]; exact p4) (by rw [sameC_I s]; exact p3) (nw_fr (nT_s h (by omega))) _ (fun n' en' nz' g1 g2 tg e1 e2 => ?_) (fun ez => (nz (en.symm.trans ez)).elim)
    intro t2 u2 ry
    obtain rfl : n = n' := en.symm.trans en'
    obtain ⟨q1, q2, q3⟩ := bad_ T t1 R tg rx e1 e2
    exact fin_ q2 (fun z => (nz z).elim) (k g2 o u t2 (Inv_mono (Nat.le_succ c) q1) (Gr_mono q3 (by omega) (by omega)))
  · intro t1 u1 rx
    have rl := r.2.1
    have s37 : sameC h2 h4 437 := F4 437 (by omega) (fun y => by have := hs _ y; omega)
    have s : ∀ j, el h5 437 j = el h 437 j := fun j => by
      rw [e5, el_ne (by decide), sameC_el s37, sameC_el (r.1 437 (by omega) (by omega))]
    have n5 : nw h5 = nw h := nw_fr (sameC_tr (sameC_tr (r.1 438 (by omega) (by omega)) (F4 438 (by omega) (fun y => by have := hs _ y; omega))) (by rw [e5]; exact sameC_sV (by decide)))
    have fg : Fr (fun b => b < 437 ∨ b = 467) h h5 := fun b hb n => sameC_tr (sameC_tr (r.1 b hb (fun y => n (by omega))) (F4 b (by omega) (fun y => by have := hs _ y; omega))) (by rw [e5]; exact sameC_sV (fun z => n (.inr z.symm)))
    refine B h5 t1 fg ((congrArg gvI (s 3)).trans p4) ((congrArg gvI (s 2)).trans p3) n5 _ (fun n' en' nz' => (nz' (en'.symm.trans ez)).elim) (fun _ g1 g5 g7 tg e1 r3 T5 F7 G7 en => ?_)
    intro t2 u2 ry
    obtain ⟨G, H, X, N5, Kc, Z, Y⟩ := j_set T R.1 r F4 hs l4 T4 e5 t1 e1 r3 T5 F7
    have ql := r3.2.1
    have l1 : g1.length = h4.length := by rw [e1, len_sV, e5, len_sV]
    have F47 : Fr (fun b => b = 467 ∨ b = 437 ∨ b = 439 ∨ b = 438) h4 g7 := fun b hb n => by
      have f5 : sameC h4 h5 b := by rw [e5]; exact sameC_sV (fun z => n (.inl z.symm))
      have f1 : sameC h5 g1 b := by rw [e1]; exact sameC_sV (fun z => n (.inr (.inl z.symm)))
      exact sameC_tr (sameC_tr (sameC_tr f5 f1) (r3.1 b (by omega) (fun y => n (by omega)))) (F7 b (by omega) (fun y => n (by omega)))
    have wb := WF_b (W' ez)
    have nC : CS g7 8 (nw g7) nd := by
      rw [en]
      exact CS_fr (fun j hj => H (8 + j) (by omega) (by omega)) (txt_fr T4 F47 (fun b y => by omega)) wb C4
    obtain ⟨o', u', K'⟩ := Kc nC (by rw [en]; exact W' ez)
    refine fin_ Z (fun _ => Y) (k g7 o' u' t2 (Inv_set T R hc r F4 hs l4 e5 e1 r3 F7 K' (fun _ b => by rw [en]; exact B' ez b)) ?_)
    have y1 := r.2.2.1
    have y2 := r3.2.2.1
    rw [e1, xhs_sV, e5, xhs_sV] at y2
    exact ⟨by have := G7.1; omega, by have := G7.2; omega⟩
/-- refused in one way -/
theorem kA {P : Prop} [Decidable P] {n : Int} {M : Int → Prop} (q : ∀ k, (if P then (0 : Int) else n) = k → ¬ k = 0 → M k) (hn : ¬ n = 0) (y : ¬ P) : M n := q n (if_neg y) hn
theorem kZ {P : Prop} [Decidable P] {n : Int} {M : Prop} (q : (if P then (0 : Int) else n) = 0 → M) (y : P) : M := q (if_pos y)
/-- in two or three ways -/
def e3_ (P1 P2 P3 : Prop) [Decidable P1] [Decidable P2] [Decidable P3] (n1 n2 n3 : Int) : Int := if P1 then (if P2 then (if P3 then 0 else n3) else n2) else n1
theorem e3_1 {P1 P2 P3 : Prop} [Decidable P1] [Decidable P2] [Decidable P3] {n1 n2 n3 : Int} (a : ¬ P1) : e3_ P1 P2 P3 n1 n2 n3 = n1 := if_neg a
theorem e3_2 {P1 P2 P3 : Prop} [Decidable P1] [Decidable P2] [Decidable P3] {n1 n2 n3 : Int} (a : P1) (b : ¬ P2) : e3_ P1 P2 P3 n1 n2 n3 = n2 := by unfold e3_; rw [if_pos a, if_neg b]
theorem e3_3 {P1 P2 P3 : Prop} [Decidable P1] [Decidable P2] [Decidable P3] {n1 n2 n3 : Int} (a : P1) (b : P2) (c : ¬ P3) : e3_ P1 P2 P3 n1 n2 n3 = n3 := by unfold e3_; rw [if_pos a, if_pos b, if_neg c]
theorem e3_0 {P1 P2 P3 : Prop} [Decidable P1] [Decidable P2] [Decidable P3] {n1 n2 n3 : Int} (h1 : ¬ n1 = 0) (h2 : ¬ n2 = 0) (h3 : ¬ n3 = 0) (z : e3_ P1 P2 P3 n1 n2 n3 = 0) : P1 ∧ P2 ∧ P3 := by
  unfold e3_ at z
  by_cases a : P1
  · rw [if_pos a] at z
    by_cases b : P2
    · rw [if_pos b] at z
      by_cases c : P3
      · exact ⟨a, b, c⟩
      · rw [if_neg c] at z; exact (h3 z).elim
    · rw [if_neg b] at z; exact (h2 z).elim
  · rw [if_neg a] at z; exact (h1 z).elim
theorem e1_0 {P : Prop} [Decidable P] {n : Int} (hn : ¬ n = 0) (z : (if P then (0 : Int) else n) = 0) : P := by
  by_cases a : P
  · exact a
  · rw [if_neg a] at z; exact (hn z).elim
theorem BdN_cg {N M : Nat → Int} {c : Nat} (e : ∀ i, (i = 2 ∨ 4 ≤ i ∧ i < 805) → M i = N i) (er : ∀ r : Nat, r < 3 → nR M r 47 = nR N r 47 ∧ ∀ p : Nat, p < 12 → inst M r p = inst N r p) (em : ∀ m : Nat, m < 3 → M (1714 + 81 * m) = N (1714 + 81 * m)) (W : N 4 ≤ 40) (b : BdN N c) : BdN M (c + 1) := by
  obtain ⟨a1, a2, a3, a4⟩ := b
  refine ⟨fun r hr => by rw [(er r hr).1]; have := a1 r hr; omega, by rw [e 2 (by omega)]; omega, fun m hm => by rw [em m hm]; have := a3 m hm; omega, DJ_cg (fun i x y => e i (by omega)) W (fun r hr p hp => (er r hr).2 p hp) a4⟩
/-! the reference's needs in another heap -/
def NTm (h : XH) (nd : Nat → ND) (m : Nat) : Prop := NT h nd ∧ (m : Int) ≤ hI h 437 7
theorem NTm_fr {h g : XH} {nd : Nat → ND} {m : Nat} (T : HT h) (f : ∀ b, b < h.length → (b = 440 ∨ 468 ≤ b) → sameC h g b) (e : ∀ j, j = 6 ∨ j = 7 → el g 437 j = el h 437 j) (z : NTm h nd m) : NTm g nd m := by
  have L := HT_len T
  exact ⟨NT_fr (fun b x y => f b y (.inr x)) (f 440 (by omega) (.inl rfl)) (congrArg gvR (e 6 (.inl rfl))) (congrArg gvI (e 7 (.inr rfl))) z.1, by rw [show hI g 437 7 = hI h 437 7 from congrArg gvI (e 7 (.inr rfl))]; exact z.2⟩
theorem NTm_F {h g : XH} {nd : Nat → ND} {m : Nat} (T : HT h) (f : Fr (fun b => b < 437 ∨ b = 467) h g) (z : NTm h nd m) : NTm g nd m := by
  have L := HT_len T
  exact NTm_fr T (fun b x y => f b x (by omega)) (fun j _ => sameC_el (f 437 (by omega) (by omega)) j) z
theorem NTm_5 {h g : XH} {nd : Nat → ND} {m : Nat} {x : Int} (T : HT h) (e : g = sI h 437 5 x) (z : NTm h nd m) : NTm g nd m :=
  NTm_fr T (fun b _ y => by rw [e]; exact sameC_sV (by omega)) (fun j hj => by rw [e]; exact el_ni (by omega)) z
theorem NTm_rec {h g : XH} {nd : Nat → ND} {m : Nat} {q u : Int} (T : HT h) (r : Rrec q u h g) (z : NTm h nd m) : NTm g nd m :=
  NTm_fr T (fun b x y => r.1 b x (by omega)) (fun j hj => r.2.2.2.2.2.1 j (by omega) (by omega) (by omega)) z
theorem NTm_8 {h g : XH} {nd : Nat → ND} {m : Nat} (T : HT h) (f : Fr (fun b => b = 438) h g) (z : NTm h nd m) : NTm g nd m := by
  have L := HT_len T
  exact NTm_fr T (fun b x y => f b x (by omega)) (fun j hj => sameC_el (f 437 (by omega) (by omega)) j) z
theorem NTm_of {h : XH} {nd : Nat → ND} {o u : Int} (R : Core h nd o u) : NTm h nd (hI h 437 7).toNat := ⟨R.2.2.1, by have := R.2.2.1.1; omega⟩
/-- needs are well formed -/
def DK (nd : Nat → ND) (m : Nat) : Prop := ∀ i : Nat, i < m → ndOK (nd i)
theorem DK_of {h : XH} {nd : Nat → ND} {m : Nat} (z : NTm h nd m) : DK nd m := fun i hi => (z.1.2.2.2.2.2.2.2 i (by have := z.2; omega)).2.2.1
theorem AtomR_nz {h : XH} {d : ND} {a : Nat} (T : HT h) (z : AtomR h a d) (ok : ndOK d) : ¬ a = 0 := by
  intro e
  subst e
  unfold AtomR at z
  cases y : d.2 with
  | nil => exact ok.2.1 y
  | cons q l =>
    rw [y] at z
    exact noTxt T (by decide) (.inl z.1)
theorem SpanR_nz {h : XH} {d : ND} {a : Nat} (T : HT h) (z : SpanR h a d) : ¬ a = 0 := by
  intro e
  subst e
  unfold SpanR nrm at z
  cases y : (d.2.headD (0, [])).2 with
  | nil => rw [y] at z; exact noTxt T (by decide) (.inr z.1)
  | cons q l => rw [y] at z; exact noTxt T (by decide) (.inr z.1)
