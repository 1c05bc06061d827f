/-! FAILS, PROVIDE -/
abbrev LDb (h : XH) (wR : XH → (Int → XH → Prop) → Prop) (K : Int → XH → Prop) (J : XH → Prop) : Int → XH → Prop := fun x h2 => HT h2 → HX h h2 → rg x → (wR h2 (fun y h3 => HT h3 → HX h2 h3 → rg y → (y = 0 ∨ y = 1) → (w_X14_thrown (fun z => rg z → (((z = x → (∃ J' : Prop, (J' → (J h3)) ∧ ((¬ x = 0 → J') ∧ (¬ (¬ x = 0) → (∃ JB : BitVec 64 → Prop, (∀ (b : BitVec 64), JB b → (((hL h3 467 0 = b → J') ∧ (¬ (hL h3 467 0 = b) → (K 0 h3))))) ∧ ((y = 0 → (JB (0#64))) ∧ (¬ (y = 0) → (JB (1#64))))))))) ∧ (¬ (z = x) → (K 0 h3))))) h3)))
theorem dsetB {S : Nat → Prop} {N' : Nat → Int} {h : XH} {nd : Nat → ND} {o u e x : Int} {c n1 s1 : Nat} {wL : (Int → XH → Prop) → Prop} {wR : XH → (Int → XH → Prop) → Prop} (T : HT h) (R : Inv h nd o u c) (hc : c < 1000) (hs : ∀ b, S b → 8 ≤ b ∧ b < 43)
    (W' : e = 0 → WF N' (hI h 437 7).toNat) (B' : e = 0 → BdN (nw h) c → BdN N' (c + 1))
    (A : ∀ Q : Int → XH → Prop, (∀ n, e = n → ¬ n = 0 → Q n (nT h)) → (e = 0 → ∀ h2 h4 h5, Rmb o u h h2 → HT h2 → Fr S h2 h4 → h4.length = h2.length → xhs h4 = xhs h2 → HT h4 → CS h4 8 N' nd → h5 = sL h4 467 0 (i2l x) → Q 0 h5) → wL Q)
    (B : ∀ g, HT g → Fr (fun b => b < 437 ∨ b = 467) h g → hI g 437 3 = (o + u) % 10 → hI g 437 2 = u → nw g = nw h → ∀ Q : Int → XH → Prop, (∀ n, e = n → ¬ n = 0 → ∀ g1 g2, HT g1 → g1 = sI g 437 5 0 → g2 = sI g1 437 5 n → Q 0 g2) → (e = 0 → ∀ g1 g5 g7, HT g1 → g1 = sI g 437 5 0 → Rrec ((o + u) % 10) u g1 g5 → HT g5 → Fr (fun b => b = 438) g5 g7 → Gr n1 s1 g5 g7 → nw g7 = N' → Q x g7) → wR g Q)
    {K : Int → XH → Prop} {J : XH → Prop} (k : ∀ h' o' u', HT h' → Inv h' nd o' u' (c + 1) → Gr (1 + n1) (xcs none + s1) h h' → J h') : wL (LDb h wR K J) := by
  have L := HT_len T
  obtain ⟨b0, p1, p2, p3, p4, p5⟩ := id R.1.2.2.2.1
  have Bs := bs_lt (k := ((o + u) % 10).toNat) (by omega)
  refine A _ (fun n en nz => ?_) (fun ez h2 h4 h5 r T2 F4 l4 x4 T4 C4 e5 => ?_)
  · intro t1 u1 rx
    have s := nT_s h (b := 437) (by omega)
    refine B (nT h) t1 (fun b hb _ => nT_s h hb) (by rw [sameC_I s]; exact p4) (by rw [sameC_I s]; exact p3) (nw_fr (nT_s h (by omega))) _ (fun n' en' nz' g1 g2 tg e1 e2 => ?_) (fun ez => (nz (en.symm.trans ez)).elim)
    intro t2 u2 ry vy
    obtain rfl : n = n' := en.symm.trans en'
    obtain ⟨q1, q2, q3⟩ := bad_ T t1 R tg rx e1 e2
    exact finB_ q2 (fun z => (nz z).elim) vy (k g2 o u t2 (Inv_mono (Nat.le_succ c) q1) (Gr_mono q3 (by omega) (by omega)))
  · intro t1 u1 rx
    have rl := r.2.1
    have s37 : sameC h2 h4 437 := F4 437 (by omega) (fun y => by have := hs _ y; omega)
    have s : ∀ j, el h5 437 j = el h 437 j := fun j => by
      rw [e5, el_ne (by decide), sameC_el s37, sameC_el (r.1 437 (by omega) (by omega))]
    have n5 : nw h5 = nw h := nw_fr (sameC_tr (sameC_tr (r.1 438 (by omega) (by omega)) (F4 438 (by omega) (fun y => by have := hs _ y; omega))) (by rw [e5]; exact sameC_sV (by decide)))
    have fg : Fr (fun b => b < 437 ∨ b = 467) h h5 := fun b hb n => sameC_tr (sameC_tr (r.1 b hb (fun y => n (by omega))) (F4 b (by omega) (fun y => by have := hs _ y; omega))) (by rw [e5]; exact sameC_sV (fun z => n (.inr z.symm)))
    refine B h5 t1 fg ((congrArg gvI (s 3)).trans p4) ((congrArg gvI (s 2)).trans p3) n5 _ (fun n' en' nz' => (nz' (en'.symm.trans ez)).elim) (fun _ g1 g5 g7 tg e1 r3 T5 F7 G7 en => ?_)
    intro t2 u2 ry vy
    obtain ⟨G, H, X, N5, Kc, Z, Y⟩ := j_set T R.1 r F4 hs l4 T4 e5 t1 e1 r3 T5 F7
    have ql := r3.2.1
    have l1 : g1.length = h4.length := by rw [e1, len_sV, e5, len_sV]
    have F47 : Fr (fun b => b = 467 ∨ b = 437 ∨ b = 439 ∨ b = 438) h4 g7 := fun b hb n => by
      have f5 : sameC h4 h5 b := by rw [e5]; exact sameC_sV (fun z => n (.inl z.symm))
      have f1 : sameC h5 g1 b := by rw [e1]; exact sameC_sV (fun z => n (.inr (.inl z.symm)))
      exact sameC_tr (sameC_tr (sameC_tr f5 f1) (r3.1 b (by omega) (fun y => n (by omega)))) (F7 b (by omega) (fun y => n (by omega)))
    have wb := WF_b (W' ez)
    have nC : CS g7 8 (nw g7) nd := by
      rw [en]
      exact CS_fr (fun j hj => H (8 + j) (by omega) (by omega)) (txt_fr T4 F47 (fun b y => by omega)) wb C4
    obtain ⟨o', u', K'⟩ := Kc nC (by rw [en]; exact W' ez)
    refine finB_ Z (fun _ => Y) vy (k g7 o' u' t2 (Inv_set T R hc r F4 hs l4 e5 e1 r3 F7 K' (fun _ b => by rw [en]; exact B' ez b)) ?_)
    have y1 := r.2.2.1
    have y2 := r3.2.2.1
    rw [e1, xhs_sV, e5, xhs_sV] at y2
    exact ⟨by have := G7.1; omega, by have := G7.2; omega⟩
theorem VQ_upd {N : Nat → Int} {v k : Nat} {x : Int} (hv : v < 40) (hk : 3 ≤ k ∧ k < 20) : VQ N (updN N (5 + 20 * v + k) x) :=
  ⟨updN_ne (by omega), updN_ne (by omega), fun w _ => ⟨updN_ne (by omega), updN_ne (by omega), updN_ne (by omega)⟩, fun i hi => updN_ne (by omega)⟩
theorem VQ_tr {N M L : Nat → Int} (a : VQ N M) (b : VQ M L) : VQ N L := by
  refine ⟨b.1.trans a.1, b.2.1.trans a.2.1, fun v hv => ?_, fun i hi => (b.2.2.2 i hi).trans (a.2.2.2 i hi)⟩
  have x := a.2.2.1 v hv
  have y := b.2.2.1 v (by rw [VQ_c a]; exact hv)
  exact ⟨y.1.trans x.1, y.2.1.trans x.2.1, y.2.2.trans x.2.2⟩
def WV1 (N : Nat → Int) (m v : Nat) : Prop := 0 ≤ nV N v 0 ∧ nV N v 0 < N 0 ∧ 0 ≤ nV N v 1 ∧ nV N v 1 < 1000000 ∧ ¬ nV N v 1 % 100 = 0 ∧ 0 ≤ nV N v 2 ∧ 0 ≤ nV N v 3 ∧ nV N v 3 ≤ 1000 ∧ (nV N v 5 = 0 ∨ nV N v 5 = 1) ∧
    0 ≤ nV N v 6 ∧ nV N v 6 ≤ m ∧ 0 ≤ nV N v 7 ∧ nV N v 7 ≤ 3 ∧ (∀ k : Nat, k < 3 → (k : Int) < nV N v 7 → 0 ≤ nV N v (8 + k) ∧ nV N v (8 + k) < m) ∧ 0 ≤ nV N v 11 ∧ (nV N v 11 < 8 ∧ ∀ k : Nat, nV N v 7 ≤ k → (nV N v 11).toNat.testBit k = false) ∧
    0 ≤ nV N v 12 ∧ nV N v 12 ≤ 2 ∧ (∀ k : Nat, k < 2 → (k : Int) < nV N v 12 → 0 ≤ nV N v (13 + k) ∧ nV N v (13 + k) < m) ∧
    0 ≤ nV N v 15 ∧ nV N v 15 ≤ 2 ∧ (∀ k : Nat, k < 2 → (k : Int) < nV N v 15 → 0 ≤ nV N v (16 + 2 * k) ∧ nV N v (16 + 2 * k) < N 0 ∧ ¬ nV N v (16 + 2 * k) = nV N v 0 ∧ 0 ≤ nV N v (17 + 2 * k) ∧ nV N v (17 + 2 * k) < 1000000)
theorem WV1_cg {N M : Nat → Int} {m n v : Nat} (l : m ≤ n) (e0 : M 0 = N 0) (e : ∀ k, k < 20 → nV M v k = nV N v k) (z : WV1 N m v) : WV1 M n v := by
  obtain ⟨c1, c2, c3, c4, c5, c6, c7, c8, c9, c10, c11, c12, c13, c14, c15, c16, c17, c18, c19, c20, c21, c22⟩ := z
  unfold WV1
  rw [e0, e 0 (by decide), e 1 (by decide), e 2 (by decide), e 3 (by decide), e 5 (by decide), e 6 (by decide), e 7 (by decide), e 11 (by decide), e 12 (by decide), e 15 (by decide)]
  refine ⟨c1, c2, c3, c4, c5, c6, c7, c8, c9, c10, by omega, c12, c13, fun k h3 hk => ?_, c15, c16, c17, c18, fun k h2 hk => ?_, c20, c21, fun k h2 hk => ?_⟩
  · rw [e (8 + k) (by omega)]; have := c14 k h3 hk; omega
  · rw [e (13 + k) (by omega)]; have := c19 k h2 hk; omega
  · rw [e (16 + 2 * k) (by omega), e (17 + 2 * k) (by omega)]; exact c22 k h2 hk
theorem WV_1 {N M : Nat → Int} {m n v : Nat} (W : WV N m) (Q : VQ N M) (l : m ≤ n) (o : ∀ w, ¬ w = v → ∀ k, k < 20 → nV M w k = nV N w k) (hv : v < vc N) (z : WV1 M n v) : WV M n := by
  obtain ⟨b1, b2, b3, b4, b5, b6, b7⟩ := W
  unfold WV
  rw [VQ_c Q, Q.2.1]
  have e0 := Q.1
  refine ⟨by omega, by omega, b3, b4, fun w hw => ?_, fun w hw h4 k hk => by rw [o w (by omega) k hk]; exact b6 w hw h4 k hk, fun w w2 hw hw2 e1 e2 => ?_⟩
  · by_cases c : w = v
    · subst c; exact z
    · exact WV1_cg l e0 (o w c) (b5 w hw)
  · rw [(Q.2.2.1 w hw).1, (Q.2.2.1 w2 hw2).1] at e1
    rw [(Q.2.2.1 w hw).2.1, (Q.2.2.1 w2 hw2).2.1] at e2
    exact b7 w w2 hw hw2 e1 e2
theorem nV_upd {N : Nat → Int} {v w k j : Nat} {x : Int} (hj : j < 20) (hk : k < 20) : nV (updN N (5 + 20 * v + k) x) w j = if w = v ∧ j = k then x else nV N w j := by
  unfold nV updN
  by_cases c : w = v ∧ j = k
  · rw [if_pos c, if_pos (by omega)]
  · rw [if_neg c, if_neg (by omega)]
theorem nV_one {N : Nat → Int} {v k j : Nat} {x : Int} (hj : j < 20) (hk : k < 20) (n : ¬ j = k) : nV (updN N (5 + 20 * v + k) x) v j = nV N v j := by rw [nV_upd hj hk, if_neg (by omega)]
theorem nV_oth {N : Nat → Int} {v w k j : Nat} {x : Int} (hj : j < 20) (hk : k < 20) (n : ¬ w = v) : nV (updN N (5 + 20 * v + k) x) w j = nV N w j := by rw [nV_upd hj hk, if_neg (by omega)]
theorem nV_new {N : Nat → Int} {v k : Nat} {x : Int} (hk : k < 20) : nV (updN N (5 + 20 * v + k) x) v k = x := by rw [nV_upd hk hk, if_pos ⟨rfl, rfl⟩]
theorem WF_fail {N : Nat → Int} {m v : Nat} {x : Int} (W : WF N m) (hv : v < vc N) (hx : x = 0 ∨ x = 1) : WF (updN N (5 + 20 * v + 5) x) m ∧ VQ N (updN N (5 + 20 * v + 5) x) := by
  have v40 : v < 40 := by have := (WF_b W).2.2.2; unfold vc at hv; omega
  have Q : VQ N (updN N (5 + 20 * v + 5) x) := VQ_upd v40 (by omega)
  refine ⟨⟨WV_1 W.1 Q (Nat.le_refl _) (fun w n k hk => nV_oth hk (by decide) n) hv ?_, fun r hr => WRt_vq Q (W.2.1 r hr), WT_vq Q W.2.2⟩, Q⟩
  obtain ⟨c1, c2, c3, c4, c5, c6, c7, c8, c9, c10, c11, c12, c13, c14, c15, c16, c17, c18, c19, c20, c21, c22⟩ := W.1.2.2.2.2.1 v hv
  have e : ∀ k, k < 20 → ¬ k = 5 → nV (updN N (5 + 20 * v + 5) x) v k = nV N v k := fun k hk n => nV_one hk (by decide) n
  unfold WV1
  rw [Q.1, e 0 (by decide) (by decide), e 1 (by decide) (by decide), e 2 (by decide) (by decide), e 3 (by decide) (by decide), nV_new (by decide), e 6 (by decide) (by decide), e 7 (by decide) (by decide), e 11 (by decide) (by decide), e 12 (by decide) (by decide), e 15 (by decide) (by decide)]
  refine ⟨c1, c2, c3, c4, c5, c6, c7, c8, hx, c10, c11, c12, c13, fun k h3 hk => ?_, c15, c16, c17, c18, fun k h2 hk => ?_, c20, c21, fun k h2 hk => ?_⟩
  · rw [e (8 + k) (by omega) (by omega)]; exact c14 k h3 hk
  · rw [e (13 + k) (by omega) (by omega)]; exact c19 k h2 hk
  · rw [e (16 + 2 * k) (by omega) (by omega), e (17 + 2 * k) (by omega) (by omega)]; exact c22 k h2 hk
theorem CS_fail {h g : XH} {N : Nat → Int} {nd : Nat → ND} {m v : Nat} {x : Int} {b : BitVec 64} (T : HT h) (C : CS h 8 N nd) (W : WF N m) (hv : v < vc N) (hx : x = 0 ∨ x = 1) (hb : ∀ w, w < 40 → (b.getLsbD w = true ↔ (if w = v then x = 1 else (hL h 9 10).getLsbD w = true))) (e : g = sL h 9 10 b) : CS g 8 (updN N (5 + 20 * v + 5) x) nd ∧ WF (updN N (5 + 20 * v + 5) x) m := by
  obtain ⟨w1, Q⟩ := WF_fail W hv hx
  have v40 : v < 40 := by have := (WF_b W).2.2.2; unfold vc at hv; omega
  have s : ∀ c, ¬ c = 9 → sameC h g c := fun c n => by rw [e]; exact sameC_sV (fun z => n z.symm)
  have X : ∀ a, hk h a = 1 ∨ hk h a = 11 → sameC h g a := fun a ha => by rw [e]; exact st_X T (by omega) a ha
  have sb : hL g 9 10 = b := by rw [e]; exact hL_eq (hn_obj T (c := 9) (lyk (n := 20) T rfl) rfl rfl)
  refine CS_ver (v := v) C W Q (fun c _ _ n => s c (by omega)) X ⟨by rw [e, hI_ni (by decide)], by rw [e, hI_ni (by decide)]⟩ (fun w hw n => ?_) (fun _ => ?_) w1.1
  · have w40 : w < 40 := by have := (WF_b W).2.2.2; unfold vc at hw; omega
    refine CSV1_cg X (fun k hk => nV_oth hk (by decide) n) (fun c x y => sameC_I (s c (by omega)) w) (sameC_R (s 26 (by decide)) w) ?_ (fun k _ => ⟨sameC_R (s 19 (by decide)) _, sameC_I (s 20 (by decide)) _⟩) (sameC_I (s 21 (by decide)) w) (fun k _ => ⟨sameC_R (s 22 (by decide)) _, sameC_I (s 24 (by decide)) _, sameC_I (s 25 (by decide)) _⟩) (sameC_I (s 23 (by decide)) w) (CSV_1 C.1 hw)
    rw [sb]
    have := hb w w40
    rw [if_neg n] at this
    by_cases y : (hL h 9 10).getLsbD w = true
    · rw [y]; exact this.mpr y
    · rw [bt y]; exact bt (fun z => y (this.mp z))
  · obtain ⟨a1, a2, a3, a4, a5, a6, a7, a8, a9, a10, a11, a12, a13⟩ := CSV_1 C.1 hv
    have e : ∀ k, k < 20 → ¬ k = 5 → nV (updN N (5 + 20 * v + 5) x) v k = nV N v k := fun k hk n => nV_one hk (by decide) n
    have i : ∀ c, ¬ c = 9 → ∀ j, hI g c j = hI h c j := fun c n j => sameC_I (s c n) j
    have r : ∀ c, ¬ c = 9 → ∀ j, hR g c j = hR h c j := fun c n j => sameC_R (s c n) j
    unfold CSV1
    rw [e 0 (by decide) (by decide), e 1 (by decide) (by decide), e 2 (by decide) (by decide), e 3 (by decide) (by decide), e 4 (by decide) (by decide), nV_new (by decide), e 6 (by decide) (by decide), e 7 (by decide) (by decide), e 11 (by decide) (by decide), e 12 (by decide) (by decide), e 15 (by decide) (by decide)]
    refine ⟨(i 13 (by decide) v).trans a1, (i 14 (by decide) v).trans a2, (i 15 (by decide) v).trans a3, (i 16 (by decide) v).trans a4, (i 17 (by decide) v).trans a5, ?_, ?_, (i 18 (by decide) v).trans a8, fun k h3 hk => ?_, (i 21 (by decide) v).trans a10, fun k h2 hk => ?_, (i 23 (by decide) v).trans a12, fun k h2 hk => ?_⟩
    · show (hL g 9 10).getLsbD v = true ↔ _
      rw [sb, hb v v40, if_pos rfl]
    · show _ ∧ hR g 26 v = 0 ∨ _ ∧ AtomR g (hR g 26 v) _
      rw [r 26 (by decide)]
      exact a7.imp_right fun y => ⟨y.1, AtomR_fr X y.2⟩
    · rw [e (8 + k) (by omega) (by omega)]
      show AtomR g (hR g 19 _) _ ∧ hI g 20 _ = _
      rw [r 19 (by decide), i 20 (by decide)]
      exact ⟨AtomR_fr X (a9 k h3 hk).1, (a9 k h3 hk).2⟩
    · rw [e (13 + k) (by omega) (by omega)]
      show AtomR g (hR g 22 _) _
      rw [r 22 (by decide)]
      exact AtomR_fr X (a11 k h2 hk)
    · rw [e (16 + 2 * k) (by omega) (by omega), e (17 + 2 * k) (by omega) (by omega)]
      exact ⟨(i 24 (by decide) _).trans (a13 k h2 hk).1, (i 25 (by decide) _).trans (a13 k h2 hk).2⟩
set_option maxHeartbeats 1000000 in
theorem c_X12_fails {p0 p1 p2 : Int} {h : XH} {N : Nat → Int} {nd : Nat → ND} {m : Nat} {o u : Int} (T : HT h) (C : CS h 8 N nd) (W : WF N m) (B0 : 0 ≤ o ∧ o < 10 ∧ 0 ≤ u ∧ u ≤ 10) (Bo : hI h 2 9 = o) (Bu : hI h 2 10 = u) (Bs : hI h 43 2 = 10) {K : Int → XH → Prop} {E : Nat → XH → Prop} (k0 : ¬ ((0 ≤ p0 ∧ p0 < N 0) ∧ ¬ slotF N p0 p1 = -1) → E 2 (nT h)) (k : ((0 ≤ p0 ∧ p0 < N 0) ∧ ¬ slotF N p0 p1 = -1) → ∀ h2 h4, Rmb o u h h2 → HT h2 → Fr (fun b => b = 9) h2 h4 → h4.length = h2.length → xhs h4 = xhs h2 → CS h4 8 (updN N (5 + 20 * (slotF N p0 p1).toNat + 5) (if p2 = 0 then 0 else 1)) nd → K (if nV N (slotF N p0 p1).toNat 5 = 1 then 1 else 0) h4) : w_X12_fails p0 p1 p2 K E h := by
  unfold w_X12_fails
  refine c_X12_checkedId T C W k0 (fun q => ?_)
  intro _
  have sv := slot_v W.1 q.2
  have sr := slotF_r (N := N) (p := p0) (c := p1) W.1.2.2.1
  refine c_X12_remember B0 T Bo Bu Bs ?_
  intro h2 qh2
  intro t2 u2
  have C2' := Rmb_CS T qh2 B0 W C
  refine c_X12_has (by omega) ?_
  intro x3 qx3
  intro rx3 vx3
  have e3 : x3 = (if nV N (slotF N p0 p1).toNat 5 = 1 then 1 else 0) := by
    have := (CSV_1 C2'.1 sv.1).2.2.2.2.2.1
    by_cases y : nV N (slotF N p0 p1).toNat 5 = 1
    · rw [if_pos y]; exact (bq1 qx3).1.mpr (this.mpr y)
    · rw [if_neg y]; exact (bq1 qx3).2.1.mpr (fun z => y (this.mp z))
  rw [e3]
  intro b4 eb4
  have lb : lshl 1#64 (slotF N p0 p1) = bit1 (slotF N p0 p1).toNat := by
    have := lshl1 (n := (slotF N p0 p1).toNat) (by omega)
    rw [show (((slotF N p0 p1).toNat : Nat) : Int) = slotF N p0 p1 by omega] at this
    exact this
  rw [lb] at eb4
  have b4b : ∀ w, w < 40 → b4.getLsbD w = ((hL h2 9 10).getLsbD w && !decide (w = (slotF N p0 p1).toNat)) := fun w hw => by
    have ones : (18446744073709551615#64).getLsbD w = true := by
      have : ∀ m : Fin 64, (18446744073709551615#64 : BitVec 64).getLsbD m.1 = true := by decide +kernel
      exact this ⟨w, by omega⟩
    rw [eb4, BitVec.getLsbD_and, BitVec.getLsbD_xor, bit1_at (by omega), ones]
    cases decide (w = (slotF N p0 p1).toNat) <;> rfl
  refine ⟨_, fun b5 z6 => z6, ?_⟩
  refine ⟨fun c8 => ?_, fun c8 => ?_⟩
  · intro h7 eh7 t7 u7
    obtain ⟨c1, c2⟩ := CS_fail (g := h7) (x := if p2 = 0 then 0 else 1) t2 C2' W sv.1 (by rw [if_pos c8]; exact .inl rfl) (fun w hw => by
      rw [b4b w hw, if_pos c8]
      by_cases y : w = (slotF N p0 p1).toNat
      · rw [if_pos y, dt y]; simp
      · rw [if_neg y, df y]; simp) eh7
    exact k q _ _ qh2 t2 (by rw [eh7]; exact Fr_sV rfl) (by rw [eh7, len_sV]) (by rw [eh7, xhs_sV]) c1
  · intro h7 eh7 t7 u7
    rw [lb] at eh7
    obtain ⟨c1, c2⟩ := CS_fail (g := h7) (x := if p2 = 0 then 0 else 1) t2 C2' W sv.1 (by rw [if_neg c8]; exact .inr rfl) (fun w hw => by
      rw [BitVec.getLsbD_or, b4b w hw, if_neg c8, bit1_at (by omega)]
      by_cases y : w = (slotF N p0 p1).toNat
      · rw [if_pos y, dt y]; simp
      · rw [if_neg y, df y]; simp) eh7
    exact k q _ _ qh2 t2 (by rw [eh7]; exact Fr_sV rfl) (by rw [eh7, len_sV]) (by rw [eh7, xhs_sV]) c1
set_option maxHeartbeats 1000000 in
theorem c_L_fails {p0 p1 p2 : Int} {h : XH} {N : Nat → Int} {nd : Nat → ND} {m : Nat} {o u : Int} (T : HT h) (C : CS h 8 N nd) (W : WF N m) (B0 : 0 ≤ o ∧ o < 10 ∧ 0 ≤ u ∧ u ≤ 10) (Bo : hI h 2 9 = o) (Bu : hI h 2 10 = u) (Bs : hI h 43 2 = 10) {K : Int → XH → Prop} (k0 : ¬ ((0 ≤ p0 ∧ p0 < N 0) ∧ ¬ slotF N p0 p1 = -1) → K 1 (nT h)) (k : ((0 ≤ p0 ∧ p0 < N 0) ∧ ¬ slotF N p0 p1 = -1) → ∀ h2 h4 h5, Rmb o u h h2 → HT h2 → Fr (fun b => b = 9) h2 h4 → h4.length = h2.length → xhs h4 = xhs h2 → HT h4 → CS h4 8 (updN N (5 + 20 * (slotF N p0 p1).toNat + 5) (if p2 = 0 then 0 else 1)) nd → h5 = sL h4 467 0 (i2l (if nV N (slotF N p0 p1).toNat 5 = 1 then 1 else 0)) → K 0 h5) : w_L_fails p0 p1 p2 K h := by
  unfold w_L_fails
  refine c_X12_fails T C W B0 Bo Bu Bs (fun q => ⟨rfl, k0 q⟩) (fun q g2 g4 r t f l x c => ?_)
  intro tx ux _ vx
  refine ⟨_, fun b5 z6 => z6, ?_⟩
  refine ⟨fun c8 => ?_, fun c8 => ?_⟩
  · intro h7 eh7 t7 u7
    refine k q _ _ _ r t f l x tx c ?_
    rw [eh7]
    first
      | (rw [c8, i2l_0])
      | (have y : nV N (slotF N p0 p1).toNat 5 = 1 := Decidable.byContradiction (fun n => c8 (if_neg n))
         rw [if_pos y, i2l_1])
  · intro h7 eh7 t7 u7
    refine k q _ _ _ r t f l x tx c ?_
    rw [eh7]
    first
      | (rw [c8, i2l_0])
      | (have y : nV N (slotF N p0 p1).toNat 5 = 1 := Decidable.byContradiction (fun n => c8 (if_neg n))
         rw [if_pos y, i2l_1])
set_option maxHeartbeats 1000000 in
theorem c_X14_put {p0 p1 p2 : Int} (b : 0 ≤ p0 ∧ p0 < 40 ∧ 0 ≤ p1 ∧ p1 < 20) {K : XH → Prop} {h : XH} (k : ∀ h1, h1 = sI h 438 (5 + 20 * p0.toNat + p1.toNat) p2 → K h1) : w_X14_put p0 p1 p2 K h := by
  unfold w_X14_put
  have e : wr (wr (5 + wr (20 * p0)) + p1) = 5 + 20 * p0 + p1 := by
    simp (disch := omega) only [wr_of]
  rw [e]
  refine ⟨(by omega), ?_⟩
  intro h2 eh2 t2 u2
  rw [show (5 + 20 * p0 + p1).toNat = 5 + 20 * p0.toNat + p1.toNat by omega] at eh2
  exact k _ eh2
set_option maxHeartbeats 1000000 in
theorem c_X14_fails {p0 p1 p2 : Int} {h : XH} {N : Nat → Int} {m : Nat} {q u : Int} (T : HT h) (eN : N = nw h) (W : WF N m) (B1 : 0 ≤ q ∧ q < 10 ∧ 0 ≤ u ∧ u ≤ 10) (Rq : hI h 437 3 = q) (Ru : hI h 437 2 = u) {K : Int → XH → Prop} (k0 : ¬ ((0 ≤ p0 ∧ p0 < N 0) ∧ ¬ slotF N p0 p1 = -1) → ∀ h1 h2, HT h1 → h1 = sI h 437 5 0 → h2 = sI h1 437 5 1 → K 0 h2) (k : ((0 ≤ p0 ∧ p0 < N 0) ∧ ¬ slotF N p0 p1 = -1) → ∀ h1 h5 h7, HT h1 → h1 = sI h 437 5 0 → Rrec q u h1 h5 → HT h5 → Fr (fun b => b = 438) h5 h7 → Gr 0 (0) h5 h7 → nw h7 = updN N (5 + 20 * (slotF N p0 p1).toNat + 5) (if p2 = 0 then 0 else 1) → K (if nV N (slotF N p0 p1).toNat 5 = 1 then 1 else 0) h7) : w_X14_fails p0 p1 p2 K h := by
  unfold w_X14_fails
  intro h1 eh1 t1 u1
  have eN1 : N = nw h1 := eN.trans (nw_fr (by rw [eh1]; exact sameC_sV (by decide))).symm
  have Rq1 : hI h1 437 3 = q := by rw [eh1, hI_ni (by decide)]; exact Rq
  have Ru1 : hI h1 437 2 = u := by rw [eh1, hI_ni (by decide)]; exact Ru
  refine c_X14_isVersion t1 eN1 W ?_
  intro x2 qx2
  intro rx2 vx2
  refine c_X14_refused qx2 ?_
  intro x3 h4 qx3
  intro t4 u4
  intro rx3 vx3
  refine ⟨fun c16 => ?_, fun c16 => ?_⟩
  · obtain ⟨b_, e_⟩ : ((0 ≤ p0 ∧ p0 < N 0) ∧ ¬ slotF N p0 p1 = -1) ∧ h4 = h1 := by
      rcases qx3 with ⟨_, y, z⟩ | ⟨y, _⟩
      · exact ⟨y, z⟩
      · omega
    subst e_
    have sv := slot_v W.1 b_.2
    have sr := slotF_r (N := N) (p := p0) (c := p1) W.1.2.2.1
    refine c_X14_record B1 t4 Rq1 Ru1 ?_
    intro h5 qh5
    have eN5 : N = nw h5 := eN1.trans (nw_fr (qh5.1 438 (by have := HT_len t4; omega) (by decide))).symm
    intro t5 u5
    refine c_X14_slotF eN5 W.1 ?_
    intro _
    refine c_X14_ver (by omega) ?_
    intro x7 ex7
    have e7 : x7 = nV N (slotF N p0 p1).toNat 5 := by rw [ex7, eN5]; rfl
    intro rx7
    refine ⟨fun x => x = (if nV N (slotF N p0 p1).toNat 5 = 1 then 1 else 0), ?_, ?_⟩
    · intro x8 rx8 z9
      refine ⟨fun x => x = (if p2 = 0 then 0 else 1), ?_, ?_⟩
      · intro x10 rx10 z11
        refine c_X14_put (by omega) ?_
        intro h12 eh12
        rw [show (5 : Int).toNat = 5 from rfl] at eh12
        intro t12 u12
        refine ⟨(by rw [z9]; split; exact .inr rfl; exact .inl rfl), ?_⟩
        rw [z9]
        refine k b_ _ _ _ t4 eh1 qh5 t5 (by rw [eh12]; exact Fr_sV rfl) (by rw [eh12]; exact Gr_sV _ _ _ _) ?_
        rw [W_nw t5 (by omega) rx10 eh12 eN5.symm, z11]
      · refine ⟨fun c14 => ?_, fun c14 => ?_⟩
        · first
            | exact (if_pos c14).symm
            | exact (if_neg c14).symm
            | exact (if_neg (by rw [← e7]; exact c15)).symm
            | exact (if_pos (by omega)).symm
        · first
            | exact (if_pos c14).symm
            | exact (if_neg c14).symm
            | exact (if_neg (by rw [← e7]; exact c15)).symm
            | exact (if_pos (by omega)).symm
    · refine ⟨fun c15 => ?_, fun c15 => ?_⟩
      · first
          | exact (if_pos c14).symm
          | exact (if_neg c14).symm
          | exact (if_neg (by rw [← e7]; exact c15)).symm
          | exact (if_pos (by omega)).symm
      · first
          | exact (if_pos c14).symm
          | exact (if_neg c14).symm
          | exact (if_neg (by rw [← e7]; exact c15)).symm
          | exact (if_pos (by omega)).symm
  · have q_ : ¬ ((0 ≤ p0 ∧ p0 < N 0) ∧ ¬ slotF N p0 p1 = -1) ∧ h4 = sI h1 437 5 1 := by
      rcases qx3 with ⟨y, _⟩ | ⟨_, y, z⟩
      · omega
      · exact ⟨y, z⟩
    exact k0 q_.1 _ _ t1 eh1 q_.2
theorem d_fails {h : XH} {nd : Nat → ND} {o u p0 p1 p2 : Int} {c : Nat} (T : HT h) (R : Inv h nd o u c) (hc : c < 1000) {K : Int → XH → Prop} {J : XH → Prop} (k : ∀ h' o' u', HT h' → Inv h' nd o' u' (c + 1) → Gr (1 + 0) (xcs none + (0)) h h' → J h') : w_L_fails p0 p1 p2 (LDb h (fun g Q => w_X14_fails p0 p1 p2 Q g) K J) h := by
  have W := R.1.2.1
  have C := R.1.1
  have hr := rh_lt W
  obtain ⟨b0, p1', p2', p3', p4', p5'⟩ := id R.1.2.2.2.1
  refine dsetB (S := fun b => b = 9) (N' := updN (nw h) (5 + 20 * (slotF (nw h) p0 p1).toNat + 5) (if p2 = 0 then 0 else 1)) (e := if (0 ≤ p0 ∧ p0 < (nw h) 0) ∧ ¬ slotF (nw h) p0 p1 = -1 then 0 else 1) (x := if nV (nw h) (slotF (nw h) p0 p1).toNat 5 = 1 then 1 else 0) (wL := fun Q => w_L_fails p0 p1 p2 Q h) (wR := fun g Q => w_X14_fails p0 p1 p2 Q g) T R hc (fun b y => by have := rc_lt hr; omega) (fun ez => ?_) (fun ez b => ?_) (fun Q q0 q1 => ?_) (fun g Tg gF g3 g2 eg Q q0 q1 => ?_) k
  · have z := e1_0 (by decide) ez
    exact (WF_fail W (slot_v W.1 z.2).1 (by split; exact .inl rfl; exact .inr rfl)).1
  · have z := e1_0 (by decide) ez
    exact BdN_vq (WF_fail W (slot_v W.1 z.2).1 (by split; exact .inl rfl; exact .inr rfl)).2 W.1 (fun r hr => fOK_of (CS_i C hr)) b
  · exact c_L_fails T C W b0 p1' p2' R.1.2.2.2.2.1  (fun y => kA q0 (by decide) y) (fun y => kZ q1 y)
  · exact c_X14_fails Tg eg.symm W (by omega) g3 g2  (fun y => kA q0 (by decide) y) (fun y => kZ q1 y)
