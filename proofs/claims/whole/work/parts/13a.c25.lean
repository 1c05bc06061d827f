/-! VERSIONS, kept sorted by the reference -/
/-- what the reference may write to when it works something out -/
def RS (h : XH) (b : Nat) : Prop := b = 437 ∨ (442 ≤ b ∧ b < 467) ∨ (468 ≤ b ∧ ∃ j, owP j ∧ b = hR h 437 j)
/-- the reference works something out -/
def RSt (h h1 : XH) (nd : Nat → ND) (n s : Nat) : Prop := (CaR h (nw h) nd → CaR h1 (nw h) nd) ∧ Fr (RS h) h h1 ∧ (∀ j, 2 ≤ j ∧ j ≤ 11 → el h1 437 j = el h 437 j) ∧ Gr n s h h1 ∧ h.length ≤ h1.length ∧ ∀ j, owP j → hR h1 437 j = hR h 437 j
theorem RSt_s {h h1 : XH} {nd : Nat → ND} {n s : Nat} (r : RSt h h1 nd n s) {b : Nat} (hb : b < h.length) (x : b < 468) (y : ¬ b = 437) (z : ¬ (442 ≤ b ∧ b < 467)) : sameC h h1 b := r.2.1 b hb (fun q => by rcases q with q | q | ⟨q, -⟩ <;> omega)
theorem RSt_nw {h h1 : XH} {nd : Nat → ND} {n s : Nat} (T : HT h) (r : RSt h h1 nd n s) : nw h1 = nw h := nw_fr (RSt_s r (by have := HT_len T; omega) (by decide) (by decide) (by decide))
theorem RSt_rf (h : XH) (nd : Nat → ND) : RSt h h nd 0 0 := ⟨id, Fr_rf _ _, fun _ _ => rfl, Gr_rf h, Nat.le_refl _, fun _ _ => rfl⟩
theorem RSt_tr {h h1 h2 : XH} {nd : Nat → ND} {n s n2 s2 : Nat} (T : HT h) (l : h.length ≤ h1.length) (a : RSt h h1 nd n s) (b : RSt h1 h2 nd n2 s2) : RSt h h2 nd (n + n2) (s + s2) := by
  have e := RSt_nw T a
  refine ⟨fun z => ?_, fun c hc q => ?_, fun j hj => (b.2.2.1 j hj).trans (a.2.2.1 j hj), Gr_tr a.2.2.2.1 b.2.2.2.1, by have := b.2.2.2.2.1; omega, fun j hj => ?_⟩
  · have := b.1
    rw [e] at this
    exact this (a.1 z)
  · refine sameC_tr (a.2.1 c hc q) (b.2.1 c (by omega) (fun y => q ?_))
    rcases y with y | y | ⟨y, j, hj, ej⟩
    · exact .inl y
    · exact .inr (.inl y)
    · exact .inr (.inr ⟨y, j, hj, ej.trans (a.2.2.2.2.2 j hj)⟩)
  · exact (b.2.2.2.2.2 j hj).trans (a.2.2.2.2.2 j hj)
theorem RSt_mono {h h1 : XH} {nd : Nat → ND} {n s n2 s2 : Nat} (a : RSt h h1 nd n s) (l : n ≤ n2) (k : s ≤ s2) : RSt h h1 nd n2 s2 := ⟨a.1, a.2.1, a.2.2.1, Gr_mono a.2.2.2.1 l k, a.2.2.2.2⟩
theorem RSt_a {h h1 : XH} {nd : Nat → ND} {n s : Nat} (T : HT h) (f : Fr (fun _ => False) h h1) (g : Gr n s h h1) (l : h.length ≤ h1.length) : RSt h h1 nd n s := by
  have L := HT_len T
  exact ⟨fun z => CaR_fr (fun b _ y => f b y id) (fun j _ => sameC_el (f 437 (by omega) id) j) L z, Fr_mono f (fun _ z => z.elim), fun j _ => sameC_el (f 437 (by omega) id) j, g, l, fun j _ => (sameC_R (f 437 (by omega) id) j)⟩
theorem NeedR_fr3 {h h1 : XH} {q : Nat} {d : ND} (s0 : sameC h h1 q) (s1 : sameC h h1 (hR h q 1)) (s2 : sameC h h1 (hR h q 2)) (s3 : sameC h h1 (hR h q 3)) (z : NeedR h q d) : NeedR h1 q d := by
  obtain ⟨z1, z2, z3, z4, z5, z6, z7, bg, a1, a2, a3, a4, a5, a6, a7, a8, a9, a10⟩ := z
  unfold NeedR
  rw [sameC_k s0, sameC_I s0, sameC_R s0 1, sameC_R s0 2, sameC_R s0 3, sameC_k s1, sameC_n s1, sameC_k s2, sameC_n s2, sameC_k s3, sameC_n s3]
  refine ⟨z1, z2, z3, z4, z5, z6, z7, bg, a1, a2, a3, a4, a5, a6, a7, a8, fun i hi => by rw [sameC_I s2]; exact a9 i hi, fun i hi => ?_⟩
  obtain ⟨b1, b2, b3⟩ := a10 i hi
  refine ⟨by rw [sameC_I s1]; exact b1, b2, fun j hj => ?_⟩
  rw [sameC_I s3, sameC_I s3, sameC_I s3]
  exact b3 j hj
theorem RSt_NT {h h1 : XH} {nd : Nat → ND} (T : HT h) (st : StR h) (dj : DJo h) (f : Fr (RS h) h h1) (e6 : hR h1 437 6 = hR h 437 6) (e7 : hI h1 437 7 = hI h 437 7) (z : NT h nd) : NT h1 nd := by
  have L := HT_len T
  obtain ⟨z1, z2, z3, z4, z5, z6, z7, z8⟩ := z
  have K : ∀ b, b < h.length → ¬ b = 437 → ¬ (442 ≤ b ∧ b < 467) → (∀ j, owP j → ¬ b = hR h 437 j) → sameC h h1 b := fun b hb x y n => f b hb (fun q => by
    rcases q with q | q | ⟨-, j, hj, e⟩
    · exact x q
    · exact y q
    · exact n j hj e)
  have s : sameC h h1 (hR h 437 6) := K _ (hk_lt z3 (by decide)) (by omega) (by omega) (fun j hj e => by have := (own_j st hj).1; rw [← e, z3] at this; omega)
  unfold NT
  rw [e6, e7, sameC_k s, sameC_n s]
  refine ⟨z1, z2, z3, z4, z5, z6, z7, fun i hi => ?_⟩
  rw [sameC_R s]
  obtain ⟨d1, d2, d3⟩ := dj.2.2.1 i hi
  have Z := z8 i hi
  obtain ⟨y1, y2, y3, y4, y5, y6, y7, bg, a1, a2, a3, a4, a5, -⟩ := id Z
  refine NeedR_fr3 (K _ (hk_lt y1 (by decide)) (by omega) (by omega) (fun j hj e => by have := (own_j st hj).1; rw [← e, y1] at this; omega)) (K _ (hk_lt a1 (by decide)) (by omega) (by omega) (fun j hj e => d3 j 1 hj (by decide) (by decide) e)) (K _ (hk_lt a3 (by decide)) (by omega) (by omega) (fun j hj e => d3 j 2 hj (by decide) (by decide) e)) (K _ (hk_lt a5 (by decide)) (by omega) (by omega) (fun j hj e => d3 j 3 hj (by decide) (by decide) e)) Z
theorem RSt_X {h h1 : XH} (T : HT h) (st : StR h) (f : Fr (RS h) h h1) (a : Nat) (ha : hk h a = 1 ∨ hk h a = 11) : sameC h h1 a :=
  f a (by rcases ha with e | e <;> exact hk_lt e (by decide)) (fun q => by
    rcases q with q | q | ⟨-, j, hj, e⟩
    · exact noTxt T (by omega) ha
    · exact noTxt T (by omega) ha
    · have := (own_j st hj).1
      rw [← e] at this
      omega)
theorem RSt_Inv {h h1 : XH} {nd : Nat → ND} {o u : Int} {c n s : Nat} (T : HT h) (R : Inv h nd o u c) (r : RSt h h1 nd n s) : Inv h1 nd o u c := by
  obtain ⟨R1, R2, R3, R4⟩ := R
  have G : ∀ b, b < h.length → b < 468 → ¬ (b = 437 ∨ (442 ≤ b ∧ b < 467)) → sameC h h1 b := fun b hb x n => RSt_s r hb x (fun y => n (.inl y)) (fun y => n (.inr y))
  obtain ⟨r1, r2, r3, -, -, -⟩ := r
  have L := HT_len T
  have st := R4.2.1.1
  have X := RSt_X T st r2
  have en : nw h1 = nw h := nw_fr (G 438 (by omega) (by decide) (by decide))
  have ep : ∀ k, pst h1 k = pst h k := fun k => pst_fr (G 439 (by omega) (by decide) (by decide)) k
  have e7 : hI h1 437 7 = hI h 437 7 := congrArg gvI (r3 7 (by omega))
  obtain ⟨b1, b2, b3, b4, b5⟩ := R2
  obtain ⟨C, W, Nt, P, B, Tp⟩ := R1
  refine ⟨?_, ?_, ?_, by rw [en]; exact r1 R4⟩
  · unfold Core
    rw [en, e7]
    refine ⟨CS_fr (fun j hj => G (8 + j) (by omega) (by omega) (by omega)) X (WF_b W) C, W, RSt_NT T st R4.2.1.2 r2 (congrArg gvR (r3 6 (by omega))) e7 Nt, ?_, by rw [sameC_I (G 43 (by omega) (by omega) (by omega))]; exact B, TP_fr (G 3 (by omega) (by decide) (by decide)) (G 4 (by omega) (by decide) (by decide)) (G 441 (by omega) (by decide) (by decide)) (congrArg gvI (r3 9 (by decide))) (congrArg gvI (r3 10 (by decide))) Tp⟩
    obtain ⟨p0, p1, p2, p3, p4, p5⟩ := P
    have s2 := G 2 (by omega) (by decide) (by decide)
    refine ⟨p0, (sameC_I s2 9).trans p1, (sameC_I s2 10).trans p2, (congrArg gvI (r3 2 (by omega))).trans p3, (congrArg gvI (r3 3 (by omega))).trans p4, fun k hk => ?_⟩
    obtain ⟨y1, y2⟩ := p5 k hk
    have B2 := bs_lt (k := ((o + k) % 10).toNat) (by omega)
    rw [ep]
    exact ⟨CS_fr (fun j hj => G _ (by omega) (by omega) (by omega)) X (WF_b y2) y1, y2⟩
  · have i4 : hI h1 437 4 = hI h 437 4 := congrArg gvI (r3 4 (by omega))
    unfold Bd
    rw [i4, e7, en]
    exact ⟨b1, b2, b3, b4, fun k hk => by rw [ep]; exact b5 k hk⟩
  · rw [en]
    exact CaC_fr (fun b x y => G b (by omega) (by omega) (by omega)) (sameC_el (G 2 (by omega) (by decide) (by decide)) 11) R3
theorem Ask_r {h g1 g2 : XH} {nd : Nat → ND} {o u : Int} {c n s : Nat} (T : HT h) (R : Inv h nd o u c) (T1 : HT g1) (e1 : g1 = sI h 437 5 0) (r : RSt g1 g2 nd n s) : Ask h g2 nd o u c n s ∧ hI g2 437 5 = 0 ∧ hL g2 467 0 = hL h 467 0 := by
  have L := HT_len T
  have R1 : Inv g1 nd o u c := by rw [e1]; exact Inv_5 T R
  have n1 : nw g1 = nw h := by rw [e1]; exact nw_fr (sameC_sV (by decide))
  have l1 : g1.length = h.length := by rw [e1, len_sV]
  have x1 : xhs g1 = xhs h := by rw [e1, xhs_sV]
  have g := r.2.2.2.1
  refine ⟨⟨RSt_Inv T1 R1 r, (RSt_nw T1 r).trans n1, ⟨by have := g.1; omega, by have := g.2; omega⟩⟩, ?_, ?_⟩
  · rw [show hI g2 437 5 = hI g1 437 5 from congrArg gvI (r.2.2.1 5 (by decide))]
    exact h5_0 T (rgk rfl) e1
  · rw [sameC_L (RSt_s r (by omega) (by decide) (by decide) (by decide)), e1, hL_ne (by decide)]
theorem Ask_rn {h g1 g2 g3 : XH} {nd : Nat → ND} {o u x : Int} {c n s : Nat} (T : HT h) (R : Inv h nd o u c) (T1 : HT g1) (e1 : g1 = sI h 437 5 0) (r : RSt g1 g2 nd n s) (T2 : HT g2) (rx : rg x) (e3 : g3 = sI g2 437 5 x) : Ask h g3 nd o u c n s ∧ hI g3 437 5 = x := by
  obtain ⟨⟨a1, a2, a3⟩, -, -⟩ := Ask_r T R T1 e1 r
  refine ⟨⟨by rw [e3]; exact Inv_5 T2 a1, ?_, ?_⟩, h5_0 T2 rx e3⟩
  · rw [e3]; exact (nw_fr (sameC_sV (by decide))).trans a2
  · rw [e3]; exact ⟨by rw [len_sV]; exact a3.1, by rw [xhs_sV]; exact a3.2⟩
theorem CaR_sort {h h1 : XH} {N : Nat → Int} {nd : Nat → ND} (L : 468 ≤ h.length) (f : Fr (fun b => b = 437 ∨ b = 442) h h1) (e : ∀ j, ¬ j = 12 → el h1 437 j = el h 437 j) (e12 : hI h1 437 12 = hI h 437 4) (s : SortOK h1 N) (fr : ∀ p, p < 12 → h.length ≤ hR h1 442 p) (z : CaR h N nd) : CaR h1 N nd := by
  obtain ⟨a1, a2, a3, a4, a5, a6, a7, a8, cg⟩ := z
  have i : ∀ j, ¬ j = 12 → hI h1 437 j = hI h 437 j := fun j hj => congrArg gvI (e j hj)
  unfold CaR
  rw [e12, i 4 (by omega), i 30 (by omega), i 38 (by omega), i 40 (by omega), i 41 (by omega), i 44 (by omega), i 46 (by omega)]
  refine ⟨by omega, ⟨StR_fr (fun b x y => f b y (by omega)) (fun j hj => e j (by omega)) a2.1, ?_⟩, fun _ => s, fun x => TellOKR_fr a2.1 (fun b x y => f b y (by omega)) (fun j hj => e j (by omega)) (a4 x), fun x => OrdOK_fr (fun b x y => f b y (by omega)) (fun j hj => e j (by omega)) (a5 x), a6, fun x => ⟨(a7 x).1, CoreOKR_fr (fun b x y => f b y (by omega)) (e 45 (by omega)) (a7 x).2⟩, fun x => ⟨(a8 x).1, ProofOKR_fr (fun b x y => f b (by omega) (by omega)) (e 47 (by omega)) (a8 x).2⟩, CapG_fr a2.1 (fun b x y => f b y (by omega)) (fun j hj => e j (by omega)) (fun _ _ => rfl) cg⟩
  obtain ⟨z1, ⟨z2, z3⟩, z4, z5⟩ := a2.2
  have r : ∀ j, ¬ j = 12 → hR h1 437 j = hR h 437 j := fun j hj => congrArg gvR (e j hj)
  have nj : ∀ j, owP j → ¬ j = 12 := fun j hj y => by subst y; unfold owP at hj; omega
  have st : sameC h h1 (hR h 437 6) := f _ (hk_lt z2 (by decide)) (by omega)
  unfold DJo
  rw [r 6 (by decide), r 39 (by decide), r 45 (by decide), i 7 (by decide), sameC_k st]
  refine ⟨fun j k hj hk n => by rw [r j (nj j hj), r k (nj k hk)]; exact z1 j k hj hk n, ⟨z2, z3⟩, fun q hq => ?_, fun j hj => ?_⟩
  · rw [sameC_R st]
    obtain ⟨y1, y2, y3⟩ := z4 q hq
    have s1 : sameC h h1 (hR h (hR h 437 6) q) := f _ (hk_lt y1 (by decide)) (by omega)
    rw [sameC_k s1]
    exact ⟨y1, y2, fun j t hj a b => by rw [sameC_R s1, r j (nj j hj)]; exact y3 j t hj a b⟩
  · rw [r j (nj j hj)]
    obtain ⟨y1, y2, y3⟩ := z5 j hj
    have o := (own_j a2.1 hj).2.1
    exact ⟨fun p hp => by have := fr p hp; omega, y2, y3⟩
theorem VL_fr {N : Nat → Int} {p : Nat} {h h1 : XH} {a : Nat} (s : sameC h h1 a) (z : VL N p h a) : VL N p h1 a := ⟨(sameC_k s).trans z.1, z.2.1, (sameC_n s).trans z.2.2.1, fun i hi => (sameC_I s i).trans (z.2.2.2 i hi)⟩
theorem c_sort {p : Int} (hp : 0 ≤ p ∧ p < 12) {h : XH} {N : Nat → Int} {m : Nat} (T : HT h) (eN : N = nw h) (W : WF N m) (P8 : P8N N) {K : Nat → XH → Prop} (k : ∀ a h1, Fr (fun _ => False) h h1 → Gr 2 nA8 h h1 → h.length ≤ a → VL N p.toNat h1 a → K a h1) : w_X14_sort p K h := by
  obtain ⟨v, rfl⟩ : ∃ v : Nat, p = v := ⟨p.toNat, by omega⟩
  rw [Int.toNat_natCast] at k
  exact c_X14_sort (by omega) T eN W P8 k
set_option maxHeartbeats 1000000 in
theorem c_vs2 {p0 : Int} (hp : 0 ≤ p0 ∧ p0 < 12) {h : XH} {N : Nat → Int} {m : Nat} (T : HT h) (eN : N = nw h) (W : WF N m) {nd : Nat → ND} (P8 : P8N N) (CR : CaR h N nd) {K : Nat → XH → Prop} (k : ∀ a h1, RSt h h1 nd 24 (12 * nA8) → (hI h 437 12 = hI h 437 4 → h1 = h) → hI h1 437 12 = hI h1 437 4 → VL N p0.toNat h1 a → K a h1) : w_X14_versionsOf p0 K h := by
  unfold w_X14_versionsOf
  have L := HT_len T
  refine ⟨fun g => RSt h g nd 24 (12 * nA8) ∧ SortOK g N ∧ (hI h 437 12 = hI h 437 4 → g = h) ∧ hI g 437 12 = hI g 437 4, ?_, ?_⟩
  · intro h2 t2 s2 z3
    refine ⟨hp, ?_⟩
    obtain ⟨y1, y2, y3⟩ := z3.2.1 p0.toNat (by omega)
    exact k _ _ z3.1 z3.2.2.1 z3.2.2.2 ⟨y1.1, y1.2, y2, y3⟩
  · refine ⟨fun c16 => ?_, fun c16 => ?_⟩
    · exact ⟨RSt_mono (RSt_rf h nd) (by omega) (by omega), CR.2.2.1 c16, fun _ => rfl, c16⟩
    · intro h5 eh5 t5 u5
      have f5 : Fr (fun b => b = 437) h h5 := by rw [eh5]; exact Fr_sV rfl
      have l5 : h5.length = h.length := by rw [eh5, len_sV]
      have x5 : xhs h5 = xhs h := by rw [eh5, xhs_sV]
      have eN5 : N = nw h5 := eN.trans (nw_fr (f5 438 (by omega) (by decide))).symm
      refine ⟨fun v g => 0 ≤ v ∧ v ≤ 12 ∧ Fr (fun b => b = 442) h5 g ∧ h5.length ≤ g.length ∧ Gr (2 * v.toNat) (v.toNat * nA8) h5 g ∧ ∀ p : Nat, (p : Int) < v → VL N p g (hR g 442 p) ∧ h5.length ≤ hR g 442 p, fun v _ => (12 - v).toNat, ?_, ?_⟩
      · exact ⟨by omega, by omega, Fr_rf _ _, Nat.le_refl _, ⟨by simp, by simp⟩, fun p hp => by omega⟩
      · intro x6 h7 t7 s7 rx6 z8
        refine ⟨fun c15 => ?_, fun c15 => ?_⟩
        · obtain ⟨z0, z1, zf, zl, zg, zv⟩ := z8
          have e7 : ∀ j, ¬ j = 12 → el h7 437 j = el h 437 j := fun j n => by rw [sameC_el (zf 437 (by omega) (by decide)), eh5, el_ni (fun z => n z.symm)]
          have e12 : hI h7 437 12 = hI h 437 4 := by
            rw [sameC_I (zf 437 (by omega) (by decide)), eh5]
            exact hI_eq (by rw [(lstn T).2.2.2.2.1]; decide) (rgh _ _ _)
          have so : SortOK h7 N := fun p hp => by
            obtain ⟨⟨y1, y2, y3, y4⟩, -⟩ := zv p (by omega)
            exact ⟨⟨y1, y2⟩, y3, y4⟩
          have ff : Fr (fun b => b = 437 ∨ b = 442) h h7 := Fr_tr (Fr_mono f5 (fun _ z => .inl z)) (by omega) (Fr_mono zf (fun _ z => .inr z))
          refine ⟨⟨fun z => ?_, Fr_mono ff (fun b z => by unfold RS; omega), fun j hj => e7 j (by omega), ⟨by have := zg.1; omega, by have := zg.2; rw [show x6.toNat = 12 by omega] at this; omega⟩, by omega, fun j hj => (congrArg gvR (e7 j (by unfold owP at hj; omega)))⟩, so, fun z => absurd z c16, e12.trans (congrArg gvI (e7 4 (by decide))).symm⟩
          rw [← eN] at z ⊢
          exact CaR_sort L ff e7 e12 so (fun p hp => by have := (zv p (by omega)).2; omega) z
        · obtain ⟨z0, z1, zf, zl, zg, zv⟩ := z8
          have eN7 : N = nw h7 := eN5.trans (nw_fr (zf 438 (by omega) (by decide))).symm
          refine c_sort (by omega) t7 eN7 W P8 ?_
          intro a9 h10 f10 g10 l10 v10
          intro t10 u10
          refine ⟨(by omega), ?_⟩
          refine ⟨v10.1, ?_⟩
          intro h13 eh13 t13 u13
          intro x14 ex14 rx14
          have L7 := HT_len t7
          rw [wr_of (by omega) (by omega)] at ex14
          have l13 : h13.length = h10.length := by rw [eh13, len_sV]
          have x13 : xhs h13 = xhs h10 := by rw [eh13, xhs_sV]
          have n442 : hn h10 442 = 12 := lyn (c := 107) (n := 12) t10 rfl
          have s13 : ∀ b, ¬ b = 442 → sameC h10 h13 b := fun b n => by rw [eh13]; exact sameC_sV (fun z => n z.symm)
          refine ⟨⟨by omega, by omega, ?_, by have := u10.1; omega, ?_, fun p hp => ?_⟩, by dsimp only; omega⟩
          · exact Fr_tr zf zl (fun b hb n => sameC_tr (f10 b hb id) (s13 b n))
          · have e1 : x14.toNat = x6.toNat + 1 := by omega
            rw [e1, Nat.add_mul, Nat.one_mul]
            exact ⟨by have := zg.1; have := g10.1; omega, by have := zg.2; have := g10.2; omega⟩
          · by_cases c : (p : Int) = x6
            · have e : hR h13 442 p = a9 := by rw [eh13, show p = x6.toNat by omega]; exact hR_eq (by omega)
              rw [e, show p = x6.toNat by omega]
              exact ⟨VL_fr (s13 a9 (by omega)) v10, by omega⟩
            · have e : hR h13 442 p = hR h7 442 p := by rw [eh13, hR_ni (by omega)]; exact sameC_R (f10 442 (by omega) id) p
              have q := zv p (by omega)
              rw [e]
              exact ⟨VL_fr (sameC_tr (f10 _ (hk_lt q.1.1 (by decide)) id) (s13 _ (by have := q.1.2.1; omega))) q.1, q.2⟩
theorem c_X14_versionsOf {p0 : Int} (hp : 0 ≤ p0 ∧ p0 < 12) {h : XH} {N : Nat → Int} {m : Nat} (T : HT h) (eN : N = nw h) (W : WF N m) {nd : Nat → ND} (P8 : P8N N) (CR : CaR h N nd) {K : Nat → XH → Prop} (k : ∀ a h1, RSt h h1 nd 24 (12 * nA8) → VL N p0.toNat h1 a → K a h1) : w_X14_versionsOf p0 K h := c_vs2 hp T eN W P8 CR (fun a h1 r _ _ v => k a h1 r v)
theorem P8_of {h : XH} {nd : Nat → ND} {o u : Int} {c : Nat} (R : Inv h nd o u c) : P8N (nw h) := P8N_of R.1.2.1.1 R.1.1.2.1
theorem mkBr {P : Prop} [Decidable P] {g : XH} {nd : Nat → ND} {o u n x : Int} {c n2 s2 : Nat} {wR : (Int → XH → Prop) → Prop} (T : HT g) (R : Inv g nd o u c) (rn : rg n) (hn : ¬ n = 0) (b : ∀ Q : Int → XH → Prop, (¬ P → ∀ h1 h2 h3, HT h1 → h1 = sI g 437 5 0 → RSt h1 h2 nd n2 s2 → HT h2 → h3 = sI h2 437 5 n → Q 0 h3) → (P → ∀ h1 h2, HT h1 → h1 = sI g 437 5 0 → RSt h1 h2 nd n2 s2 → Q x h2) → wR Q) :
    ∀ Q : Int → XH → Prop, (∀ g2 y, Ask g g2 nd o u c n2 s2 → hI g2 437 5 = (if P then (0 : Int) else n) → ((if P then (0 : Int) else n) = 0 → y = x ∧ hL g2 467 0 = hL g 467 0) → Q y g2) → wR Q := by
  intro Q q
  refine b Q (fun y h1 h2 h3 t1 e1 r t2 e3 => ?_) (fun y h1 h2 t1 e1 r => ?_)
  · obtain ⟨z1, z2⟩ := Ask_rn T R t1 e1 r t2 rn e3
    have := q h3 0 z1
    rw [if_neg y] at this
    exact this z2 (fun z => (hn z).elim)
  · obtain ⟨z1, z2, z3⟩ := Ask_r T R t1 e1 r
    have := q h2 x z1
    rw [if_pos y] at this
    exact this z2 (fun _ => ⟨rfl, z3⟩)
set_option maxHeartbeats 1000000 in
theorem c_X12_versions {p0 : Int} {h : XH} {N : Nat → Int} {nd : Nat → ND} {m : Nat} (T : HT h) (C : CS h 8 N nd) (W : WF N m) {K : Int → Prop} {E : Nat → XH → Prop} (k0 : ¬ (0 ≤ p0 ∧ p0 < N 0) → E 2 (nT h)) (k : 0 ≤ p0 ∧ p0 < N 0 → K ((vsl N p0.toNat).length : Nat)) : w_X12_versions p0 K E h := by
  unfold w_X12_versions
  refine c_X12_checkPack (fun q => k0 (by rw [(V80 C.1).1] at q; exact q)) (fun q1 q2 => ?_)
  rw [(V80 C.1).1] at q2
  have b12 := W.1.2.1
  refine ⟨(by first | decide | omega | ((try simp (disch := omega) only [wr_of] at *); omega)), ?_⟩
  rw [(vsl_C W.1 C.2.1 (p := p0.toNat) (by unfold pc; omega)).1]
  exact k ⟨q1, q2⟩
set_option maxHeartbeats 1000000 in
theorem c_L_versions {p0 : Int} {h : XH} {N : Nat → Int} {nd : Nat → ND} {m : Nat} (T : HT h) (C : CS h 8 N nd) (W : WF N m)  {K : Int → XH → Prop} (k0 : ¬ (0 ≤ p0 ∧ p0 < N 0) → K 1 (nT h)) (k : 0 ≤ p0 ∧ p0 < N 0 → ∀ h6, h6 = sL h 467 0 (i2l (((vsl N p0.toNat).length : Nat))) → K 0 h6) : w_L_versions p0 K h := by
  unfold w_L_versions
  refine c_X12_versions T C W  (fun q => ⟨rfl, k0 q⟩) (fun q => ?_)
  intro _
  intro h4 eh4 t4 u4
  exact k q _ eh4
set_option maxHeartbeats 1000000 in
theorem c_X14_versions {p0 : Int} {h : XH} {N : Nat → Int} {m : Nat} {nd : Nat → ND} (T : HT h) (eN : N = nw h) (W : WF N m) (P8 : P8N N) (CR : CaR h N nd) {K : Int → XH → Prop} (k0 : ¬ (0 ≤ p0 ∧ p0 < N 0) → ∀ h1 h2 h3, HT h1 → h1 = sI h 437 5 0 → RSt h1 h2 nd 24 (12 * nA8) → HT h2 → h3 = sI h2 437 5 1 → K 0 h3) (k : (0 ≤ p0 ∧ p0 < N 0) → ∀ h1 h2, HT h1 → h1 = sI h 437 5 0 → RSt h1 h2 nd 24 (12 * nA8) → K (((vsl N p0.toNat).length : Nat)) h2) : w_X14_versions p0 K h := by
  unfold w_X14_versions
  intro h1 eh1 t1 u1
  have eN1 : N = nw h1 := eN.trans (nw_fr (by rw [eh1]; exact sameC_sV (by decide))).symm
  have CR1 : CaR h1 N nd := by rw [eh1]; exact CaR_fr (fun b x _ => sameC_sV (by omega)) (fun j hj => el_ni (by omega)) (HT_len T) CR
  refine c_X14_isPack ?_ (by rw [show hI h1 438 0 = N 0 by rw [eN1]; rfl]; exact W.1.1)
  intro x2 qx2
  rw [show hI h1 438 0 = N 0 by rw [eN1]; rfl] at qx2
  have b12 := W.1.2.1
  intro rx2 vx2
  refine c_X14_refused qx2 ?_
  intro x3 h4 qx3
  intro t4 u4
  intro rx3 vx3
  refine ⟨fun x g => (0 ≤ p0 ∧ p0 < N 0) ∧ x = ((vsl N p0.toNat).length : Nat) ∧ RSt h1 g nd 24 (12 * nA8) ∨ ¬ (0 ≤ p0 ∧ p0 < N 0) ∧ x = 0 ∧ g = sI h1 437 5 1, ?_, ?_⟩
  · intro x5 h6 t6 s6 rx5 z7
    rcases z7 with ⟨y1, y2, y3⟩ | ⟨y1, y2, y3⟩
    · rw [y2]; exact k y1 _ _ t1 eh1 y3
    · rw [y2]; exact k0 y1 _ _ _ t1 eh1 (RSt_mono (RSt_rf _ _) (by omega) (by omega)) t1 y3
  · refine ⟨fun c12 => ?_, fun c12 => ?_⟩
    · obtain ⟨b_, e_⟩ : (0 ≤ p0 ∧ p0 < N 0) ∧ h4 = h1 := by
        rcases qx3 with ⟨_, y, z⟩ | ⟨y, _⟩
        · exact ⟨y, z⟩
        · omega
      subst e_
      refine c_X14_versionsOf (by omega) t4 eN1 W P8 CR1 ?_
      intro a8 h9 r9 v9
      intro t9 u9
      refine ⟨v9.1, ?_⟩
      refine ⟨(by have := v9.2.2.1; have := P8 p0.toNat (by omega); omega), ?_⟩
      exact .inl ⟨b_, by rw [v9.2.2.1], r9⟩
    · have q_ : ¬ (0 ≤ p0 ∧ p0 < N 0) ∧ h4 = sI h1 437 5 1 := by
        rcases qx3 with ⟨y, _⟩ | ⟨_, y, z⟩
        · omega
        · exact ⟨y, z⟩
      exact .inr ⟨q_.1, rfl, q_.2⟩
theorem d_versions {h : XH} {nd : Nat → ND} {o u p0 : Int} {c : Nat} (T : HT h) (R : Inv h nd o u c) {K : Int → XH → Prop} {J : XH → Prop} (k : ∀ h' o' u', HT h' → Inv h' nd o' u' (c + 1) → Gr (1 + 24) (xcs none + (12 * nA8)) h h' → J h') : w_L_versions p0 (LDw h (fun g Q => w_X14_versions p0 Q g) K J) h :=
  dask (wL := fun Q => w_L_versions p0 Q h) (wR := fun g Q => w_X14_versions p0 Q g) (mkA T R (by decide) (fun Q k0 k => c_L_versions T R.1.1 R.1.2.1  k0 k)) (fun g Tg Rg eg => mkBr Tg Rg (rgk rfl) (by decide) (fun Q k0 k => c_X14_versions Tg eg.symm R.1.2.1 (P8_of R) (by have := Rg.2.2.2; rw [eg] at this; exact this)  k0 k)) k
set_option maxHeartbeats 1000000 in
theorem c_X8_idAt {p0 p1 : Int} {h : XH} {N : Nat → Int} {nd : Nat → ND} {m : Nat} (T : HT h) (C : CS h 8 N nd) (W : WF N m) (hp : 0 ≤ p0 ∧ p0 < N 0) (hi : 0 ≤ p1 ∧ p1 < ((vsl N p0.toNat).length : Nat)) {K : Int → Prop} (k : K ((vsl N p0.toNat).getD p1.toNat 0 : Nat)) : w_X8_idAt p0 p1 K h := by
  unfold w_X8_idAt
  obtain ⟨a1, a2, a3⟩ := vsl_C W.1 C.2.1 (p := p0.toNat) (by unfold pc; omega)
  have b12 := W.1.2.1
  intro x1 ex1 rx1
  rw [wr_of (x := p0 * 8) (by omega) (by omega), wr_of (by omega) (by omega)] at ex1
  refine ⟨(by omega), ?_⟩
  rw [show x1.toNat = 8 * p0.toNat + p1.toNat by omega, a3 p1.toNat (by omega)]
  exact k
set_option maxHeartbeats 1000000 in
theorem c_X12_versionAt {p0 p1 : Int} {h : XH} {N : Nat → Int} {nd : Nat → ND} {m : Nat} (T : HT h) (C : CS h 8 N nd) (W : WF N m) {K : Int → Prop} {E : Nat → XH → Prop} (k0 : ¬ ((0 ≤ p0 ∧ p0 < N 0) ∧ (0 ≤ p1 ∧ p1 < ((vsl N p0.toNat).length : Nat))) → E 2 (nT h)) (k : ((0 ≤ p0 ∧ p0 < N 0) ∧ (0 ≤ p1 ∧ p1 < ((vsl N p0.toNat).length : Nat))) → K (nV N ((vsl N p0.toNat).getD p1.toNat 0) 1)) : w_X12_versionAt p0 p1 K E h := by
  unfold w_X12_versionAt
  refine c_X12_checkPack (fun q => k0 (fun z => q (by rw [(V80 C.1).1]; exact z.1))) (fun q1 q2 => ?_)
  rw [(V80 C.1).1] at q2
  have b12 := W.1.2.1
  obtain ⟨a1, a2, a3⟩ := vsl_C W.1 C.2.1 (p := p0.toNat) (by unfold pc; omega)
  refine ⟨¬ (0 ≤ p1 ∧ p1 < ((vsl N p0.toNat).length : Nat)), ?_, ?_⟩
  · intro z1
    exact k0 (fun z => z1 z.2)
  · refine ⟨fun c6 => ?_, fun c6 => ?_⟩
    · omega
    · refine ⟨(by first | decide | omega | ((try simp (disch := omega) only [wr_of] at *); omega)), ?_⟩
      refine ⟨fun c5 => ?_, fun c5 => ?_⟩
      · refine c_X8_idAt T C W ⟨q1, q2⟩ (by omega) ?_
        intro _
        have vg := vsl_get (N := N) (p := p0.toNat) (i := p1.toNat) (by omega)
        have w4 := W.1.2.2.2.1
        refine ⟨(by have := vg.1; unfold vc at this; omega), ?_⟩
        rw [Int.toNat_natCast, (V8 C.1 vg.1).2.1]
        exact k ⟨⟨q1, q2⟩, by omega⟩
      · omega
set_option maxHeartbeats 1000000 in
theorem c_L_versionAt {p0 p1 : Int} {h : XH} {N : Nat → Int} {nd : Nat → ND} {m : Nat} (T : HT h) (C : CS h 8 N nd) (W : WF N m)  {K : Int → XH → Prop} (k0 : ¬ ((0 ≤ p0 ∧ p0 < N 0) ∧ (0 ≤ p1 ∧ p1 < ((vsl N p0.toNat).length : Nat))) → K 1 (nT h)) (k : (0 ≤ p0 ∧ p0 < N 0) ∧ (0 ≤ p1 ∧ p1 < ((vsl N p0.toNat).length : Nat)) → ∀ h6, h6 = sL h 467 0 (i2l (nV N ((vsl N p0.toNat).getD p1.toNat 0) 1)) → K 0 h6) : w_L_versionAt p0 p1 K h := by
  unfold w_L_versionAt
  refine c_X12_versionAt T C W  (fun q => ⟨rfl, k0 q⟩) (fun q => ?_)
  intro _
  intro h4 eh4 t4 u4
  exact k q _ eh4
set_option maxHeartbeats 1000000 in
theorem c_X14_versionAt {p0 p1 : Int} {h : XH} {N : Nat → Int} {m : Nat} {nd : Nat → ND} (T : HT h) (eN : N = nw h) (W : WF N m) (P8 : P8N N) (CR : CaR h N nd) {K : Int → XH → Prop} (k0 : ¬ ((0 ≤ p0 ∧ p0 < N 0) ∧ (0 ≤ p1 ∧ p1 < ((vsl N p0.toNat).length : Nat))) → ∀ h1 h2 h3, HT h1 → h1 = sI h 437 5 0 → RSt h1 h2 nd 48 (24 * nA8) → HT h2 → h3 = sI h2 437 5 1 → K 0 h3) (k : ((0 ≤ p0 ∧ p0 < N 0) ∧ (0 ≤ p1 ∧ p1 < ((vsl N p0.toNat).length : Nat))) → ∀ h1 h2, HT h1 → h1 = sI h 437 5 0 → RSt h1 h2 nd 48 (24 * nA8) → K (nV N ((vsl N p0.toNat).getD p1.toNat 0) 1) h2) : w_X14_versionAt p0 p1 K h := by
  unfold w_X14_versionAt
  intro h1 eh1 t1 u1
  have eN1 : N = nw h1 := eN.trans (nw_fr (by rw [eh1]; exact sameC_sV (by decide))).symm
  have CR1 : CaR h1 N nd := by rw [eh1]; exact CaR_fr (fun b x _ => sameC_sV (by omega)) (fun j hj => el_ni (by omega)) (HT_len T) CR
  refine c_X14_isPack ?_ (by rw [show hI h1 438 0 = N 0 by rw [eN1]; rfl]; exact W.1.1)
  intro x2 qx2
  rw [show hI h1 438 0 = N 0 by rw [eN1]; rfl] at qx2
  have b12 := W.1.2.1
  intro rx2 vx2
  refine c_X14_refused qx2 ?_
  intro x3 h4 qx3
  intro t4 u4
  intro rx3 vx3
  refine ⟨fun g => ¬ ((0 ≤ p0 ∧ p0 < N 0) ∧ (0 ≤ p1 ∧ p1 < ((vsl N p0.toNat).length : Nat))) ∧ ∃ g2, RSt h1 g2 nd 48 (24 * nA8) ∧ HT g2 ∧ g = sI g2 437 5 1, ?_, ?_⟩
  · intro h5 t5 s5 z6
    obtain ⟨y1, g2, y2, y3, y4⟩ := z6
    exact k0 y1 _ _ _ t1 eh1 y2 y3 y4
  · refine ⟨fun c20 => ?_, fun c20 => ?_⟩
    · have q_ : ¬ (0 ≤ p0 ∧ p0 < N 0) ∧ h4 = sI h1 437 5 1 := by
        rcases qx3 with ⟨y, _⟩ | ⟨_, y, z⟩
        · omega
        · exact ⟨y, z⟩
      exact ⟨fun z => q_.1 z.1, h1, RSt_mono (RSt_rf _ _) (by omega) (by omega), t1, q_.2⟩
    · obtain ⟨b_, e_⟩ : (0 ≤ p0 ∧ p0 < N 0) ∧ h4 = h1 := by
        rcases qx3 with ⟨_, y, z⟩ | ⟨y, _⟩
        · exact ⟨y, z⟩
        · omega
      subst e_
      refine c_X14_versionsOf (by omega) t4 eN1 W P8 CR1 ?_
      intro a7 h8 r8 v8
      have p8 := P8 p0.toNat (by omega)
      have n8 := v8.2.2.1
      intro t8 u8
      refine ⟨v8.1, ?_⟩
      refine ⟨(by omega), ?_⟩
      refine c_X14_within ?_
      intro x11 qx11
      rw [wr_of (by omega) (by omega)] at qx11
      replace qx11 := bq_iff qx11 (show _ ↔ (0 ≤ p1 ∧ p1 < ((vsl N p0.toNat).length : Nat)) by omega)
      intro rx11 vx11
      refine c_X14_refused qx11 ?_
      intro x12 h13 qx12
      intro t13 u13
      intro rx12 vx12
      refine ⟨fun c19 => ?_, fun c19 => ?_⟩
      · obtain ⟨b_2, e_2⟩ : (0 ≤ p1 ∧ p1 < ((vsl N p0.toNat).length : Nat)) ∧ h13 = h8 := by
          rcases qx12 with ⟨_, y, z⟩ | ⟨y, _⟩
          · exact ⟨y, z⟩
          · omega
        subst e_2
        have n8e : nw h13 = N := (RSt_nw t4 r8).trans eN1.symm
        have CR8 : CaR h13 N nd := by have := r8.1; rw [← eN1] at this; exact this CR1
        refine c_X14_versionsOf (by omega) t13 n8e.symm W P8 CR8 ?_
        intro a14 h15 r15 v15
        have vg := vsl_get (N := N) (p := p0.toNat) (i := p1.toNat) (by omega)
        have w4 := W.1.2.2.2.1
        have vc4 : vc N = (N 4).toNat := rfl
        have n15 := v15.2.2.1
        intro t15 u15
        refine ⟨v15.1, ?_⟩
        refine ⟨(by omega), ?_⟩
        rw [v15.2.2.2 p1.toNat (by omega)]
        refine c_X14_ver (by omega) ?_
        intro x18 ex18
        intro rx18
        rw [show x18 = nV N ((vsl N p0.toNat).getD p1.toNat 0) 1 by rw [ex18, Int.toNat_natCast, ← n8e, ← RSt_nw t13 r15]; rfl]
        exact k ⟨b_, b_2⟩ _ _ t4 eh1 (RSt_mono (RSt_tr t4 u8.1 r8 r15) (by omega) (by omega))
      · have q_2 : ¬ (0 ≤ p1 ∧ p1 < ((vsl N p0.toNat).length : Nat)) ∧ h13 = sI h8 437 5 1 := by
          rcases qx12 with ⟨y, _⟩ | ⟨_, y, z⟩
          · omega
          · exact ⟨y, z⟩
        exact ⟨fun z => q_2.1 z.2, h8, RSt_mono r8 (by omega) (by omega), t8, q_2.2⟩
theorem d_versionAt {h : XH} {nd : Nat → ND} {o u p0 p1 : Int} {c : Nat} (T : HT h) (R : Inv h nd o u c) {K : Int → XH → Prop} {J : XH → Prop} (k : ∀ h' o' u', HT h' → Inv h' nd o' u' (c + 1) → Gr (1 + 48) (xcs none + (24 * nA8)) h h' → J h') : w_L_versionAt p0 p1 (LDw h (fun g Q => w_X14_versionAt p0 p1 Q g) K J) h :=
  dask (wL := fun Q => w_L_versionAt p0 p1 Q h) (wR := fun g Q => w_X14_versionAt p0 p1 Q g) (mkA T R (by decide) (fun Q k0 k => c_L_versionAt T R.1.1 R.1.2.1  k0 k)) (fun g Tg Rg eg => mkBr Tg Rg (rgk rfl) (by decide) (fun Q k0 k => c_X14_versionAt Tg eg.symm R.1.2.1 (P8_of R) (by have := Rg.2.2.2; rw [eg] at this; exact this)  k0 k)) k
